section
-- ===== PART A: goes FIRST, ahead of the names: the tables' words, and 'selects' of the private methods out of them =====
/-- a private method of a class that the tables say can be made, by its rows of tables_1 -/
def lw_okq (q : MethodName × Nat) : Prop := (q.1.cls ≠ "java/lang/invoke/MethodHandle" ∧ q.1.cls ≠ "java/lang/invoke/VarHandle") ∧ Cond.instantiable q.1.cls q.2 ∈ tables_1 ∧ Cond.privateMethod q.1 ∈ tables_1 ∧ Cond.instanceMethod q.1 ∈ tables_1
theorem lw_p0 : lw_okq (⟨"BeggingBoards$Oven", "isStartFree", "()Z"⟩, 9) := ⟨⟨by decide +kernel, by decide +kernel⟩, List.mem_of_getElem? (i := 25) (by decide +kernel), List.mem_of_getElem? (i := 226) (by decide +kernel), List.mem_of_getElem? (i := 227) (by decide +kernel)⟩
theorem lw_p1 : lw_okq (⟨"BeggingBoards$Oven", "letOnePass", "()I"⟩, 9) := ⟨⟨by decide +kernel, by decide +kernel⟩, List.mem_of_getElem? (i := 25) (by decide +kernel), List.mem_of_getElem? (i := 258) (by decide +kernel), List.mem_of_getElem? (i := 259) (by decide +kernel)⟩
theorem lw_p2 : lw_okq (⟨"BeggingBoards$Oven", "moveBoards", "()I"⟩, 9) := ⟨⟨by decide +kernel, by decide +kernel⟩, List.mem_of_getElem? (i := 25) (by decide +kernel), List.mem_of_getElem? (i := 262) (by decide +kernel), List.mem_of_getElem? (i := 263) (by decide +kernel)⟩
theorem lw_p3 : lw_okq (⟨"BeggingBoards$Oven", "zoneAt", "(I)I"⟩, 9) := ⟨⟨by decide +kernel, by decide +kernel⟩, List.mem_of_getElem? (i := 25) (by decide +kernel), List.mem_of_getElem? (i := 266) (by decide +kernel), List.mem_of_getElem? (i := 267) (by decide +kernel)⟩
theorem lw_p4 : lw_okq (⟨"BeggingBoards$Oven", "leave", "(II)V"⟩, 9) := ⟨⟨by decide +kernel, by decide +kernel⟩, List.mem_of_getElem? (i := 25) (by decide +kernel), List.mem_of_getElem? (i := 270) (by decide +kernel), List.mem_of_getElem? (i := 271) (by decide +kernel)⟩
theorem lw_p5 : lw_okq (⟨"BeggingBoards$Oven", "noteFault", "(III)V"⟩, 9) := ⟨⟨by decide +kernel, by decide +kernel⟩, List.mem_of_getElem? (i := 25) (by decide +kernel), List.mem_of_getElem? (i := 274) (by decide +kernel), List.mem_of_getElem? (i := 275) (by decide +kernel)⟩
theorem lw_p6 : lw_okq (⟨"BeggingBoards$Oven", "changeWarmths", "()V"⟩, 9) := ⟨⟨by decide +kernel, by decide +kernel⟩, List.mem_of_getElem? (i := 25) (by decide +kernel), List.mem_of_getElem? (i := 278) (by decide +kernel), List.mem_of_getElem? (i := 279) (by decide +kernel)⟩
theorem lw_p7 : lw_okq (⟨"BeggingBoards$Oven", "sumWeights", "()V"⟩, 9) := ⟨⟨by decide +kernel, by decide +kernel⟩, List.mem_of_getElem? (i := 25) (by decide +kernel), List.mem_of_getElem? (i := 282) (by decide +kernel), List.mem_of_getElem? (i := 283) (by decide +kernel)⟩
theorem lw_p8 : lw_okq (⟨"BeggingBoards$Oven", "warmBoards", "()V"⟩, 9) := ⟨⟨by decide +kernel, by decide +kernel⟩, List.mem_of_getElem? (i := 25) (by decide +kernel), List.mem_of_getElem? (i := 292) (by decide +kernel), List.mem_of_getElem? (i := 293) (by decide +kernel)⟩
theorem lw_p9 : lw_okq (⟨"BeggingBoards$Oven", "warm", "(I)V"⟩, 9) := ⟨⟨by decide +kernel, by decide +kernel⟩, List.mem_of_getElem? (i := 25) (by decide +kernel), List.mem_of_getElem? (i := 296) (by decide +kernel), List.mem_of_getElem? (i := 297) (by decide +kernel)⟩
theorem lw_p10 : lw_okq (⟨"BeggingBoards$Oven", "judgeOnBelt", "(I)V"⟩, 9) := ⟨⟨by decide +kernel, by decide +kernel⟩, List.mem_of_getElem? (i := 25) (by decide +kernel), List.mem_of_getElem? (i := 300) (by decide +kernel), List.mem_of_getElem? (i := 301) (by decide +kernel)⟩
theorem lw_p11 : lw_okq (⟨"BeggingBoards$Oven", "hearPleas", "()V"⟩, 9) := ⟨⟨by decide +kernel, by decide +kernel⟩, List.mem_of_getElem? (i := 25) (by decide +kernel), List.mem_of_getElem? (i := 304) (by decide +kernel), List.mem_of_getElem? (i := 305) (by decide +kernel)⟩
theorem lw_p12 : lw_okq (⟨"BeggingBoards$Oven", "weightForSlower", "()I"⟩, 9) := ⟨⟨by decide +kernel, by decide +kernel⟩, List.mem_of_getElem? (i := 25) (by decide +kernel), List.mem_of_getElem? (i := 308) (by decide +kernel), List.mem_of_getElem? (i := 309) (by decide +kernel)⟩
theorem lw_p13 : lw_okq (⟨"BeggingBoards", "faultsInTrial", "(III)I"⟩, 4) := ⟨⟨by decide +kernel, by decide +kernel⟩, List.mem_of_getElem? (i := 11) (by decide +kernel), List.mem_of_getElem? (i := 463) (by decide +kernel), List.mem_of_getElem? (i := 464) (by decide +kernel)⟩
theorem lw_p14 : lw_okq (⟨"BeggingBoardsModel", "copy", "(III)V"⟩, 8) := ⟨⟨by decide +kernel, by decide +kernel⟩, List.mem_of_getElem? (i := 480) (by decide +kernel), List.mem_of_getElem? (i := 521) (by decide +kernel), List.mem_of_getElem? (i := 522) (by decide +kernel)⟩
theorem lw_p15 : lw_okq (⟨"BeggingBoardsModel", "record", "()V"⟩, 8) := ⟨⟨by decide +kernel, by decide +kernel⟩, List.mem_of_getElem? (i := 480) (by decide +kernel), List.mem_of_getElem? (i := 532) (by decide +kernel), List.mem_of_getElem? (i := 533) (by decide +kernel)⟩
def lw_privs_1 : List (MethodName × Nat) := [(⟨"BeggingBoards$Oven", "isStartFree", "()Z"⟩, 9), (⟨"BeggingBoards$Oven", "letOnePass", "()I"⟩, 9), (⟨"BeggingBoards$Oven", "moveBoards", "()I"⟩, 9), (⟨"BeggingBoards$Oven", "zoneAt", "(I)I"⟩, 9), (⟨"BeggingBoards$Oven", "leave", "(II)V"⟩, 9), (⟨"BeggingBoards$Oven", "noteFault", "(III)V"⟩, 9), (⟨"BeggingBoards$Oven", "changeWarmths", "()V"⟩, 9), (⟨"BeggingBoards$Oven", "sumWeights", "()V"⟩, 9), (⟨"BeggingBoards$Oven", "warmBoards", "()V"⟩, 9), (⟨"BeggingBoards$Oven", "warm", "(I)V"⟩, 9), (⟨"BeggingBoards$Oven", "judgeOnBelt", "(I)V"⟩, 9), (⟨"BeggingBoards$Oven", "hearPleas", "()V"⟩, 9), (⟨"BeggingBoards$Oven", "weightForSlower", "()I"⟩, 9), (⟨"BeggingBoards", "faultsInTrial", "(III)I"⟩, 4), (⟨"BeggingBoardsModel", "copy", "(III)V"⟩, 8), (⟨"BeggingBoardsModel", "record", "()V"⟩, 8)]
theorem lw_r1 : ∀ q ∈ lw_privs_1, lw_okq q := List.forall_mem_cons.mpr ⟨lw_p0, List.forall_mem_cons.mpr ⟨lw_p1, List.forall_mem_cons.mpr ⟨lw_p2, List.forall_mem_cons.mpr ⟨lw_p3, List.forall_mem_cons.mpr ⟨lw_p4, List.forall_mem_cons.mpr ⟨lw_p5, List.forall_mem_cons.mpr ⟨lw_p6, List.forall_mem_cons.mpr ⟨lw_p7, List.forall_mem_cons.mpr ⟨lw_p8, List.forall_mem_cons.mpr ⟨lw_p9, List.forall_mem_cons.mpr ⟨lw_p10, List.forall_mem_cons.mpr ⟨lw_p11, List.forall_mem_cons.mpr ⟨lw_p12, List.forall_mem_cons.mpr ⟨lw_p13, List.forall_mem_cons.mpr ⟨lw_p14, List.forall_mem_cons.mpr ⟨lw_p15, fun _ h => absurd h List.not_mem_nil⟩⟩⟩⟩⟩⟩⟩⟩⟩⟩⟩⟩⟩⟩⟩⟩
theorem lw_p16 : lw_okq (⟨"BeggingBoardsModel", "many", "(I)I"⟩, 8) := ⟨⟨by decide +kernel, by decide +kernel⟩, List.mem_of_getElem? (i := 480) (by decide +kernel), List.mem_of_getElem? (i := 547) (by decide +kernel), List.mem_of_getElem? (i := 548) (by decide +kernel)⟩
theorem lw_p17 : lw_okq (⟨"BeggingBoardsModel", "belt", "()I"⟩, 8) := ⟨⟨by decide +kernel, by decide +kernel⟩, List.mem_of_getElem? (i := 480) (by decide +kernel), List.mem_of_getElem? (i := 554) (by decide +kernel), List.mem_of_getElem? (i := 555) (by decide +kernel)⟩
theorem lw_p18 : lw_okq (⟨"BeggingBoardsModel", "put", "(ZII)I"⟩, 8) := ⟨⟨by decide +kernel, by decide +kernel⟩, List.mem_of_getElem? (i := 480) (by decide +kernel), List.mem_of_getElem? (i := 568) (by decide +kernel), List.mem_of_getElem? (i := 569) (by decide +kernel)⟩
theorem lw_p19 : lw_okq (⟨"BeggingBoardsModel", "noLoad", "(II)I"⟩, 8) := ⟨⟨by decide +kernel, by decide +kernel⟩, List.mem_of_getElem? (i := 480) (by decide +kernel), List.mem_of_getElem? (i := 583) (by decide +kernel), List.mem_of_getElem? (i := 584) (by decide +kernel)⟩
theorem lw_p20 : lw_okq (⟨"BeggingBoardsModel", "hasRoom", "()Z"⟩, 8) := ⟨⟨by decide +kernel, by decide +kernel⟩, List.mem_of_getElem? (i := 480) (by decide +kernel), List.mem_of_getElem? (i := 587) (by decide +kernel), List.mem_of_getElem? (i := 588) (by decide +kernel)⟩
theorem lw_p21 : lw_okq (⟨"BeggingBoardsModel", "isOn", "(I)Z"⟩, 8) := ⟨⟨by decide +kernel, by decide +kernel⟩, List.mem_of_getElem? (i := 480) (by decide +kernel), List.mem_of_getElem? (i := 591) (by decide +kernel), List.mem_of_getElem? (i := 592) (by decide +kernel)⟩
theorem lw_p22 : lw_okq (⟨"BeggingBoardsModel", "doLoad", "(II)I"⟩, 8) := ⟨⟨by decide +kernel, by decide +kernel⟩, List.mem_of_getElem? (i := 480) (by decide +kernel), List.mem_of_getElem? (i := 595) (by decide +kernel), List.mem_of_getElem? (i := 596) (by decide +kernel)⟩
theorem lw_p23 : lw_okq (⟨"BeggingBoardsModel", "lay", "(III)V"⟩, 8) := ⟨⟨by decide +kernel, by decide +kernel⟩, List.mem_of_getElem? (i := 480) (by decide +kernel), List.mem_of_getElem? (i := 599) (by decide +kernel), List.mem_of_getElem? (i := 600) (by decide +kernel)⟩
theorem lw_p24 : lw_okq (⟨"BeggingBoardsModel", "noTakeOff", "(I)I"⟩, 8) := ⟨⟨by decide +kernel, by decide +kernel⟩, List.mem_of_getElem? (i := 480) (by decide +kernel), List.mem_of_getElem? (i := 607) (by decide +kernel), List.mem_of_getElem? (i := 608) (by decide +kernel)⟩
theorem lw_p25 : lw_okq (⟨"BeggingBoardsModel", "isBoard", "(I)Z"⟩, 8) := ⟨⟨by decide +kernel, by decide +kernel⟩, List.mem_of_getElem? (i := 480) (by decide +kernel), List.mem_of_getElem? (i := 611) (by decide +kernel), List.mem_of_getElem? (i := 612) (by decide +kernel)⟩
theorem lw_p26 : lw_okq (⟨"BeggingBoardsModel", "noPass", "(I)I"⟩, 8) := ⟨⟨by decide +kernel, by decide +kernel⟩, List.mem_of_getElem? (i := 480) (by decide +kernel), List.mem_of_getElem? (i := 619) (by decide +kernel), List.mem_of_getElem? (i := 620) (by decide +kernel)⟩
theorem lw_p27 : lw_okq (⟨"BeggingBoardsModel", "doPass", "(I)I"⟩, 8) := ⟨⟨by decide +kernel, by decide +kernel⟩, List.mem_of_getElem? (i := 480) (by decide +kernel), List.mem_of_getElem? (i := 623) (by decide +kernel), List.mem_of_getElem? (i := 624) (by decide +kernel)⟩
theorem lw_p28 : lw_okq (⟨"BeggingBoardsModel", "tick", "()V"⟩, 8) := ⟨⟨by decide +kernel, by decide +kernel⟩, List.mem_of_getElem? (i := 480) (by decide +kernel), List.mem_of_getElem? (i := 627) (by decide +kernel), List.mem_of_getElem? (i := 628) (by decide +kernel)⟩
theorem lw_p29 : lw_okq (⟨"BeggingBoardsModel", "goOn", "(I)V"⟩, 8) := ⟨⟨by decide +kernel, by decide +kernel⟩, List.mem_of_getElem? (i := 480) (by decide +kernel), List.mem_of_getElem? (i := 631) (by decide +kernel), List.mem_of_getElem? (i := 632) (by decide +kernel)⟩
theorem lw_p30 : lw_okq (⟨"BeggingBoardsModel", "curveOf", "(II)I"⟩, 8) := ⟨⟨by decide +kernel, by decide +kernel⟩, List.mem_of_getElem? (i := 480) (by decide +kernel), List.mem_of_getElem? (i := 635) (by decide +kernel), List.mem_of_getElem? (i := 636) (by decide +kernel)⟩
theorem lw_p31 : lw_okq (⟨"BeggingBoardsModel", "faultIf", "(ZIII)V"⟩, 8) := ⟨⟨by decide +kernel, by decide +kernel⟩, List.mem_of_getElem? (i := 480) (by decide +kernel), List.mem_of_getElem? (i := 639) (by decide +kernel), List.mem_of_getElem? (i := 640) (by decide +kernel)⟩
def lw_privs_2 : List (MethodName × Nat) := [(⟨"BeggingBoardsModel", "many", "(I)I"⟩, 8), (⟨"BeggingBoardsModel", "belt", "()I"⟩, 8), (⟨"BeggingBoardsModel", "put", "(ZII)I"⟩, 8), (⟨"BeggingBoardsModel", "noLoad", "(II)I"⟩, 8), (⟨"BeggingBoardsModel", "hasRoom", "()Z"⟩, 8), (⟨"BeggingBoardsModel", "isOn", "(I)Z"⟩, 8), (⟨"BeggingBoardsModel", "doLoad", "(II)I"⟩, 8), (⟨"BeggingBoardsModel", "lay", "(III)V"⟩, 8), (⟨"BeggingBoardsModel", "noTakeOff", "(I)I"⟩, 8), (⟨"BeggingBoardsModel", "isBoard", "(I)Z"⟩, 8), (⟨"BeggingBoardsModel", "noPass", "(I)I"⟩, 8), (⟨"BeggingBoardsModel", "doPass", "(I)I"⟩, 8), (⟨"BeggingBoardsModel", "tick", "()V"⟩, 8), (⟨"BeggingBoardsModel", "goOn", "(I)V"⟩, 8), (⟨"BeggingBoardsModel", "curveOf", "(II)I"⟩, 8), (⟨"BeggingBoardsModel", "faultIf", "(ZIII)V"⟩, 8)]
theorem lw_r2 : ∀ q ∈ lw_privs_2, lw_okq q := List.forall_mem_cons.mpr ⟨lw_p16, List.forall_mem_cons.mpr ⟨lw_p17, List.forall_mem_cons.mpr ⟨lw_p18, List.forall_mem_cons.mpr ⟨lw_p19, List.forall_mem_cons.mpr ⟨lw_p20, List.forall_mem_cons.mpr ⟨lw_p21, List.forall_mem_cons.mpr ⟨lw_p22, List.forall_mem_cons.mpr ⟨lw_p23, List.forall_mem_cons.mpr ⟨lw_p24, List.forall_mem_cons.mpr ⟨lw_p25, List.forall_mem_cons.mpr ⟨lw_p26, List.forall_mem_cons.mpr ⟨lw_p27, List.forall_mem_cons.mpr ⟨lw_p28, List.forall_mem_cons.mpr ⟨lw_p29, List.forall_mem_cons.mpr ⟨lw_p30, List.forall_mem_cons.mpr ⟨lw_p31, fun _ h => absurd h List.not_mem_nil⟩⟩⟩⟩⟩⟩⟩⟩⟩⟩⟩⟩⟩⟩⟩⟩
theorem lw_p32 : lw_okq (⟨"BeggingBoardsModel", "heat", "(I)V"⟩, 8) := ⟨⟨by decide +kernel, by decide +kernel⟩, List.mem_of_getElem? (i := 480) (by decide +kernel), List.mem_of_getElem? (i := 643) (by decide +kernel), List.mem_of_getElem? (i := 644) (by decide +kernel)⟩
theorem lw_p33 : lw_okq (⟨"BeggingBoardsModel", "weightsIn", "(I)I"⟩, 8) := ⟨⟨by decide +kernel, by decide +kernel⟩, List.mem_of_getElem? (i := 480) (by decide +kernel), List.mem_of_getElem? (i := 647) (by decide +kernel), List.mem_of_getElem? (i := 648) (by decide +kernel)⟩
theorem lw_p34 : lw_okq (⟨"BeggingBoardsModel", "zoneOf", "(I)I"⟩, 8) := ⟨⟨by decide +kernel, by decide +kernel⟩, List.mem_of_getElem? (i := 480) (by decide +kernel), List.mem_of_getElem? (i := 651) (by decide +kernel), List.mem_of_getElem? (i := 652) (by decide +kernel)⟩
theorem lw_p35 : lw_okq (⟨"BeggingBoardsModel", "warmUp", "(I)V"⟩, 8) := ⟨⟨by decide +kernel, by decide +kernel⟩, List.mem_of_getElem? (i := 480) (by decide +kernel), List.mem_of_getElem? (i := 655) (by decide +kernel), List.mem_of_getElem? (i := 656) (by decide +kernel)⟩
theorem lw_p36 : lw_okq (⟨"BeggingBoardsModel", "hear", "()V"⟩, 8) := ⟨⟨by decide +kernel, by decide +kernel⟩, List.mem_of_getElem? (i := 480) (by decide +kernel), List.mem_of_getElem? (i := 659) (by decide +kernel), List.mem_of_getElem? (i := 660) (by decide +kernel)⟩
theorem lw_p37 : lw_okq (⟨"BeggingBoardsModel", "faultOf", "()I"⟩, 8) := ⟨⟨by decide +kernel, by decide +kernel⟩, List.mem_of_getElem? (i := 480) (by decide +kernel), List.mem_of_getElem? (i := 675) (by decide +kernel), List.mem_of_getElem? (i := 676) (by decide +kernel)⟩
theorem lw_p38 : lw_okq (⟨"BeggingBoardsModel", "readsOrder", "()Z"⟩, 8) := ⟨⟨by decide +kernel, by decide +kernel⟩, List.mem_of_getElem? (i := 480) (by decide +kernel), List.mem_of_getElem? (i := 679) (by decide +kernel), List.mem_of_getElem? (i := 680) (by decide +kernel)⟩
theorem lw_p39 : lw_okq (⟨"BeggingBoardsModel", "code", "()I"⟩, 8) := ⟨⟨by decide +kernel, by decide +kernel⟩, List.mem_of_getElem? (i := 480) (by decide +kernel), List.mem_of_getElem? (i := 683) (by decide +kernel), List.mem_of_getElem? (i := 684) (by decide +kernel)⟩
theorem lw_p40 : lw_okq (⟨"BeggingBoardsModel", "number", "()I"⟩, 8) := ⟨⟨by decide +kernel, by decide +kernel⟩, List.mem_of_getElem? (i := 480) (by decide +kernel), List.mem_of_getElem? (i := 687) (by decide +kernel), List.mem_of_getElem? (i := 688) (by decide +kernel)⟩
theorem lw_p41 : lw_okq (⟨"BeggingBoardsModel", "isDigit", "()Z"⟩, 8) := ⟨⟨by decide +kernel, by decide +kernel⟩, List.mem_of_getElem? (i := 480) (by decide +kernel), List.mem_of_getElem? (i := 691) (by decide +kernel), List.mem_of_getElem? (i := 692) (by decide +kernel)⟩
theorem lw_p42 : lw_okq (⟨"BeggingBoardsModel", "does", "()Z"⟩, 8) := ⟨⟨by decide +kernel, by decide +kernel⟩, List.mem_of_getElem? (i := 480) (by decide +kernel), List.mem_of_getElem? (i := 695) (by decide +kernel), List.mem_of_getElem? (i := 696) (by decide +kernel)⟩
theorem lw_p43 : lw_okq (⟨"BeggingBoardsModel", "faultless", "()I"⟩, 8) := ⟨⟨by decide +kernel, by decide +kernel⟩, List.mem_of_getElem? (i := 480) (by decide +kernel), List.mem_of_getElem? (i := 703) (by decide +kernel), List.mem_of_getElem? (i := 704) (by decide +kernel)⟩
theorem lw_p44 : lw_okq (⟨"BeggingBoardsModel", "firstCell", "(I)I"⟩, 8) := ⟨⟨by decide +kernel, by decide +kernel⟩, List.mem_of_getElem? (i := 480) (by decide +kernel), List.mem_of_getElem? (i := 711) (by decide +kernel), List.mem_of_getElem? (i := 712) (by decide +kernel)⟩
theorem lw_p45 : lw_okq (⟨"BeggingBoardsModel", "boardsIn", "(I)I"⟩, 8) := ⟨⟨by decide +kernel, by decide +kernel⟩, List.mem_of_getElem? (i := 480) (by decide +kernel), List.mem_of_getElem? (i := 715) (by decide +kernel), List.mem_of_getElem? (i := 716) (by decide +kernel)⟩
theorem lw_p46 : lw_okq (⟨"BeggingBoardsModel", "hasFault", "(II)Z"⟩, 8) := ⟨⟨by decide +kernel, by decide +kernel⟩, List.mem_of_getElem? (i := 480) (by decide +kernel), List.mem_of_getElem? (i := 731) (by decide +kernel), List.mem_of_getElem? (i := 732) (by decide +kernel)⟩
theorem lw_p47 : lw_okq (⟨"BeggingBoardsModel", "faultsIn", "(II)I"⟩, 8) := ⟨⟨by decide +kernel, by decide +kernel⟩, List.mem_of_getElem? (i := 480) (by decide +kernel), List.mem_of_getElem? (i := 739) (by decide +kernel), List.mem_of_getElem? (i := 740) (by decide +kernel)⟩
def lw_privs_3 : List (MethodName × Nat) := [(⟨"BeggingBoardsModel", "heat", "(I)V"⟩, 8), (⟨"BeggingBoardsModel", "weightsIn", "(I)I"⟩, 8), (⟨"BeggingBoardsModel", "zoneOf", "(I)I"⟩, 8), (⟨"BeggingBoardsModel", "warmUp", "(I)V"⟩, 8), (⟨"BeggingBoardsModel", "hear", "()V"⟩, 8), (⟨"BeggingBoardsModel", "faultOf", "()I"⟩, 8), (⟨"BeggingBoardsModel", "readsOrder", "()Z"⟩, 8), (⟨"BeggingBoardsModel", "code", "()I"⟩, 8), (⟨"BeggingBoardsModel", "number", "()I"⟩, 8), (⟨"BeggingBoardsModel", "isDigit", "()Z"⟩, 8), (⟨"BeggingBoardsModel", "does", "()Z"⟩, 8), (⟨"BeggingBoardsModel", "faultless", "()I"⟩, 8), (⟨"BeggingBoardsModel", "firstCell", "(I)I"⟩, 8), (⟨"BeggingBoardsModel", "boardsIn", "(I)I"⟩, 8), (⟨"BeggingBoardsModel", "hasFault", "(II)Z"⟩, 8), (⟨"BeggingBoardsModel", "faultsIn", "(II)I"⟩, 8)]
theorem lw_r3 : ∀ q ∈ lw_privs_3, lw_okq q := List.forall_mem_cons.mpr ⟨lw_p32, List.forall_mem_cons.mpr ⟨lw_p33, List.forall_mem_cons.mpr ⟨lw_p34, List.forall_mem_cons.mpr ⟨lw_p35, List.forall_mem_cons.mpr ⟨lw_p36, List.forall_mem_cons.mpr ⟨lw_p37, List.forall_mem_cons.mpr ⟨lw_p38, List.forall_mem_cons.mpr ⟨lw_p39, List.forall_mem_cons.mpr ⟨lw_p40, List.forall_mem_cons.mpr ⟨lw_p41, List.forall_mem_cons.mpr ⟨lw_p42, List.forall_mem_cons.mpr ⟨lw_p43, List.forall_mem_cons.mpr ⟨lw_p44, List.forall_mem_cons.mpr ⟨lw_p45, List.forall_mem_cons.mpr ⟨lw_p46, List.forall_mem_cons.mpr ⟨lw_p47, fun _ h => absurd h List.not_mem_nil⟩⟩⟩⟩⟩⟩⟩⟩⟩⟩⟩⟩⟩⟩⟩⟩
theorem lw_p48 : lw_okq (⟨"BeggingBoardsModel", "ride", "(I)I"⟩, 8) := ⟨⟨by decide +kernel, by decide +kernel⟩, List.mem_of_getElem? (i := 480) (by decide +kernel), List.mem_of_getElem? (i := 751) (by decide +kernel), List.mem_of_getElem? (i := 752) (by decide +kernel)⟩
theorem lw_p49 : lw_okq (⟨"BeggingBoardsModel", "failsBy", "(III)I"⟩, 8) := ⟨⟨by decide +kernel, by decide +kernel⟩, List.mem_of_getElem? (i := 480) (by decide +kernel), List.mem_of_getElem? (i := 759) (by decide +kernel), List.mem_of_getElem? (i := 760) (by decide +kernel)⟩
def lw_privs_4 : List (MethodName × Nat) := [(⟨"BeggingBoardsModel", "ride", "(I)I"⟩, 8), (⟨"BeggingBoardsModel", "failsBy", "(III)I"⟩, 8)]
theorem lw_r4 : ∀ q ∈ lw_privs_4, lw_okq q := List.forall_mem_cons.mpr ⟨lw_p48, List.forall_mem_cons.mpr ⟨lw_p49, fun _ h => absurd h List.not_mem_nil⟩⟩
def lw_privs : List (MethodName × Nat) := lw_privs_1 ++ (lw_privs_2 ++ (lw_privs_3 ++ (lw_privs_4)))
def lw_tbl : List Cond := k2_sels lw_privs ++ tables_1
theorem lw_privs_ok : ∀ q ∈ lw_privs, lw_okq q := by
  show ∀ q ∈ lw_privs_1 ++ (lw_privs_2 ++ (lw_privs_3 ++ (lw_privs_4))), lw_okq q
  exact List.forall_mem_append.mpr ⟨lw_r1, List.forall_mem_append.mpr ⟨lw_r2, List.forall_mem_append.mpr ⟨lw_r3, lw_r4⟩⟩⟩
end
section
def RX0 : String := "BeggingBoards$History"
def TX0 : u_T := fun k => match k with
  | 0 => ("BeggingBoards$History", "rows", "[LBeggingBoards$Moment;", true)
  | 1 => ("BeggingBoards$History", "oldest", "I", false)
  | _ => ("BeggingBoards$History", "recorded", "I", false)
def tyX0 : Nat → FieldType := fun k => match k with
  | 0 => .array (.object "BeggingBoards$Moment")
  | 1 => .int
  | _ => .int
theorem nmX0 : ∀ a, a < 3 → ∀ b, b < 3 → a ≠ b → (TX0 a).2.1 ≠ (TX0 b).2.1 := by decide +kernel
theorem tyX0_ok : ∀ k, k < 3 → parseFieldDescriptor (TX0 k).2.2.1 = some (tyX0 k) := by decide +kernel
abbrev cX0_init : ByteArray := prog_2_method_1_code
def yX0_init : MethodName := ⟨RX0, "<init>", "()V"⟩
abbrev cX0_keep : ByteArray := prog_2_method_2_code
def yX0_keep : MethodName := ⟨RX0, "keep", "(LBeggingBoards$Moment;)V"⟩
abbrev cX0_recordUnlessError : ByteArray := prog_2_method_3_code
def yX0_recordUnlessError : MethodName := ⟨RX0, "recordUnlessError", "(I)I"⟩
abbrev cX0_goBack : ByteArray := prog_2_method_4_code
def yX0_goBack : MethodName := ⟨RX0, "goBack", "(LBeggingBoards$Moment;)I"⟩
def RX1 : String := "BeggingBoards$Moment"
def TX1 : u_T := fun k => match k with
  | 0 => ("BeggingBoards$Moment", "oven", "LBeggingBoards$Oven;", true)
  | 1 => ("BeggingBoards$Moment", "slots", "[LBeggingBoards$Oven;", true)
  | _ => ("BeggingBoards$Moment", "filled", "[Z", true)
def tyX1 : Nat → FieldType := fun k => match k with
  | 0 => .object "BeggingBoards$Oven"
  | 1 => .array (.object "BeggingBoards$Oven")
  | _ => .array .boolean
theorem nmX1 : ∀ a, a < 3 → ∀ b, b < 3 → a ≠ b → (TX1 a).2.1 ≠ (TX1 b).2.1 := by decide +kernel
theorem tyX1_ok : ∀ k, k < 3 → parseFieldDescriptor (TX1 k).2.2.1 = some (tyX1 k) := by decide +kernel
abbrev cX1_init : ByteArray := prog_3_method_1_code
def yX1_init : MethodName := ⟨RX1, "<init>", "()V"⟩
abbrev cX1_become : ByteArray := prog_3_method_2_code
def yX1_become : MethodName := ⟨RX1, "become", "(LBeggingBoards$Moment;)V"⟩
abbrev cX1_takeSnapshot : ByteArray := prog_3_method_3_code
def yX1_takeSnapshot : MethodName := ⟨RX1, "takeSnapshot", "(I)I"⟩
abbrev cX1_restoreSnapshot : ByteArray := prog_3_method_4_code
def yX1_restoreSnapshot : MethodName := ⟨RX1, "restoreSnapshot", "(I)I"⟩
abbrev cX1_snapshots : ByteArray := prog_3_method_5_code
def yX1_snapshots : MethodName := ⟨RX1, "snapshots", "()I"⟩
def RX2 : String := "BeggingBoards$Oven"
def TX2 : u_T := fun k => match k with
  | 0 => ("BeggingBoards$Oven", "zones", "[I", true)
  | 1 => ("BeggingBoards$Oven", "curves", "[I", true)
  | 2 => ("BeggingBoards$Oven", "numbers", "[I", true)
  | 3 => ("BeggingBoards$Oven", "boards", "[I", true)
  | 4 => ("BeggingBoards$Oven", "weights", "[I", true)
  | 5 => ("BeggingBoards$Oven", "ticks", "I", false)
  | 6 => ("BeggingBoards$Oven", "loaded", "I", false)
  | 7 => ("BeggingBoards$Oven", "slowed", "I", false)
  | _ => ("BeggingBoards$Oven", "hastened", "I", false)
def tyX2 : Nat → FieldType := fun k => match k with
  | 0 => .array .int
  | 1 => .array .int
  | 2 => .array .int
  | 3 => .array .int
  | 4 => .array .int
  | 5 => .int
  | 6 => .int
  | 7 => .int
  | _ => .int
theorem nmX2 : ∀ a, a < 9 → ∀ b, b < 9 → a ≠ b → (TX2 a).2.1 ≠ (TX2 b).2.1 := by decide +kernel
theorem tyX2_ok : ∀ k, k < 9 → parseFieldDescriptor (TX2 k).2.2.1 = some (tyX2 k) := by decide +kernel
abbrev cX2_init : ByteArray := prog_4_method_1_code
def yX2_init : MethodName := ⟨RX2, "<init>", "()V"⟩
abbrev cX2_become : ByteArray := prog_4_method_2_code
def yX2_become : MethodName := ⟨RX2, "become", "(LBeggingBoards$Oven;)V"⟩
abbrev cX2_changeZone : ByteArray := prog_4_method_3_code
def yX2_changeZone : MethodName := ⟨RX2, "changeZone", "(IIII)I"⟩
abbrev cX2_changeCurve : ByteArray := prog_4_method_4_code
def yX2_changeCurve : MethodName := ⟨RX2, "changeCurve", "(III)I"⟩
abbrev cX2_changeNumber : ByteArray := prog_4_method_5_code
def yX2_changeNumber : MethodName := ⟨RX2, "changeNumber", "(II)I"⟩
abbrev cX2_addBoard : ByteArray := prog_4_method_6_code
def yX2_addBoard : MethodName := ⟨RX2, "addBoard", "(II)I"⟩
abbrev cX2_removeBoard : ByteArray := prog_4_method_7_code
def yX2_removeBoard : MethodName := ⟨RX2, "removeBoard", "(I)I"⟩
abbrev cX2_letPass : ByteArray := prog_4_method_8_code
def yX2_letPass : MethodName := ⟨RX2, "letPass", "(I)I"⟩
abbrev cX2_obey : ByteArray := prog_4_method_9_code
def yX2_obey : MethodName := ⟨RX2, "obey", "(III)I"⟩
abbrev cX2_placeBoard : ByteArray := prog_4_method_10_code
def yX2_placeBoard : MethodName := ⟨RX2, "placeBoard", "(II)I"⟩
abbrev cX2_passUntilLeft : ByteArray := prog_4_method_11_code
def yX2_passUntilLeft : MethodName := ⟨RX2, "passUntilLeft", "(I)I"⟩
abbrev cX2_passUntilFree : ByteArray := prog_4_method_12_code
def yX2_passUntilFree : MethodName := ⟨RX2, "passUntilFree", "()I"⟩
abbrev cX2_letOnePass : ByteArray := prog_4_method_13_code
def yX2_letOnePass : MethodName := ⟨RX2, "letOnePass", "()I"⟩
abbrev cX2_moveBoards : ByteArray := prog_4_method_14_code
def yX2_moveBoards : MethodName := ⟨RX2, "moveBoards", "()I"⟩
abbrev cX2_leave : ByteArray := prog_4_method_15_code
def yX2_leave : MethodName := ⟨RX2, "leave", "(II)V"⟩
abbrev cX2_changeWarmths : ByteArray := prog_4_method_16_code
def yX2_changeWarmths : MethodName := ⟨RX2, "changeWarmths", "()V"⟩
abbrev cX2_sumWeights : ByteArray := prog_4_method_17_code
def yX2_sumWeights : MethodName := ⟨RX2, "sumWeights", "()V"⟩
abbrev cX2_warmBoards : ByteArray := prog_4_method_18_code
def yX2_warmBoards : MethodName := ⟨RX2, "warmBoards", "()V"⟩
abbrev cX2_warm : ByteArray := prog_4_method_19_code
def yX2_warm : MethodName := ⟨RX2, "warm", "(I)V"⟩
abbrev cX2_judgeOnBelt : ByteArray := prog_4_method_20_code
def yX2_judgeOnBelt : MethodName := ⟨RX2, "judgeOnBelt", "(I)V"⟩
abbrev cX2_noteFault : ByteArray := prog_4_method_21_code
def yX2_noteFault : MethodName := ⟨RX2, "noteFault", "(III)V"⟩
abbrev cX2_hearPleas : ByteArray := prog_4_method_22_code
def yX2_hearPleas : MethodName := ⟨RX2, "hearPleas", "()V"⟩
abbrev cX2_weightForSlower : ByteArray := prog_4_method_23_code
def yX2_weightForSlower : MethodName := ⟨RX2, "weightForSlower", "()I"⟩
abbrev cX2_hasBoard : ByteArray := prog_4_method_24_code
def yX2_hasBoard : MethodName := ⟨RX2, "hasBoard", "(I)Z"⟩
abbrev cX2_isOnBelt : ByteArray := prog_4_method_25_code
def yX2_isOnBelt : MethodName := ⟨RX2, "isOnBelt", "(I)Z"⟩
abbrev cX2_isStartFree : ByteArray := prog_4_method_26_code
def yX2_isStartFree : MethodName := ⟨RX2, "isStartFree", "()Z"⟩
abbrev cX2_beltLength : ByteArray := prog_4_method_27_code
def yX2_beltLength : MethodName := ⟨RX2, "beltLength", "()I"⟩
abbrev cX2_firstCellOf : ByteArray := prog_4_method_28_code
def yX2_firstCellOf : MethodName := ⟨RX2, "firstCellOf", "(I)I"⟩
abbrev cX2_zoneAt : ByteArray := prog_4_method_29_code
def yX2_zoneAt : MethodName := ⟨RX2, "zoneAt", "(I)I"⟩
abbrev cX2_boardsThatAre : ByteArray := prog_4_method_30_code
def yX2_boardsThatAre : MethodName := ⟨RX2, "boardsThatAre", "(I)I"⟩
abbrev cX2_boardsLeftFaultless : ByteArray := prog_4_method_31_code
def yX2_boardsLeftFaultless : MethodName := ⟨RX2, "boardsLeftFaultless", "()I"⟩
abbrev cX2_boardsIn : ByteArray := prog_4_method_32_code
def yX2_boardsIn : MethodName := ⟨RX2, "boardsIn", "(I)I"⟩
abbrev cX2_weightIn : ByteArray := prog_4_method_33_code
def yX2_weightIn : MethodName := ⟨RX2, "weightIn", "(I)I"⟩
abbrev cX2_boardsWithFault : ByteArray := prog_4_method_34_code
def yX2_boardsWithFault : MethodName := ⟨RX2, "boardsWithFault", "(II)I"⟩
abbrev cX2_setOfFaultCells : ByteArray := prog_4_method_35_code
def yX2_setOfFaultCells : MethodName := ⟨RX2, "setOfFaultCells", "()J"⟩
def RX3 : String := "BeggingBoards$Text"
def TX3 : u_T := fun k => match k with
  | 0 => ("BeggingBoards$Text", "characters", "[I", true)
  | 1 => ("BeggingBoards$Text", "length", "I", false)
  | 2 => ("BeggingBoards$Text", "read", "I", false)
  | 3 => ("BeggingBoards$Text", "letter", "I", false)
  | 4 => ("BeggingBoards$Text", "curve", "I", false)
  | _ => ("BeggingBoards$Text", "number", "I", false)
def tyX3 : Nat → FieldType := fun k => match k with
  | 0 => .array .int
  | 1 => .int
  | 2 => .int
  | 3 => .int
  | 4 => .int
  | _ => .int
theorem nmX3 : ∀ a, a < 6 → ∀ b, b < 6 → a ≠ b → (TX3 a).2.1 ≠ (TX3 b).2.1 := by decide +kernel
theorem tyX3_ok : ∀ k, k < 6 → parseFieldDescriptor (TX3 k).2.2.1 = some (tyX3 k) := by decide +kernel
abbrev cX3_init : ByteArray := prog_5_method_1_code
def yX3_init : MethodName := ⟨RX3, "<init>", "()V"⟩
abbrev cX3_add : ByteArray := prog_5_method_2_code
def yX3_add : MethodName := ⟨RX3, "add", "(I)I"⟩
abbrev cX3_wipe : ByteArray := prog_5_method_3_code
def yX3_wipe : MethodName := ⟨RX3, "wipe", "()I"⟩
abbrev cX3_firstFault : ByteArray := prog_5_method_4_code
def yX3_firstFault : MethodName := ⟨RX3, "firstFault", "()I"⟩
abbrev cX3_placeAfter : ByteArray := prog_5_method_5_code
def yX3_placeAfter : MethodName := ⟨RX3, "placeAfter", "(II)I"⟩
abbrev cX3_placeAfterLetter : ByteArray := prog_5_method_6_code
def yX3_placeAfterLetter : MethodName := ⟨RX3, "placeAfterLetter", "(I)I"⟩
abbrev cX3_placeAfterFirstDigit : ByteArray := prog_5_method_7_code
def yX3_placeAfterFirstDigit : MethodName := ⟨RX3, "placeAfterFirstDigit", "(III)I"⟩
abbrev cX3_isDigit : ByteArray := prog_5_method_8_code
def yX3_isDigit : MethodName := ⟨RX3, "isDigit", "(I)Z"⟩
abbrev cX3_readOrder : ByteArray := prog_5_method_9_code
def yX3_readOrder : MethodName := ⟨RX3, "readOrder", "()Z"⟩
def RX4 : String := "BeggingBoards"
def TX4 : u_T := fun k => match k with
  | 0 => ("BeggingBoards", "now", "LBeggingBoards$Moment;", true)
  | 1 => ("BeggingBoards", "history", "LBeggingBoards$History;", true)
  | 2 => ("BeggingBoards", "text", "LBeggingBoards$Text;", true)
  | _ => ("BeggingBoards", "trial", "LBeggingBoards$Oven;", true)
def tyX4 : Nat → FieldType := fun k => match k with
  | 0 => .object "BeggingBoards$Moment"
  | 1 => .object "BeggingBoards$History"
  | 2 => .object "BeggingBoards$Text"
  | _ => .object "BeggingBoards$Oven"
theorem nmX4 : ∀ a, a < 4 → ∀ b, b < 4 → a ≠ b → (TX4 a).2.1 ≠ (TX4 b).2.1 := by decide +kernel
theorem tyX4_ok : ∀ k, k < 4 → parseFieldDescriptor (TX4 k).2.2.1 = some (tyX4 k) := by decide +kernel
abbrev cX4_init : ByteArray := prog_1_method_1_code
def yX4_init : MethodName := ⟨RX4, "<init>", "()V"⟩
abbrev cX4_setZone : ByteArray := prog_1_method_2_code
def yX4_setZone : MethodName := ⟨RX4, "setZone", "(IIII)I"⟩
abbrev cX4_setCurve : ByteArray := prog_1_method_3_code
def yX4_setCurve : MethodName := ⟨RX4, "setCurve", "(III)I"⟩
abbrev cX4_set : ByteArray := prog_1_method_4_code
def yX4_set : MethodName := ⟨RX4, "set", "(II)I"⟩
abbrev cX4_load : ByteArray := prog_1_method_5_code
def yX4_load : MethodName := ⟨RX4, "load", "(II)I"⟩
abbrev cX4_takeOff : ByteArray := prog_1_method_6_code
def yX4_takeOff : MethodName := ⟨RX4, "takeOff", "(I)I"⟩
abbrev cX4_pass : ByteArray := prog_1_method_7_code
def yX4_pass : MethodName := ⟨RX4, "pass", "(I)I"⟩
abbrev cX4_take : ByteArray := prog_1_method_8_code
def yX4_take : MethodName := ⟨RX4, "take", "(I)I"⟩
abbrev cX4_restore : ByteArray := prog_1_method_9_code
def yX4_restore : MethodName := ⟨RX4, "restore", "(I)I"⟩
abbrev cX4_undo : ByteArray := prog_1_method_10_code
def yX4_undo : MethodName := ⟨RX4, "undo", "()I"⟩
abbrev cX4_append : ByteArray := prog_1_method_11_code
def yX4_append : MethodName := ⟨RX4, "append", "(I)I"⟩
abbrev cX4_clearText : ByteArray := prog_1_method_12_code
def yX4_clearText : MethodName := ⟨RX4, "clearText", "()I"⟩
abbrev cX4_carryOut : ByteArray := prog_1_method_13_code
def yX4_carryOut : MethodName := ⟨RX4, "carryOut", "()I"⟩
abbrev cX4_count : ByteArray := prog_1_method_14_code
def yX4_count : MethodName := ⟨RX4, "count", "(I)I"⟩
abbrev cX4_zone : ByteArray := prog_1_method_15_code
def yX4_zone : MethodName := ⟨RX4, "zone", "(II)I"⟩
abbrev cX4_curve : ByteArray := prog_1_method_16_code
def yX4_curve : MethodName := ⟨RX4, "curve", "(II)I"⟩
abbrev cX4_board : ByteArray := prog_1_method_17_code
def yX4_board : MethodName := ⟨RX4, "board", "(II)I"⟩
abbrev cX4_fault : ByteArray := prog_1_method_18_code
def yX4_fault : MethodName := ⟨RX4, "fault", "(III)I"⟩
abbrev cX4_worstCell : ByteArray := prog_1_method_19_code
def yX4_worstCell : MethodName := ⟨RX4, "worstCell", "(II)I"⟩
abbrev cX4_faultCells : ByteArray := prog_1_method_20_code
def yX4_faultCells : MethodName := ⟨RX4, "faultCells", "()I"⟩
abbrev cX4_foretell : ByteArray := prog_1_method_21_code
def yX4_foretell : MethodName := ⟨RX4, "foretell", "(II)I"⟩
abbrev cX4_wouldFail : ByteArray := prog_1_method_22_code
def yX4_wouldFail : MethodName := ⟨RX4, "wouldFail", "(III)I"⟩
abbrev cX4_heaviest : ByteArray := prog_1_method_23_code
def yX4_heaviest : MethodName := ⟨RX4, "heaviest", "(I)I"⟩
abbrev cX4_room : ByteArray := prog_1_method_24_code
def yX4_room : MethodName := ⟨RX4, "room", "()I"⟩
abbrev cX4_faultsInTrial : ByteArray := prog_1_method_25_code
def yX4_faultsInTrial : MethodName := ⟨RX4, "faultsInTrial", "(III)I"⟩
abbrev cX4_isWithin : ByteArray := prog_1_method_26_code
def yX4_isWithin : MethodName := ⟨RX4, "isWithin", "(III)Z"⟩
def RX5 : String := "BeggingBoardsModel"
def TX5 : u_T := fun k => match k with
  | 0 => ("BeggingBoardsModel", "row", "[I", true)
  | 1 => ("BeggingBoardsModel", "states", "I", false)
  | 2 => ("BeggingBoardsModel", "text", "[I", true)
  | 3 => ("BeggingBoardsModel", "length", "I", false)
  | 4 => ("BeggingBoardsModel", "pos", "I", false)
  | 5 => ("BeggingBoardsModel", "letter", "I", false)
  | 6 => ("BeggingBoardsModel", "first", "I", false)
  | _ => ("BeggingBoardsModel", "second", "I", false)
def tyX5 : Nat → FieldType := fun k => match k with
  | 0 => .array .int
  | 1 => .int
  | 2 => .array .int
  | 3 => .int
  | 4 => .int
  | 5 => .int
  | 6 => .int
  | _ => .int
theorem nmX5 : ∀ a, a < 8 → ∀ b, b < 8 → a ≠ b → (TX5 a).2.1 ≠ (TX5 b).2.1 := by decide +kernel
theorem tyX5_ok : ∀ k, k < 8 → parseFieldDescriptor (TX5 k).2.2.1 = some (tyX5 k) := by decide +kernel
abbrev cX5_init : ByteArray := prog_7_method_1_code
def yX5_init : MethodName := ⟨RX5, "<init>", "()V"⟩
abbrev cX5_in : ByteArray := prog_7_method_2_code
def yX5_in : MethodName := ⟨RX5, "in", "(III)Z"⟩
abbrev cX5_ofZone : ByteArray := prog_7_method_3_code
def yX5_ofZone : MethodName := ⟨RX5, "ofZone", "(II)I"⟩
abbrev cX5_ofCurve : ByteArray := prog_7_method_4_code
def yX5_ofCurve : MethodName := ⟨RX5, "ofCurve", "(II)I"⟩
abbrev cX5_of : ByteArray := prog_7_method_5_code
def yX5_of : MethodName := ⟨RX5, "of", "(II)I"⟩
abbrev cX5_isZone : ByteArray := prog_7_method_6_code
def yX5_isZone : MethodName := ⟨RX5, "isZone", "(I)Z"⟩
abbrev cX5_isCurve : ByteArray := prog_7_method_7_code
def yX5_isCurve : MethodName := ⟨RX5, "isCurve", "(I)Z"⟩
abbrev cX5_isBoard : ByteArray := prog_7_method_8_code
def yX5_isBoard : MethodName := ⟨RX5, "isBoard", "(I)Z"⟩
abbrev cX5_isOn : ByteArray := prog_7_method_9_code
def yX5_isOn : MethodName := ⟨RX5, "isOn", "(I)Z"⟩
abbrev cX5_copy : ByteArray := prog_7_method_10_code
def yX5_copy : MethodName := ⟨RX5, "copy", "(III)V"⟩
abbrev cX5_record : ByteArray := prog_7_method_11_code
def yX5_record : MethodName := ⟨RX5, "record", "()V"⟩
abbrev cX5_undo : ByteArray := prog_7_method_12_code
def yX5_undo : MethodName := ⟨RX5, "undo", "()I"⟩
abbrev cX5_take : ByteArray := prog_7_method_13_code
def yX5_take : MethodName := ⟨RX5, "take", "(I)I"⟩
abbrev cX5_restore : ByteArray := prog_7_method_14_code
def yX5_restore : MethodName := ⟨RX5, "restore", "(I)I"⟩
abbrev cX5_belt : ByteArray := prog_7_method_15_code
def yX5_belt : MethodName := ⟨RX5, "belt", "()I"⟩
abbrev cX5_zoneOf : ByteArray := prog_7_method_16_code
def yX5_zoneOf : MethodName := ⟨RX5, "zoneOf", "(I)I"⟩
abbrev cX5_many : ByteArray := prog_7_method_17_code
def yX5_many : MethodName := ⟨RX5, "many", "(I)I"⟩
abbrev cX5_setZone : ByteArray := prog_7_method_18_code
def yX5_setZone : MethodName := ⟨RX5, "setZone", "(IIII)I"⟩
abbrev cX5_put : ByteArray := prog_7_method_19_code
def yX5_put : MethodName := ⟨RX5, "put", "(ZII)I"⟩
abbrev cX5_isCurveNumber : ByteArray := prog_7_method_20_code
def yX5_isCurveNumber : MethodName := ⟨RX5, "isCurveNumber", "(II)Z"⟩
abbrev cX5_setCurve : ByteArray := prog_7_method_21_code
def yX5_setCurve : MethodName := ⟨RX5, "setCurve", "(III)I"⟩
abbrev cX5_isBeltNumber : ByteArray := prog_7_method_22_code
def yX5_isBeltNumber : MethodName := ⟨RX5, "isBeltNumber", "(II)Z"⟩
abbrev cX5_set : ByteArray := prog_7_method_23_code
def yX5_set : MethodName := ⟨RX5, "set", "(II)I"⟩
abbrev cX5_lay : ByteArray := prog_7_method_24_code
def yX5_lay : MethodName := ⟨RX5, "lay", "(III)V"⟩
abbrev cX5_hasRoom : ByteArray := prog_7_method_25_code
def yX5_hasRoom : MethodName := ⟨RX5, "hasRoom", "()Z"⟩
abbrev cX5_noLoad : ByteArray := prog_7_method_26_code
def yX5_noLoad : MethodName := ⟨RX5, "noLoad", "(II)I"⟩
abbrev cX5_doLoad : ByteArray := prog_7_method_27_code
def yX5_doLoad : MethodName := ⟨RX5, "doLoad", "(II)I"⟩
abbrev cX5_load : ByteArray := prog_7_method_28_code
def yX5_load : MethodName := ⟨RX5, "load", "(II)I"⟩
abbrev cX5_noTakeOff : ByteArray := prog_7_method_29_code
def yX5_noTakeOff : MethodName := ⟨RX5, "noTakeOff", "(I)I"⟩
abbrev cX5_takeOff : ByteArray := prog_7_method_30_code
def yX5_takeOff : MethodName := ⟨RX5, "takeOff", "(I)I"⟩
abbrev cX5_faultIf : ByteArray := prog_7_method_31_code
def yX5_faultIf : MethodName := ⟨RX5, "faultIf", "(ZIII)V"⟩
abbrev cX5_curveOf : ByteArray := prog_7_method_32_code
def yX5_curveOf : MethodName := ⟨RX5, "curveOf", "(II)I"⟩
abbrev cX5_goOn : ByteArray := prog_7_method_33_code
def yX5_goOn : MethodName := ⟨RX5, "goOn", "(I)V"⟩
abbrev cX5_weightsIn : ByteArray := prog_7_method_34_code
def yX5_weightsIn : MethodName := ⟨RX5, "weightsIn", "(I)I"⟩
abbrev cX5_heat : ByteArray := prog_7_method_35_code
def yX5_heat : MethodName := ⟨RX5, "heat", "(I)V"⟩
abbrev cX5_warmUp : ByteArray := prog_7_method_36_code
def yX5_warmUp : MethodName := ⟨RX5, "warmUp", "(I)V"⟩
abbrev cX5_hear : ByteArray := prog_7_method_37_code
def yX5_hear : MethodName := ⟨RX5, "hear", "()V"⟩
abbrev cX5_tick : ByteArray := prog_7_method_38_code
def yX5_tick : MethodName := ⟨RX5, "tick", "()V"⟩
abbrev cX5_noPass : ByteArray := prog_7_method_39_code
def yX5_noPass : MethodName := ⟨RX5, "noPass", "(I)I"⟩
abbrev cX5_doPass : ByteArray := prog_7_method_40_code
def yX5_doPass : MethodName := ⟨RX5, "doPass", "(I)I"⟩
abbrev cX5_pass : ByteArray := prog_7_method_41_code
def yX5_pass : MethodName := ⟨RX5, "pass", "(I)I"⟩
abbrev cX5_append : ByteArray := prog_7_method_42_code
def yX5_append : MethodName := ⟨RX5, "append", "(I)I"⟩
abbrev cX5_clearText : ByteArray := prog_7_method_43_code
def yX5_clearText : MethodName := ⟨RX5, "clearText", "()I"⟩
abbrev cX5_code : ByteArray := prog_7_method_44_code
def yX5_code : MethodName := ⟨RX5, "code", "()I"⟩
abbrev cX5_isDigit : ByteArray := prog_7_method_45_code
def yX5_isDigit : MethodName := ⟨RX5, "isDigit", "()Z"⟩
abbrev cX5_number : ByteArray := prog_7_method_46_code
def yX5_number : MethodName := ⟨RX5, "number", "()I"⟩
abbrev cX5_readsOrder : ByteArray := prog_7_method_47_code
def yX5_readsOrder : MethodName := ⟨RX5, "readsOrder", "()Z"⟩
abbrev cX5_faultOf : ByteArray := prog_7_method_48_code
def yX5_faultOf : MethodName := ⟨RX5, "faultOf", "()I"⟩
abbrev cX5_does : ByteArray := prog_7_method_49_code
def yX5_does : MethodName := ⟨RX5, "does", "()Z"⟩
abbrev cX5_carryOut : ByteArray := prog_7_method_50_code
def yX5_carryOut : MethodName := ⟨RX5, "carryOut", "()I"⟩
abbrev cX5_faultless : ByteArray := prog_7_method_51_code
def yX5_faultless : MethodName := ⟨RX5, "faultless", "()I"⟩
abbrev cX5_count : ByteArray := prog_7_method_52_code
def yX5_count : MethodName := ⟨RX5, "count", "(I)I"⟩
abbrev cX5_firstCell : ByteArray := prog_7_method_53_code
def yX5_firstCell : MethodName := ⟨RX5, "firstCell", "(I)I"⟩
abbrev cX5_boardsIn : ByteArray := prog_7_method_54_code
def yX5_boardsIn : MethodName := ⟨RX5, "boardsIn", "(I)I"⟩
abbrev cX5_zone : ByteArray := prog_7_method_55_code
def yX5_zone : MethodName := ⟨RX5, "zone", "(II)I"⟩
abbrev cX5_curve : ByteArray := prog_7_method_56_code
def yX5_curve : MethodName := ⟨RX5, "curve", "(II)I"⟩
abbrev cX5_board : ByteArray := prog_7_method_57_code
def yX5_board : MethodName := ⟨RX5, "board", "(II)I"⟩
abbrev cX5_hasFault : ByteArray := prog_7_method_58_code
def yX5_hasFault : MethodName := ⟨RX5, "hasFault", "(II)Z"⟩
abbrev cX5_fault : ByteArray := prog_7_method_59_code
def yX5_fault : MethodName := ⟨RX5, "fault", "(III)I"⟩
abbrev cX5_faultsIn : ByteArray := prog_7_method_60_code
def yX5_faultsIn : MethodName := ⟨RX5, "faultsIn", "(II)I"⟩
abbrev cX5_worstCell : ByteArray := prog_7_method_61_code
def yX5_worstCell : MethodName := ⟨RX5, "worstCell", "(II)I"⟩
abbrev cX5_faultCells : ByteArray := prog_7_method_62_code
def yX5_faultCells : MethodName := ⟨RX5, "faultCells", "()I"⟩
abbrev cX5_ride : ByteArray := prog_7_method_63_code
def yX5_ride : MethodName := ⟨RX5, "ride", "(I)I"⟩
abbrev cX5_foretell : ByteArray := prog_7_method_64_code
def yX5_foretell : MethodName := ⟨RX5, "foretell", "(II)I"⟩
abbrev cX5_failsBy : ByteArray := prog_7_method_65_code
def yX5_failsBy : MethodName := ⟨RX5, "failsBy", "(III)I"⟩
abbrev cX5_wouldFail : ByteArray := prog_7_method_66_code
def yX5_wouldFail : MethodName := ⟨RX5, "wouldFail", "(III)I"⟩
abbrev cX5_heaviest : ByteArray := prog_7_method_67_code
def yX5_heaviest : MethodName := ⟨RX5, "heaviest", "(I)I"⟩
abbrev cX5_room : ByteArray := prog_7_method_68_code
def yX5_room : MethodName := ⟨RX5, "room", "()I"⟩
def RJ13 : String := "java/lang/Long"
def TJ13 : u_T := fun k => match k with
  | _ => ("", "", "", false)
def tyJ13 : Nat → FieldType := fun k => match k with
  | _ => .int
theorem nmJ13 : ∀ a, a < 0 → ∀ b, b < 0 → a ≠ b → (TJ13 a).2.1 ≠ (TJ13 b).2.1 := by decide +kernel
theorem tyJ13_ok : ∀ k, k < 0 → parseFieldDescriptor (TJ13 k).2.2.1 = some (tyJ13 k) := by decide +kernel
abbrev cJ13_bitCount_95d88 : ByteArray := prog_8_method_50_code
def yJ13_bitCount_95d88 : MethodName := ⟨RJ13, "bitCount", "(J)I"⟩
def RJ9 : String := "java/lang/Math"
def TJ9 : u_T := fun k => match k with
  | _ => ("", "", "", false)
def tyJ9 : Nat → FieldType := fun k => match k with
  | _ => .int
theorem nmJ9 : ∀ a, a < 0 → ∀ b, b < 0 → a ≠ b → (TJ9 a).2.1 ≠ (TJ9 b).2.1 := by decide +kernel
theorem tyJ9_ok : ∀ k, k < 0 → parseFieldDescriptor (TJ9 k).2.2.1 = some (tyJ9 k) := by decide +kernel
abbrev cJ9_max_7cf53 : ByteArray := prog_9_method_65_code
def yJ9_max_7cf53 : MethodName := ⟨RJ9, "max", "(II)I"⟩
abbrev cJ9_min_7cf53 : ByteArray := prog_9_method_69_code
def yJ9_min_7cf53 : MethodName := ⟨RJ9, "min", "(II)I"⟩
def RJ10 : String := "java/lang/System"
def TJ10 : u_T := fun k => match k with
  | _ => ("", "", "", false)
def tyJ10 : Nat → FieldType := fun k => match k with
  | _ => .int
theorem nmJ10 : ∀ a, a < 0 → ∀ b, b < 0 → a ≠ b → (TJ10 a).2.1 ≠ (TJ10 b).2.1 := by decide +kernel
theorem tyJ10_ok : ∀ k, k < 0 → parseFieldDescriptor (TJ10 k).2.2.1 = some (tyJ10 k) := by decide +kernel
def RL : String := "BeggingBoardsLaw"
abbrev cL_law : ByteArray := code
def yL_law : MethodName := ⟨RL, "law", "([I)Z"⟩
end
section
theorem dX0_init_0 : decode cX0_init 0 = .ok (.aload_n 0, 1) := by decide +kernel
theorem dX0_init_1 : decode cX0_init 1 = .ok (.invokespecial 3, 3) := by decide +kernel
theorem dX0_init_4 : decode cX0_init 4 = .ok (.aload_n 0, 1) := by decide +kernel
theorem dX0_init_5 : decode cX0_init 5 = .ok (.bipush 6, 2) := by decide +kernel
theorem dX0_init_7 : decode cX0_init 7 = .ok (.anewarray 11, 3) := by decide +kernel
theorem dX0_init_10 : decode cX0_init 10 = .ok (.putfield 13, 3) := by decide +kernel
theorem dX0_init_13 : decode cX0_init 13 = .ok (.iconst 0, 1) := by decide +kernel
theorem dX0_init_14 : decode cX0_init 14 = .ok (.istore_n 1, 1) := by decide +kernel
theorem dX0_init_15 : decode cX0_init 15 = .ok (.iload_n 1, 1) := by decide +kernel
theorem dX0_init_16 : decode cX0_init 16 = .ok (.bipush 6, 2) := by decide +kernel
theorem dX0_init_18 : decode cX0_init 18 = .ok (.if_icmp .ge 22, 3) := by decide +kernel
theorem dX0_init_21 : decode cX0_init 21 = .ok (.aload_n 0, 1) := by decide +kernel
theorem dX0_init_22 : decode cX0_init 22 = .ok (.getfield 13, 3) := by decide +kernel
theorem dX0_init_25 : decode cX0_init 25 = .ok (.iload_n 1, 1) := by decide +kernel
theorem dX0_init_26 : decode cX0_init 26 = .ok (.new 11, 3) := by decide +kernel
theorem dX0_init_29 : decode cX0_init 29 = .ok (.dup, 1) := by decide +kernel
theorem dX0_init_30 : decode cX0_init 30 = .ok (.invokespecial 17, 3) := by decide +kernel
theorem dX0_init_33 : decode cX0_init 33 = .ok (.aastore, 1) := by decide +kernel
theorem dX0_init_34 : decode cX0_init 34 = .ok (.iinc 1 1, 3) := by decide +kernel
theorem dX0_init_37 : decode cX0_init 37 = .ok (.goto (-22), 3) := by decide +kernel
theorem dX0_init_40 : decode cX0_init 40 = .ok (.return_, 1) := by decide +kernel
theorem dX0_keep_0 : decode cX0_keep 0 = .ok (.aload_n 0, 1) := by decide +kernel
theorem dX0_keep_1 : decode cX0_keep 1 = .ok (.getfield 13, 3) := by decide +kernel
theorem dX0_keep_4 : decode cX0_keep 4 = .ok (.aload_n 0, 1) := by decide +kernel
theorem dX0_keep_5 : decode cX0_keep 5 = .ok (.getfield 18, 3) := by decide +kernel
theorem dX0_keep_8 : decode cX0_keep 8 = .ok (.aload_n 0, 1) := by decide +kernel
theorem dX0_keep_9 : decode cX0_keep 9 = .ok (.getfield 22, 3) := by decide +kernel
theorem dX0_keep_12 : decode cX0_keep 12 = .ok (.iadd, 1) := by decide +kernel
theorem dX0_keep_13 : decode cX0_keep 13 = .ok (.bipush 6, 2) := by decide +kernel
theorem dX0_keep_15 : decode cX0_keep 15 = .ok (.irem, 1) := by decide +kernel
theorem dX0_keep_16 : decode cX0_keep 16 = .ok (.aaload, 1) := by decide +kernel
theorem dX0_keep_17 : decode cX0_keep 17 = .ok (.aload_n 1, 1) := by decide +kernel
theorem dX0_keep_18 : decode cX0_keep 18 = .ok (.invokevirtual 25, 3) := by decide +kernel
theorem dX0_keep_21 : decode cX0_keep 21 = .ok (.return_, 1) := by decide +kernel
theorem dX0_recordUnlessError_0 : decode cX0_recordUnlessError 0 = .ok (.iload_n 1, 1) := by decide +kernel
theorem dX0_recordUnlessError_1 : decode cX0_recordUnlessError 1 = .ok (.ifCond .lt 37, 3) := by decide +kernel
theorem dX0_recordUnlessError_4 : decode cX0_recordUnlessError 4 = .ok (.aload_n 0, 1) := by decide +kernel
theorem dX0_recordUnlessError_5 : decode cX0_recordUnlessError 5 = .ok (.getfield 22, 3) := by decide +kernel
theorem dX0_recordUnlessError_8 : decode cX0_recordUnlessError 8 = .ok (.iconst 5, 1) := by decide +kernel
theorem dX0_recordUnlessError_9 : decode cX0_recordUnlessError 9 = .ok (.if_icmp .ge 16, 3) := by decide +kernel
theorem dX0_recordUnlessError_12 : decode cX0_recordUnlessError 12 = .ok (.aload_n 0, 1) := by decide +kernel
theorem dX0_recordUnlessError_13 : decode cX0_recordUnlessError 13 = .ok (.dup, 1) := by decide +kernel
theorem dX0_recordUnlessError_14 : decode cX0_recordUnlessError 14 = .ok (.getfield 22, 3) := by decide +kernel
theorem dX0_recordUnlessError_17 : decode cX0_recordUnlessError 17 = .ok (.iconst 1, 1) := by decide +kernel
theorem dX0_recordUnlessError_18 : decode cX0_recordUnlessError 18 = .ok (.iadd, 1) := by decide +kernel
theorem dX0_recordUnlessError_19 : decode cX0_recordUnlessError 19 = .ok (.putfield 22, 3) := by decide +kernel
theorem dX0_recordUnlessError_22 : decode cX0_recordUnlessError 22 = .ok (.goto 16, 3) := by decide +kernel
theorem dX0_recordUnlessError_25 : decode cX0_recordUnlessError 25 = .ok (.aload_n 0, 1) := by decide +kernel
theorem dX0_recordUnlessError_26 : decode cX0_recordUnlessError 26 = .ok (.aload_n 0, 1) := by decide +kernel
theorem dX0_recordUnlessError_27 : decode cX0_recordUnlessError 27 = .ok (.getfield 18, 3) := by decide +kernel
theorem dX0_recordUnlessError_30 : decode cX0_recordUnlessError 30 = .ok (.iconst 1, 1) := by decide +kernel
theorem dX0_recordUnlessError_31 : decode cX0_recordUnlessError 31 = .ok (.iadd, 1) := by decide +kernel
theorem dX0_recordUnlessError_32 : decode cX0_recordUnlessError 32 = .ok (.bipush 6, 2) := by decide +kernel
theorem dX0_recordUnlessError_34 : decode cX0_recordUnlessError 34 = .ok (.irem, 1) := by decide +kernel
theorem dX0_recordUnlessError_35 : decode cX0_recordUnlessError 35 = .ok (.putfield 18, 3) := by decide +kernel
theorem dX0_recordUnlessError_38 : decode cX0_recordUnlessError 38 = .ok (.iload_n 1, 1) := by decide +kernel
theorem dX0_recordUnlessError_39 : decode cX0_recordUnlessError 39 = .ok (.ireturn, 1) := by decide +kernel
theorem dX0_goBack_0 : decode cX0_goBack 0 = .ok (.aload_n 0, 1) := by decide +kernel
theorem dX0_goBack_1 : decode cX0_goBack 1 = .ok (.getfield 22, 3) := by decide +kernel
theorem dX0_goBack_4 : decode cX0_goBack 4 = .ok (.ifCond .ne 7, 3) := by decide +kernel
theorem dX0_goBack_7 : decode cX0_goBack 7 = .ok (.sipush (-1002), 3) := by decide +kernel
theorem dX0_goBack_10 : decode cX0_goBack 10 = .ok (.ireturn, 1) := by decide +kernel
theorem dX0_goBack_11 : decode cX0_goBack 11 = .ok (.aload_n 0, 1) := by decide +kernel
theorem dX0_goBack_12 : decode cX0_goBack 12 = .ok (.dup, 1) := by decide +kernel
theorem dX0_goBack_13 : decode cX0_goBack 13 = .ok (.getfield 22, 3) := by decide +kernel
theorem dX0_goBack_16 : decode cX0_goBack 16 = .ok (.iconst 1, 1) := by decide +kernel
theorem dX0_goBack_17 : decode cX0_goBack 17 = .ok (.isub, 1) := by decide +kernel
theorem dX0_goBack_18 : decode cX0_goBack 18 = .ok (.putfield 22, 3) := by decide +kernel
theorem dX0_goBack_21 : decode cX0_goBack 21 = .ok (.aload_n 1, 1) := by decide +kernel
theorem dX0_goBack_22 : decode cX0_goBack 22 = .ok (.aload_n 0, 1) := by decide +kernel
theorem dX0_goBack_23 : decode cX0_goBack 23 = .ok (.getfield 13, 3) := by decide +kernel
theorem dX0_goBack_26 : decode cX0_goBack 26 = .ok (.aload_n 0, 1) := by decide +kernel
theorem dX0_goBack_27 : decode cX0_goBack 27 = .ok (.getfield 18, 3) := by decide +kernel
theorem dX0_goBack_30 : decode cX0_goBack 30 = .ok (.aload_n 0, 1) := by decide +kernel
theorem dX0_goBack_31 : decode cX0_goBack 31 = .ok (.getfield 22, 3) := by decide +kernel
theorem dX0_goBack_34 : decode cX0_goBack 34 = .ok (.iadd, 1) := by decide +kernel
theorem dX0_goBack_35 : decode cX0_goBack 35 = .ok (.bipush 6, 2) := by decide +kernel
theorem dX0_goBack_37 : decode cX0_goBack 37 = .ok (.irem, 1) := by decide +kernel
theorem dX0_goBack_38 : decode cX0_goBack 38 = .ok (.aaload, 1) := by decide +kernel
theorem dX0_goBack_39 : decode cX0_goBack 39 = .ok (.invokevirtual 25, 3) := by decide +kernel
theorem dX0_goBack_42 : decode cX0_goBack 42 = .ok (.aload_n 0, 1) := by decide +kernel
theorem dX0_goBack_43 : decode cX0_goBack 43 = .ok (.getfield 22, 3) := by decide +kernel
theorem dX0_goBack_46 : decode cX0_goBack 46 = .ok (.ireturn, 1) := by decide +kernel
theorem dX1_init_0 : decode cX1_init 0 = .ok (.aload_n 0, 1) := by decide +kernel
theorem dX1_init_1 : decode cX1_init 1 = .ok (.invokespecial 3, 3) := by decide +kernel
theorem dX1_init_4 : decode cX1_init 4 = .ok (.aload_n 0, 1) := by decide +kernel
theorem dX1_init_5 : decode cX1_init 5 = .ok (.new 9, 3) := by decide +kernel
theorem dX1_init_8 : decode cX1_init 8 = .ok (.dup, 1) := by decide +kernel
theorem dX1_init_9 : decode cX1_init 9 = .ok (.invokespecial 11, 3) := by decide +kernel
theorem dX1_init_12 : decode cX1_init 12 = .ok (.putfield 12, 3) := by decide +kernel
theorem dX1_init_15 : decode cX1_init 15 = .ok (.aload_n 0, 1) := by decide +kernel
theorem dX1_init_16 : decode cX1_init 16 = .ok (.iconst 2, 1) := by decide +kernel
theorem dX1_init_17 : decode cX1_init 17 = .ok (.anewarray 9, 3) := by decide +kernel
theorem dX1_init_20 : decode cX1_init 20 = .ok (.putfield 18, 3) := by decide +kernel
theorem dX1_init_23 : decode cX1_init 23 = .ok (.aload_n 0, 1) := by decide +kernel
theorem dX1_init_24 : decode cX1_init 24 = .ok (.iconst 2, 1) := by decide +kernel
theorem dX1_init_25 : decode cX1_init 25 = .ok (.newarray .boolean, 2) := by decide +kernel
theorem dX1_init_27 : decode cX1_init 27 = .ok (.putfield 22, 3) := by decide +kernel
theorem dX1_init_30 : decode cX1_init 30 = .ok (.iconst 0, 1) := by decide +kernel
theorem dX1_init_31 : decode cX1_init 31 = .ok (.istore_n 1, 1) := by decide +kernel
theorem dX1_init_32 : decode cX1_init 32 = .ok (.iload_n 1, 1) := by decide +kernel
theorem dX1_init_33 : decode cX1_init 33 = .ok (.iconst 2, 1) := by decide +kernel
theorem dX1_init_34 : decode cX1_init 34 = .ok (.if_icmp .ge 22, 3) := by decide +kernel
theorem dX1_init_37 : decode cX1_init 37 = .ok (.aload_n 0, 1) := by decide +kernel
theorem dX1_init_38 : decode cX1_init 38 = .ok (.getfield 18, 3) := by decide +kernel
theorem dX1_init_41 : decode cX1_init 41 = .ok (.iload_n 1, 1) := by decide +kernel
theorem dX1_init_42 : decode cX1_init 42 = .ok (.new 9, 3) := by decide +kernel
theorem dX1_init_45 : decode cX1_init 45 = .ok (.dup, 1) := by decide +kernel
theorem dX1_init_46 : decode cX1_init 46 = .ok (.invokespecial 11, 3) := by decide +kernel
theorem dX1_init_49 : decode cX1_init 49 = .ok (.aastore, 1) := by decide +kernel
theorem dX1_init_50 : decode cX1_init 50 = .ok (.iinc 1 1, 3) := by decide +kernel
theorem dX1_init_53 : decode cX1_init 53 = .ok (.goto (-21), 3) := by decide +kernel
theorem dX1_init_56 : decode cX1_init 56 = .ok (.return_, 1) := by decide +kernel
theorem dX1_become_0 : decode cX1_become 0 = .ok (.aload_n 0, 1) := by decide +kernel
theorem dX1_become_1 : decode cX1_become 1 = .ok (.getfield 12, 3) := by decide +kernel
theorem dX1_become_4 : decode cX1_become 4 = .ok (.aload_n 1, 1) := by decide +kernel
theorem dX1_become_5 : decode cX1_become 5 = .ok (.getfield 12, 3) := by decide +kernel
theorem dX1_become_8 : decode cX1_become 8 = .ok (.invokevirtual 26, 3) := by decide +kernel
theorem dX1_become_11 : decode cX1_become 11 = .ok (.iconst 0, 1) := by decide +kernel
theorem dX1_become_12 : decode cX1_become 12 = .ok (.istore_n 2, 1) := by decide +kernel
theorem dX1_become_13 : decode cX1_become 13 = .ok (.iload_n 2, 1) := by decide +kernel
theorem dX1_become_14 : decode cX1_become 14 = .ok (.iconst 2, 1) := by decide +kernel
theorem dX1_become_15 : decode cX1_become 15 = .ok (.if_icmp .ge 45, 3) := by decide +kernel
theorem dX1_become_18 : decode cX1_become 18 = .ok (.aload_n 0, 1) := by decide +kernel
theorem dX1_become_19 : decode cX1_become 19 = .ok (.getfield 22, 3) := by decide +kernel
theorem dX1_become_22 : decode cX1_become 22 = .ok (.iload_n 2, 1) := by decide +kernel
theorem dX1_become_23 : decode cX1_become 23 = .ok (.aload_n 1, 1) := by decide +kernel
theorem dX1_become_24 : decode cX1_become 24 = .ok (.getfield 22, 3) := by decide +kernel
theorem dX1_become_27 : decode cX1_become 27 = .ok (.iload_n 2, 1) := by decide +kernel
theorem dX1_become_28 : decode cX1_become 28 = .ok (.baload, 1) := by decide +kernel
theorem dX1_become_29 : decode cX1_become 29 = .ok (.bastore, 1) := by decide +kernel
theorem dX1_become_30 : decode cX1_become 30 = .ok (.aload_n 0, 1) := by decide +kernel
theorem dX1_become_31 : decode cX1_become 31 = .ok (.getfield 22, 3) := by decide +kernel
theorem dX1_become_34 : decode cX1_become 34 = .ok (.iload_n 2, 1) := by decide +kernel
theorem dX1_become_35 : decode cX1_become 35 = .ok (.baload, 1) := by decide +kernel
theorem dX1_become_36 : decode cX1_become 36 = .ok (.ifCond .eq 18, 3) := by decide +kernel
theorem dX1_become_39 : decode cX1_become 39 = .ok (.aload_n 0, 1) := by decide +kernel
theorem dX1_become_40 : decode cX1_become 40 = .ok (.getfield 18, 3) := by decide +kernel
theorem dX1_become_43 : decode cX1_become 43 = .ok (.iload_n 2, 1) := by decide +kernel
theorem dX1_become_44 : decode cX1_become 44 = .ok (.aaload, 1) := by decide +kernel
theorem dX1_become_45 : decode cX1_become 45 = .ok (.aload_n 1, 1) := by decide +kernel
theorem dX1_become_46 : decode cX1_become 46 = .ok (.getfield 18, 3) := by decide +kernel
theorem dX1_become_49 : decode cX1_become 49 = .ok (.iload_n 2, 1) := by decide +kernel
theorem dX1_become_50 : decode cX1_become 50 = .ok (.aaload, 1) := by decide +kernel
theorem dX1_become_51 : decode cX1_become 51 = .ok (.invokevirtual 26, 3) := by decide +kernel
theorem dX1_become_54 : decode cX1_become 54 = .ok (.iinc 2 1, 3) := by decide +kernel
theorem dX1_become_57 : decode cX1_become 57 = .ok (.goto (-44), 3) := by decide +kernel
theorem dX1_become_60 : decode cX1_become 60 = .ok (.return_, 1) := by decide +kernel
theorem dX1_takeSnapshot_0 : decode cX1_takeSnapshot 0 = .ok (.iload_n 1, 1) := by decide +kernel
theorem dX1_takeSnapshot_1 : decode cX1_takeSnapshot 1 = .ok (.iconst 0, 1) := by decide +kernel
theorem dX1_takeSnapshot_2 : decode cX1_takeSnapshot 2 = .ok (.iconst 1, 1) := by decide +kernel
theorem dX1_takeSnapshot_3 : decode cX1_takeSnapshot 3 = .ok (.invokestatic 30, 3) := by decide +kernel
theorem dX1_takeSnapshot_6 : decode cX1_takeSnapshot 6 = .ok (.ifCond .ne 7, 3) := by decide +kernel
theorem dX1_takeSnapshot_9 : decode cX1_takeSnapshot 9 = .ok (.sipush (-1001), 3) := by decide +kernel
theorem dX1_takeSnapshot_12 : decode cX1_takeSnapshot 12 = .ok (.ireturn, 1) := by decide +kernel
theorem dX1_takeSnapshot_13 : decode cX1_takeSnapshot 13 = .ok (.aload_n 0, 1) := by decide +kernel
theorem dX1_takeSnapshot_14 : decode cX1_takeSnapshot 14 = .ok (.getfield 18, 3) := by decide +kernel
theorem dX1_takeSnapshot_17 : decode cX1_takeSnapshot 17 = .ok (.iload_n 1, 1) := by decide +kernel
theorem dX1_takeSnapshot_18 : decode cX1_takeSnapshot 18 = .ok (.aaload, 1) := by decide +kernel
theorem dX1_takeSnapshot_19 : decode cX1_takeSnapshot 19 = .ok (.aload_n 0, 1) := by decide +kernel
theorem dX1_takeSnapshot_20 : decode cX1_takeSnapshot 20 = .ok (.getfield 12, 3) := by decide +kernel
theorem dX1_takeSnapshot_23 : decode cX1_takeSnapshot 23 = .ok (.invokevirtual 26, 3) := by decide +kernel
theorem dX1_takeSnapshot_26 : decode cX1_takeSnapshot 26 = .ok (.aload_n 0, 1) := by decide +kernel
theorem dX1_takeSnapshot_27 : decode cX1_takeSnapshot 27 = .ok (.getfield 22, 3) := by decide +kernel
theorem dX1_takeSnapshot_30 : decode cX1_takeSnapshot 30 = .ok (.iload_n 1, 1) := by decide +kernel
theorem dX1_takeSnapshot_31 : decode cX1_takeSnapshot 31 = .ok (.iconst 1, 1) := by decide +kernel
theorem dX1_takeSnapshot_32 : decode cX1_takeSnapshot 32 = .ok (.bastore, 1) := by decide +kernel
theorem dX1_takeSnapshot_33 : decode cX1_takeSnapshot 33 = .ok (.aload_n 0, 1) := by decide +kernel
theorem dX1_takeSnapshot_34 : decode cX1_takeSnapshot 34 = .ok (.getfield 12, 3) := by decide +kernel
theorem dX1_takeSnapshot_37 : decode cX1_takeSnapshot 37 = .ok (.getfield 34, 3) := by decide +kernel
theorem dX1_takeSnapshot_40 : decode cX1_takeSnapshot 40 = .ok (.ireturn, 1) := by decide +kernel
theorem dX1_restoreSnapshot_0 : decode cX1_restoreSnapshot 0 = .ok (.iload_n 1, 1) := by decide +kernel
theorem dX1_restoreSnapshot_1 : decode cX1_restoreSnapshot 1 = .ok (.iconst 0, 1) := by decide +kernel
theorem dX1_restoreSnapshot_2 : decode cX1_restoreSnapshot 2 = .ok (.iconst 1, 1) := by decide +kernel
theorem dX1_restoreSnapshot_3 : decode cX1_restoreSnapshot 3 = .ok (.invokestatic 30, 3) := by decide +kernel
theorem dX1_restoreSnapshot_6 : decode cX1_restoreSnapshot 6 = .ok (.ifCond .ne 7, 3) := by decide +kernel
theorem dX1_restoreSnapshot_9 : decode cX1_restoreSnapshot 9 = .ok (.sipush (-1001), 3) := by decide +kernel
theorem dX1_restoreSnapshot_12 : decode cX1_restoreSnapshot 12 = .ok (.ireturn, 1) := by decide +kernel
theorem dX1_restoreSnapshot_13 : decode cX1_restoreSnapshot 13 = .ok (.aload_n 0, 1) := by decide +kernel
theorem dX1_restoreSnapshot_14 : decode cX1_restoreSnapshot 14 = .ok (.getfield 22, 3) := by decide +kernel
theorem dX1_restoreSnapshot_17 : decode cX1_restoreSnapshot 17 = .ok (.iload_n 1, 1) := by decide +kernel
theorem dX1_restoreSnapshot_18 : decode cX1_restoreSnapshot 18 = .ok (.baload, 1) := by decide +kernel
theorem dX1_restoreSnapshot_19 : decode cX1_restoreSnapshot 19 = .ok (.ifCond .ne 7, 3) := by decide +kernel
theorem dX1_restoreSnapshot_22 : decode cX1_restoreSnapshot 22 = .ok (.sipush (-1002), 3) := by decide +kernel
theorem dX1_restoreSnapshot_25 : decode cX1_restoreSnapshot 25 = .ok (.ireturn, 1) := by decide +kernel
theorem dX1_restoreSnapshot_26 : decode cX1_restoreSnapshot 26 = .ok (.aload_n 0, 1) := by decide +kernel
theorem dX1_restoreSnapshot_27 : decode cX1_restoreSnapshot 27 = .ok (.getfield 12, 3) := by decide +kernel
theorem dX1_restoreSnapshot_30 : decode cX1_restoreSnapshot 30 = .ok (.aload_n 0, 1) := by decide +kernel
theorem dX1_restoreSnapshot_31 : decode cX1_restoreSnapshot 31 = .ok (.getfield 18, 3) := by decide +kernel
theorem dX1_restoreSnapshot_34 : decode cX1_restoreSnapshot 34 = .ok (.iload_n 1, 1) := by decide +kernel
theorem dX1_restoreSnapshot_35 : decode cX1_restoreSnapshot 35 = .ok (.aaload, 1) := by decide +kernel
theorem dX1_restoreSnapshot_36 : decode cX1_restoreSnapshot 36 = .ok (.invokevirtual 26, 3) := by decide +kernel
theorem dX1_restoreSnapshot_39 : decode cX1_restoreSnapshot 39 = .ok (.aload_n 0, 1) := by decide +kernel
theorem dX1_restoreSnapshot_40 : decode cX1_restoreSnapshot 40 = .ok (.getfield 12, 3) := by decide +kernel
theorem dX1_restoreSnapshot_43 : decode cX1_restoreSnapshot 43 = .ok (.getfield 34, 3) := by decide +kernel
theorem dX1_restoreSnapshot_46 : decode cX1_restoreSnapshot 46 = .ok (.ireturn, 1) := by decide +kernel
theorem dX1_snapshots_0 : decode cX1_snapshots 0 = .ok (.iconst 0, 1) := by decide +kernel
theorem dX1_snapshots_1 : decode cX1_snapshots 1 = .ok (.istore_n 1, 1) := by decide +kernel
theorem dX1_snapshots_2 : decode cX1_snapshots 2 = .ok (.iconst 0, 1) := by decide +kernel
theorem dX1_snapshots_3 : decode cX1_snapshots 3 = .ok (.istore_n 2, 1) := by decide +kernel
theorem dX1_snapshots_4 : decode cX1_snapshots 4 = .ok (.iload_n 2, 1) := by decide +kernel
theorem dX1_snapshots_5 : decode cX1_snapshots 5 = .ok (.iconst 2, 1) := by decide +kernel
theorem dX1_snapshots_6 : decode cX1_snapshots 6 = .ok (.if_icmp .ge 21, 3) := by decide +kernel
theorem dX1_snapshots_9 : decode cX1_snapshots 9 = .ok (.aload_n 0, 1) := by decide +kernel
theorem dX1_snapshots_10 : decode cX1_snapshots 10 = .ok (.getfield 22, 3) := by decide +kernel
theorem dX1_snapshots_13 : decode cX1_snapshots 13 = .ok (.iload_n 2, 1) := by decide +kernel
theorem dX1_snapshots_14 : decode cX1_snapshots 14 = .ok (.baload, 1) := by decide +kernel
theorem dX1_snapshots_15 : decode cX1_snapshots 15 = .ok (.ifCond .eq 6, 3) := by decide +kernel
theorem dX1_snapshots_18 : decode cX1_snapshots 18 = .ok (.iinc 1 1, 3) := by decide +kernel
theorem dX1_snapshots_21 : decode cX1_snapshots 21 = .ok (.iinc 2 1, 3) := by decide +kernel
theorem dX1_snapshots_24 : decode cX1_snapshots 24 = .ok (.goto (-20), 3) := by decide +kernel
theorem dX1_snapshots_27 : decode cX1_snapshots 27 = .ok (.iload_n 1, 1) := by decide +kernel
theorem dX1_snapshots_28 : decode cX1_snapshots 28 = .ok (.ireturn, 1) := by decide +kernel
theorem dX3_init_0 : decode cX3_init 0 = .ok (.aload_n 0, 1) := by decide +kernel
theorem dX3_init_1 : decode cX3_init 1 = .ok (.invokespecial 3, 3) := by decide +kernel
theorem dX3_init_4 : decode cX3_init 4 = .ok (.aload_n 0, 1) := by decide +kernel
theorem dX3_init_5 : decode cX3_init 5 = .ok (.bipush 100, 2) := by decide +kernel
theorem dX3_init_7 : decode cX3_init 7 = .ok (.newarray .int, 2) := by decide +kernel
theorem dX3_init_9 : decode cX3_init 9 = .ok (.putfield 9, 3) := by decide +kernel
theorem dX3_init_12 : decode cX3_init 12 = .ok (.return_, 1) := by decide +kernel
theorem dX3_add_0 : decode cX3_add 0 = .ok (.iload_n 1, 1) := by decide +kernel
theorem dX3_add_1 : decode cX3_add 1 = .ok (.iconst 1, 1) := by decide +kernel
theorem dX3_add_2 : decode cX3_add 2 = .ok (.sipush 255, 3) := by decide +kernel
theorem dX3_add_5 : decode cX3_add 5 = .ok (.invokestatic 15, 3) := by decide +kernel
theorem dX3_add_8 : decode cX3_add 8 = .ok (.ifCond .ne 7, 3) := by decide +kernel
theorem dX3_add_11 : decode cX3_add 11 = .ok (.sipush (-1001), 3) := by decide +kernel
theorem dX3_add_14 : decode cX3_add 14 = .ok (.ireturn, 1) := by decide +kernel
theorem dX3_add_15 : decode cX3_add 15 = .ok (.aload_n 0, 1) := by decide +kernel
theorem dX3_add_16 : decode cX3_add 16 = .ok (.getfield 19, 3) := by decide +kernel
theorem dX3_add_19 : decode cX3_add 19 = .ok (.bipush 100, 2) := by decide +kernel
theorem dX3_add_21 : decode cX3_add 21 = .ok (.if_icmp .lt 7, 3) := by decide +kernel
theorem dX3_add_24 : decode cX3_add 24 = .ok (.sipush (-1003), 3) := by decide +kernel
theorem dX3_add_27 : decode cX3_add 27 = .ok (.ireturn, 1) := by decide +kernel
theorem dX3_add_28 : decode cX3_add 28 = .ok (.aload_n 0, 1) := by decide +kernel
theorem dX3_add_29 : decode cX3_add 29 = .ok (.getfield 9, 3) := by decide +kernel
theorem dX3_add_32 : decode cX3_add 32 = .ok (.aload_n 0, 1) := by decide +kernel
theorem dX3_add_33 : decode cX3_add 33 = .ok (.getfield 19, 3) := by decide +kernel
theorem dX3_add_36 : decode cX3_add 36 = .ok (.iload_n 1, 1) := by decide +kernel
theorem dX3_add_37 : decode cX3_add 37 = .ok (.iastore, 1) := by decide +kernel
theorem dX3_add_38 : decode cX3_add 38 = .ok (.aload_n 0, 1) := by decide +kernel
theorem dX3_add_39 : decode cX3_add 39 = .ok (.dup, 1) := by decide +kernel
theorem dX3_add_40 : decode cX3_add 40 = .ok (.getfield 19, 3) := by decide +kernel
theorem dX3_add_43 : decode cX3_add 43 = .ok (.iconst 1, 1) := by decide +kernel
theorem dX3_add_44 : decode cX3_add 44 = .ok (.iadd, 1) := by decide +kernel
theorem dX3_add_45 : decode cX3_add 45 = .ok (.putfield 19, 3) := by decide +kernel
theorem dX3_add_48 : decode cX3_add 48 = .ok (.aload_n 0, 1) := by decide +kernel
theorem dX3_add_49 : decode cX3_add 49 = .ok (.getfield 19, 3) := by decide +kernel
theorem dX3_add_52 : decode cX3_add 52 = .ok (.ireturn, 1) := by decide +kernel
theorem dX3_wipe_0 : decode cX3_wipe 0 = .ok (.aload_n 0, 1) := by decide +kernel
theorem dX3_wipe_1 : decode cX3_wipe 1 = .ok (.getfield 19, 3) := by decide +kernel
theorem dX3_wipe_4 : decode cX3_wipe 4 = .ok (.istore_n 1, 1) := by decide +kernel
theorem dX3_wipe_5 : decode cX3_wipe 5 = .ok (.aload_n 0, 1) := by decide +kernel
theorem dX3_wipe_6 : decode cX3_wipe 6 = .ok (.iconst 0, 1) := by decide +kernel
theorem dX3_wipe_7 : decode cX3_wipe 7 = .ok (.putfield 19, 3) := by decide +kernel
theorem dX3_wipe_10 : decode cX3_wipe 10 = .ok (.aload_n 0, 1) := by decide +kernel
theorem dX3_wipe_11 : decode cX3_wipe 11 = .ok (.iconst 0, 1) := by decide +kernel
theorem dX3_wipe_12 : decode cX3_wipe 12 = .ok (.putfield 23, 3) := by decide +kernel
theorem dX3_wipe_15 : decode cX3_wipe 15 = .ok (.iload_n 1, 1) := by decide +kernel
theorem dX3_wipe_16 : decode cX3_wipe 16 = .ok (.ireturn, 1) := by decide +kernel
theorem dX3_firstFault_0 : decode cX3_firstFault 0 = .ok (.iconst 0, 1) := by decide +kernel
theorem dX3_firstFault_1 : decode cX3_firstFault 1 = .ok (.istore_n 1, 1) := by decide +kernel
theorem dX3_firstFault_2 : decode cX3_firstFault 2 = .ok (.iconst 0, 1) := by decide +kernel
theorem dX3_firstFault_3 : decode cX3_firstFault 3 = .ok (.istore_n 2, 1) := by decide +kernel
theorem dX3_firstFault_4 : decode cX3_firstFault 4 = .ok (.iload_n 2, 1) := by decide +kernel
theorem dX3_firstFault_5 : decode cX3_firstFault 5 = .ok (.aload_n 0, 1) := by decide +kernel
theorem dX3_firstFault_6 : decode cX3_firstFault 6 = .ok (.getfield 19, 3) := by decide +kernel
theorem dX3_firstFault_9 : decode cX3_firstFault 9 = .ok (.if_icmp .ge 27, 3) := by decide +kernel
theorem dX3_firstFault_12 : decode cX3_firstFault 12 = .ok (.iload_n 1, 1) := by decide +kernel
theorem dX3_firstFault_13 : decode cX3_firstFault 13 = .ok (.aload_n 0, 1) := by decide +kernel
theorem dX3_firstFault_14 : decode cX3_firstFault 14 = .ok (.getfield 9, 3) := by decide +kernel
theorem dX3_firstFault_17 : decode cX3_firstFault 17 = .ok (.iload_n 2, 1) := by decide +kernel
theorem dX3_firstFault_18 : decode cX3_firstFault 18 = .ok (.iaload, 1) := by decide +kernel
theorem dX3_firstFault_19 : decode cX3_firstFault 19 = .ok (.invokestatic 26, 3) := by decide +kernel
theorem dX3_firstFault_22 : decode cX3_firstFault 22 = .ok (.istore_n 1, 1) := by decide +kernel
theorem dX3_firstFault_23 : decode cX3_firstFault 23 = .ok (.iload_n 1, 1) := by decide +kernel
theorem dX3_firstFault_24 : decode cX3_firstFault 24 = .ok (.iconst (-1), 1) := by decide +kernel
theorem dX3_firstFault_25 : decode cX3_firstFault 25 = .ok (.if_icmp .ne 5, 3) := by decide +kernel
theorem dX3_firstFault_28 : decode cX3_firstFault 28 = .ok (.iload_n 2, 1) := by decide +kernel
theorem dX3_firstFault_29 : decode cX3_firstFault 29 = .ok (.ireturn, 1) := by decide +kernel
theorem dX3_firstFault_30 : decode cX3_firstFault 30 = .ok (.iinc 2 1, 3) := by decide +kernel
theorem dX3_firstFault_33 : decode cX3_firstFault 33 = .ok (.goto (-29), 3) := by decide +kernel
theorem dX3_firstFault_36 : decode cX3_firstFault 36 = .ok (.iload_n 1, 1) := by decide +kernel
theorem dX3_firstFault_37 : decode cX3_firstFault 37 = .ok (.iconst 5, 1) := by decide +kernel
theorem dX3_firstFault_38 : decode cX3_firstFault 38 = .ok (.if_icmp .eq 9, 3) := by decide +kernel
theorem dX3_firstFault_41 : decode cX3_firstFault 41 = .ok (.iload_n 1, 1) := by decide +kernel
theorem dX3_firstFault_42 : decode cX3_firstFault 42 = .ok (.bipush 6, 2) := by decide +kernel
theorem dX3_firstFault_44 : decode cX3_firstFault 44 = .ok (.if_icmp .ne 9, 3) := by decide +kernel
theorem dX3_firstFault_47 : decode cX3_firstFault 47 = .ok (.sipush (-1009), 3) := by decide +kernel
theorem dX3_firstFault_50 : decode cX3_firstFault 50 = .ok (.goto 7, 3) := by decide +kernel
theorem dX3_firstFault_53 : decode cX3_firstFault 53 = .ok (.aload_n 0, 1) := by decide +kernel
theorem dX3_firstFault_54 : decode cX3_firstFault 54 = .ok (.getfield 19, 3) := by decide +kernel
theorem dX3_firstFault_57 : decode cX3_firstFault 57 = .ok (.ireturn, 1) := by decide +kernel
theorem dX3_placeAfter_0 : decode cX3_placeAfter 0 = .ok (.iload_n 0, 1) := by decide +kernel
theorem dX3_placeAfter_1 : decode cX3_placeAfter 1 = .ok (.tableswitch 134 0 6 #[43, 48, 55, 78, 90, 98, 122], 43) := by decide +kernel
theorem dX3_placeAfter_44 : decode cX3_placeAfter 44 = .ok (.iload_n 1, 1) := by decide +kernel
theorem dX3_placeAfter_45 : decode cX3_placeAfter 45 = .ok (.invokestatic 30, 3) := by decide +kernel
theorem dX3_placeAfter_48 : decode cX3_placeAfter 48 = .ok (.ireturn, 1) := by decide +kernel
theorem dX3_placeAfter_49 : decode cX3_placeAfter 49 = .ok (.iload_n 1, 1) := by decide +kernel
theorem dX3_placeAfter_50 : decode cX3_placeAfter 50 = .ok (.iconst 2, 1) := by decide +kernel
theorem dX3_placeAfter_51 : decode cX3_placeAfter 51 = .ok (.iconst 3, 1) := by decide +kernel
theorem dX3_placeAfter_52 : decode cX3_placeAfter 52 = .ok (.invokestatic 34, 3) := by decide +kernel
theorem dX3_placeAfter_55 : decode cX3_placeAfter 55 = .ok (.ireturn, 1) := by decide +kernel
theorem dX3_placeAfter_56 : decode cX3_placeAfter 56 = .ok (.iload_n 1, 1) := by decide +kernel
theorem dX3_placeAfter_57 : decode cX3_placeAfter 57 = .ok (.invokestatic 38, 3) := by decide +kernel
theorem dX3_placeAfter_60 : decode cX3_placeAfter 60 = .ok (.ifCond .eq 7, 3) := by decide +kernel
theorem dX3_placeAfter_63 : decode cX3_placeAfter 63 = .ok (.iconst 3, 1) := by decide +kernel
theorem dX3_placeAfter_64 : decode cX3_placeAfter 64 = .ok (.goto 14, 3) := by decide +kernel
theorem dX3_placeAfter_67 : decode cX3_placeAfter 67 = .ok (.iload_n 1, 1) := by decide +kernel
theorem dX3_placeAfter_68 : decode cX3_placeAfter 68 = .ok (.bipush 44, 2) := by decide +kernel
theorem dX3_placeAfter_70 : decode cX3_placeAfter 70 = .ok (.if_icmp .ne 7, 3) := by decide +kernel
theorem dX3_placeAfter_73 : decode cX3_placeAfter 73 = .ok (.iconst 4, 1) := by decide +kernel
theorem dX3_placeAfter_74 : decode cX3_placeAfter 74 = .ok (.goto 4, 3) := by decide +kernel
theorem dX3_placeAfter_77 : decode cX3_placeAfter 77 = .ok (.iconst (-1), 1) := by decide +kernel
theorem dX3_placeAfter_78 : decode cX3_placeAfter 78 = .ok (.ireturn, 1) := by decide +kernel
theorem dX3_placeAfter_79 : decode cX3_placeAfter 79 = .ok (.iload_n 1, 1) := by decide +kernel
theorem dX3_placeAfter_80 : decode cX3_placeAfter 80 = .ok (.bipush 44, 2) := by decide +kernel
theorem dX3_placeAfter_82 : decode cX3_placeAfter 82 = .ok (.if_icmp .ne 7, 3) := by decide +kernel
theorem dX3_placeAfter_85 : decode cX3_placeAfter 85 = .ok (.iconst 4, 1) := by decide +kernel
theorem dX3_placeAfter_86 : decode cX3_placeAfter 86 = .ok (.goto 4, 3) := by decide +kernel
theorem dX3_placeAfter_89 : decode cX3_placeAfter 89 = .ok (.iconst (-1), 1) := by decide +kernel
theorem dX3_placeAfter_90 : decode cX3_placeAfter 90 = .ok (.ireturn, 1) := by decide +kernel
theorem dX3_placeAfter_91 : decode cX3_placeAfter 91 = .ok (.iload_n 1, 1) := by decide +kernel
theorem dX3_placeAfter_92 : decode cX3_placeAfter 92 = .ok (.iconst 5, 1) := by decide +kernel
theorem dX3_placeAfter_93 : decode cX3_placeAfter 93 = .ok (.bipush 6, 2) := by decide +kernel
theorem dX3_placeAfter_95 : decode cX3_placeAfter 95 = .ok (.invokestatic 34, 3) := by decide +kernel
theorem dX3_placeAfter_98 : decode cX3_placeAfter 98 = .ok (.ireturn, 1) := by decide +kernel
theorem dX3_placeAfter_99 : decode cX3_placeAfter 99 = .ok (.iload_n 1, 1) := by decide +kernel
theorem dX3_placeAfter_100 : decode cX3_placeAfter 100 = .ok (.invokestatic 38, 3) := by decide +kernel
theorem dX3_placeAfter_103 : decode cX3_placeAfter 103 = .ok (.ifCond .eq 8, 3) := by decide +kernel
theorem dX3_placeAfter_106 : decode cX3_placeAfter 106 = .ok (.bipush 6, 2) := by decide +kernel
theorem dX3_placeAfter_108 : decode cX3_placeAfter 108 = .ok (.goto 14, 3) := by decide +kernel
theorem dX3_placeAfter_111 : decode cX3_placeAfter 111 = .ok (.iload_n 1, 1) := by decide +kernel
theorem dX3_placeAfter_112 : decode cX3_placeAfter 112 = .ok (.bipush 59, 2) := by decide +kernel
theorem dX3_placeAfter_114 : decode cX3_placeAfter 114 = .ok (.if_icmp .ne 7, 3) := by decide +kernel
theorem dX3_placeAfter_117 : decode cX3_placeAfter 117 = .ok (.iconst 0, 1) := by decide +kernel
theorem dX3_placeAfter_118 : decode cX3_placeAfter 118 = .ok (.goto 4, 3) := by decide +kernel
theorem dX3_placeAfter_121 : decode cX3_placeAfter 121 = .ok (.iconst (-1), 1) := by decide +kernel
theorem dX3_placeAfter_122 : decode cX3_placeAfter 122 = .ok (.ireturn, 1) := by decide +kernel
theorem dX3_placeAfter_123 : decode cX3_placeAfter 123 = .ok (.iload_n 1, 1) := by decide +kernel
theorem dX3_placeAfter_124 : decode cX3_placeAfter 124 = .ok (.bipush 59, 2) := by decide +kernel
theorem dX3_placeAfter_126 : decode cX3_placeAfter 126 = .ok (.if_icmp .ne 7, 3) := by decide +kernel
theorem dX3_placeAfter_129 : decode cX3_placeAfter 129 = .ok (.iconst 0, 1) := by decide +kernel
theorem dX3_placeAfter_130 : decode cX3_placeAfter 130 = .ok (.goto 4, 3) := by decide +kernel
theorem dX3_placeAfter_133 : decode cX3_placeAfter 133 = .ok (.iconst (-1), 1) := by decide +kernel
theorem dX3_placeAfter_134 : decode cX3_placeAfter 134 = .ok (.ireturn, 1) := by decide +kernel
theorem dX3_placeAfter_135 : decode cX3_placeAfter 135 = .ok (.iconst (-1), 1) := by decide +kernel
theorem dX3_placeAfter_136 : decode cX3_placeAfter 136 = .ok (.ireturn, 1) := by decide +kernel
theorem dX3_placeAfterLetter_0 : decode cX3_placeAfterLetter 0 = .ok (.iload_n 0, 1) := by decide +kernel
theorem dX3_placeAfterLetter_1 : decode cX3_placeAfterLetter 1 = .ok (.tableswitch 55 108 116 #[51, 55, 55, 55, 53, 55, 55, 53, 53], 51) := by decide +kernel
theorem dX3_placeAfterLetter_52 : decode cX3_placeAfterLetter 52 = .ok (.iconst 1, 1) := by decide +kernel
theorem dX3_placeAfterLetter_53 : decode cX3_placeAfterLetter 53 = .ok (.ireturn, 1) := by decide +kernel
theorem dX3_placeAfterLetter_54 : decode cX3_placeAfterLetter 54 = .ok (.iconst 4, 1) := by decide +kernel
theorem dX3_placeAfterLetter_55 : decode cX3_placeAfterLetter 55 = .ok (.ireturn, 1) := by decide +kernel
theorem dX3_placeAfterLetter_56 : decode cX3_placeAfterLetter 56 = .ok (.iconst (-1), 1) := by decide +kernel
theorem dX3_placeAfterLetter_57 : decode cX3_placeAfterLetter 57 = .ok (.ireturn, 1) := by decide +kernel
theorem dX3_placeAfterFirstDigit_0 : decode cX3_placeAfterFirstDigit 0 = .ok (.iload_n 0, 1) := by decide +kernel
theorem dX3_placeAfterFirstDigit_1 : decode cX3_placeAfterFirstDigit 1 = .ok (.invokestatic 38, 3) := by decide +kernel
theorem dX3_placeAfterFirstDigit_4 : decode cX3_placeAfterFirstDigit 4 = .ok (.ifCond .ne 5, 3) := by decide +kernel
theorem dX3_placeAfterFirstDigit_7 : decode cX3_placeAfterFirstDigit 7 = .ok (.iconst (-1), 1) := by decide +kernel
theorem dX3_placeAfterFirstDigit_8 : decode cX3_placeAfterFirstDigit 8 = .ok (.ireturn, 1) := by decide +kernel
theorem dX3_placeAfterFirstDigit_9 : decode cX3_placeAfterFirstDigit 9 = .ok (.iload_n 0, 1) := by decide +kernel
theorem dX3_placeAfterFirstDigit_10 : decode cX3_placeAfterFirstDigit 10 = .ok (.bipush 48, 2) := by decide +kernel
theorem dX3_placeAfterFirstDigit_12 : decode cX3_placeAfterFirstDigit 12 = .ok (.if_icmp .ne 7, 3) := by decide +kernel
theorem dX3_placeAfterFirstDigit_15 : decode cX3_placeAfterFirstDigit 15 = .ok (.iload_n 2, 1) := by decide +kernel
theorem dX3_placeAfterFirstDigit_16 : decode cX3_placeAfterFirstDigit 16 = .ok (.goto 4, 3) := by decide +kernel
theorem dX3_placeAfterFirstDigit_19 : decode cX3_placeAfterFirstDigit 19 = .ok (.iload_n 1, 1) := by decide +kernel
theorem dX3_placeAfterFirstDigit_20 : decode cX3_placeAfterFirstDigit 20 = .ok (.ireturn, 1) := by decide +kernel
theorem dX3_isDigit_0 : decode cX3_isDigit 0 = .ok (.iload_n 0, 1) := by decide +kernel
theorem dX3_isDigit_1 : decode cX3_isDigit 1 = .ok (.bipush 48, 2) := by decide +kernel
theorem dX3_isDigit_3 : decode cX3_isDigit 3 = .ok (.bipush 57, 2) := by decide +kernel
theorem dX3_isDigit_5 : decode cX3_isDigit 5 = .ok (.invokestatic 15, 3) := by decide +kernel
theorem dX3_isDigit_8 : decode cX3_isDigit 8 = .ok (.ireturn, 1) := by decide +kernel
theorem dX3_readOrder_0 : decode cX3_readOrder 0 = .ok (.aload_n 0, 1) := by decide +kernel
theorem dX3_readOrder_1 : decode cX3_readOrder 1 = .ok (.getfield 23, 3) := by decide +kernel
theorem dX3_readOrder_4 : decode cX3_readOrder 4 = .ok (.aload_n 0, 1) := by decide +kernel
theorem dX3_readOrder_5 : decode cX3_readOrder 5 = .ok (.getfield 19, 3) := by decide +kernel
theorem dX3_readOrder_8 : decode cX3_readOrder 8 = .ok (.if_icmp .lt 5, 3) := by decide +kernel
theorem dX3_readOrder_11 : decode cX3_readOrder 11 = .ok (.iconst 0, 1) := by decide +kernel
theorem dX3_readOrder_12 : decode cX3_readOrder 12 = .ok (.ireturn, 1) := by decide +kernel
theorem dX3_readOrder_13 : decode cX3_readOrder 13 = .ok (.aload_n 0, 1) := by decide +kernel
theorem dX3_readOrder_14 : decode cX3_readOrder 14 = .ok (.aload_n 0, 1) := by decide +kernel
theorem dX3_readOrder_15 : decode cX3_readOrder 15 = .ok (.getfield 9, 3) := by decide +kernel
theorem dX3_readOrder_18 : decode cX3_readOrder 18 = .ok (.aload_n 0, 1) := by decide +kernel
theorem dX3_readOrder_19 : decode cX3_readOrder 19 = .ok (.getfield 23, 3) := by decide +kernel
theorem dX3_readOrder_22 : decode cX3_readOrder 22 = .ok (.iaload, 1) := by decide +kernel
theorem dX3_readOrder_23 : decode cX3_readOrder 23 = .ok (.putfield 42, 3) := by decide +kernel
theorem dX3_readOrder_26 : decode cX3_readOrder 26 = .ok (.aload_n 0, 1) := by decide +kernel
theorem dX3_readOrder_27 : decode cX3_readOrder 27 = .ok (.iconst 0, 1) := by decide +kernel
theorem dX3_readOrder_28 : decode cX3_readOrder 28 = .ok (.putfield 45, 3) := by decide +kernel
theorem dX3_readOrder_31 : decode cX3_readOrder 31 = .ok (.aload_n 0, 1) := by decide +kernel
theorem dX3_readOrder_32 : decode cX3_readOrder 32 = .ok (.dup, 1) := by decide +kernel
theorem dX3_readOrder_33 : decode cX3_readOrder 33 = .ok (.getfield 23, 3) := by decide +kernel
theorem dX3_readOrder_36 : decode cX3_readOrder 36 = .ok (.iconst 1, 1) := by decide +kernel
theorem dX3_readOrder_37 : decode cX3_readOrder 37 = .ok (.iadd, 1) := by decide +kernel
theorem dX3_readOrder_38 : decode cX3_readOrder 38 = .ok (.putfield 23, 3) := by decide +kernel
theorem dX3_readOrder_41 : decode cX3_readOrder 41 = .ok (.aload_n 0, 1) := by decide +kernel
theorem dX3_readOrder_42 : decode cX3_readOrder 42 = .ok (.getfield 23, 3) := by decide +kernel
theorem dX3_readOrder_45 : decode cX3_readOrder 45 = .ok (.aload_n 0, 1) := by decide +kernel
theorem dX3_readOrder_46 : decode cX3_readOrder 46 = .ok (.getfield 19, 3) := by decide +kernel
theorem dX3_readOrder_49 : decode cX3_readOrder 49 = .ok (.if_icmp .ge 84, 3) := by decide +kernel
theorem dX3_readOrder_52 : decode cX3_readOrder 52 = .ok (.aload_n 0, 1) := by decide +kernel
theorem dX3_readOrder_53 : decode cX3_readOrder 53 = .ok (.getfield 9, 3) := by decide +kernel
theorem dX3_readOrder_56 : decode cX3_readOrder 56 = .ok (.aload_n 0, 1) := by decide +kernel
theorem dX3_readOrder_57 : decode cX3_readOrder 57 = .ok (.getfield 23, 3) := by decide +kernel
theorem dX3_readOrder_60 : decode cX3_readOrder 60 = .ok (.iaload, 1) := by decide +kernel
theorem dX3_readOrder_61 : decode cX3_readOrder 61 = .ok (.bipush 59, 2) := by decide +kernel
theorem dX3_readOrder_63 : decode cX3_readOrder 63 = .ok (.if_icmp .eq 70, 3) := by decide +kernel
theorem dX3_readOrder_66 : decode cX3_readOrder 66 = .ok (.aload_n 0, 1) := by decide +kernel
theorem dX3_readOrder_67 : decode cX3_readOrder 67 = .ok (.getfield 9, 3) := by decide +kernel
theorem dX3_readOrder_70 : decode cX3_readOrder 70 = .ok (.aload_n 0, 1) := by decide +kernel
theorem dX3_readOrder_71 : decode cX3_readOrder 71 = .ok (.getfield 23, 3) := by decide +kernel
theorem dX3_readOrder_74 : decode cX3_readOrder 74 = .ok (.iaload, 1) := by decide +kernel
theorem dX3_readOrder_75 : decode cX3_readOrder 75 = .ok (.bipush 44, 2) := by decide +kernel
theorem dX3_readOrder_77 : decode cX3_readOrder 77 = .ok (.if_icmp .ne 19, 3) := by decide +kernel
theorem dX3_readOrder_80 : decode cX3_readOrder 80 = .ok (.aload_n 0, 1) := by decide +kernel
theorem dX3_readOrder_81 : decode cX3_readOrder 81 = .ok (.aload_n 0, 1) := by decide +kernel
theorem dX3_readOrder_82 : decode cX3_readOrder 82 = .ok (.getfield 45, 3) := by decide +kernel
theorem dX3_readOrder_85 : decode cX3_readOrder 85 = .ok (.putfield 48, 3) := by decide +kernel
theorem dX3_readOrder_88 : decode cX3_readOrder 88 = .ok (.aload_n 0, 1) := by decide +kernel
theorem dX3_readOrder_89 : decode cX3_readOrder 89 = .ok (.iconst 0, 1) := by decide +kernel
theorem dX3_readOrder_90 : decode cX3_readOrder 90 = .ok (.putfield 45, 3) := by decide +kernel
theorem dX3_readOrder_93 : decode cX3_readOrder 93 = .ok (.goto 27, 3) := by decide +kernel
theorem dX3_readOrder_96 : decode cX3_readOrder 96 = .ok (.aload_n 0, 1) := by decide +kernel
theorem dX3_readOrder_97 : decode cX3_readOrder 97 = .ok (.aload_n 0, 1) := by decide +kernel
theorem dX3_readOrder_98 : decode cX3_readOrder 98 = .ok (.getfield 45, 3) := by decide +kernel
theorem dX3_readOrder_101 : decode cX3_readOrder 101 = .ok (.bipush 10, 2) := by decide +kernel
theorem dX3_readOrder_103 : decode cX3_readOrder 103 = .ok (.imul, 1) := by decide +kernel
theorem dX3_readOrder_104 : decode cX3_readOrder 104 = .ok (.aload_n 0, 1) := by decide +kernel
theorem dX3_readOrder_105 : decode cX3_readOrder 105 = .ok (.getfield 9, 3) := by decide +kernel
theorem dX3_readOrder_108 : decode cX3_readOrder 108 = .ok (.aload_n 0, 1) := by decide +kernel
theorem dX3_readOrder_109 : decode cX3_readOrder 109 = .ok (.getfield 23, 3) := by decide +kernel
theorem dX3_readOrder_112 : decode cX3_readOrder 112 = .ok (.iaload, 1) := by decide +kernel
theorem dX3_readOrder_113 : decode cX3_readOrder 113 = .ok (.iadd, 1) := by decide +kernel
theorem dX3_readOrder_114 : decode cX3_readOrder 114 = .ok (.bipush 48, 2) := by decide +kernel
theorem dX3_readOrder_116 : decode cX3_readOrder 116 = .ok (.isub, 1) := by decide +kernel
theorem dX3_readOrder_117 : decode cX3_readOrder 117 = .ok (.putfield 45, 3) := by decide +kernel
theorem dX3_readOrder_120 : decode cX3_readOrder 120 = .ok (.aload_n 0, 1) := by decide +kernel
theorem dX3_readOrder_121 : decode cX3_readOrder 121 = .ok (.dup, 1) := by decide +kernel
theorem dX3_readOrder_122 : decode cX3_readOrder 122 = .ok (.getfield 23, 3) := by decide +kernel
theorem dX3_readOrder_125 : decode cX3_readOrder 125 = .ok (.iconst 1, 1) := by decide +kernel
theorem dX3_readOrder_126 : decode cX3_readOrder 126 = .ok (.iadd, 1) := by decide +kernel
theorem dX3_readOrder_127 : decode cX3_readOrder 127 = .ok (.putfield 23, 3) := by decide +kernel
theorem dX3_readOrder_130 : decode cX3_readOrder 130 = .ok (.goto (-89), 3) := by decide +kernel
theorem dX3_readOrder_133 : decode cX3_readOrder 133 = .ok (.aload_n 0, 1) := by decide +kernel
theorem dX3_readOrder_134 : decode cX3_readOrder 134 = .ok (.dup, 1) := by decide +kernel
theorem dX3_readOrder_135 : decode cX3_readOrder 135 = .ok (.getfield 23, 3) := by decide +kernel
theorem dX3_readOrder_138 : decode cX3_readOrder 138 = .ok (.iconst 1, 1) := by decide +kernel
theorem dX3_readOrder_139 : decode cX3_readOrder 139 = .ok (.iadd, 1) := by decide +kernel
theorem dX3_readOrder_140 : decode cX3_readOrder 140 = .ok (.putfield 23, 3) := by decide +kernel
theorem dX3_readOrder_143 : decode cX3_readOrder 143 = .ok (.iconst 1, 1) := by decide +kernel
theorem dX3_readOrder_144 : decode cX3_readOrder 144 = .ok (.ireturn, 1) := by decide +kernel
theorem dX4_init_0 : decode cX4_init 0 = .ok (.aload_n 0, 1) := by decide +kernel
theorem dX4_init_1 : decode cX4_init 1 = .ok (.invokespecial 3, 3) := by decide +kernel
theorem dX4_init_4 : decode cX4_init 4 = .ok (.aload_n 0, 1) := by decide +kernel
theorem dX4_init_5 : decode cX4_init 5 = .ok (.new 9, 3) := by decide +kernel
theorem dX4_init_8 : decode cX4_init 8 = .ok (.dup, 1) := by decide +kernel
theorem dX4_init_9 : decode cX4_init 9 = .ok (.invokespecial 11, 3) := by decide +kernel
theorem dX4_init_12 : decode cX4_init 12 = .ok (.putfield 12, 3) := by decide +kernel
theorem dX4_init_15 : decode cX4_init 15 = .ok (.aload_n 0, 1) := by decide +kernel
theorem dX4_init_16 : decode cX4_init 16 = .ok (.new 16, 3) := by decide +kernel
theorem dX4_init_19 : decode cX4_init 19 = .ok (.dup, 1) := by decide +kernel
theorem dX4_init_20 : decode cX4_init 20 = .ok (.invokespecial 18, 3) := by decide +kernel
theorem dX4_init_23 : decode cX4_init 23 = .ok (.putfield 19, 3) := by decide +kernel
theorem dX4_init_26 : decode cX4_init 26 = .ok (.aload_n 0, 1) := by decide +kernel
theorem dX4_init_27 : decode cX4_init 27 = .ok (.new 23, 3) := by decide +kernel
theorem dX4_init_30 : decode cX4_init 30 = .ok (.dup, 1) := by decide +kernel
theorem dX4_init_31 : decode cX4_init 31 = .ok (.invokespecial 25, 3) := by decide +kernel
theorem dX4_init_34 : decode cX4_init 34 = .ok (.putfield 26, 3) := by decide +kernel
theorem dX4_init_37 : decode cX4_init 37 = .ok (.aload_n 0, 1) := by decide +kernel
theorem dX4_init_38 : decode cX4_init 38 = .ok (.new 30, 3) := by decide +kernel
theorem dX4_init_41 : decode cX4_init 41 = .ok (.dup, 1) := by decide +kernel
theorem dX4_init_42 : decode cX4_init 42 = .ok (.invokespecial 32, 3) := by decide +kernel
theorem dX4_init_45 : decode cX4_init 45 = .ok (.putfield 33, 3) := by decide +kernel
theorem dX4_init_48 : decode cX4_init 48 = .ok (.return_, 1) := by decide +kernel
theorem dX4_setZone_0 : decode cX4_setZone 0 = .ok (.aload_n 0, 1) := by decide +kernel
theorem dX4_setZone_1 : decode cX4_setZone 1 = .ok (.getfield 19, 3) := by decide +kernel
theorem dX4_setZone_4 : decode cX4_setZone 4 = .ok (.aload_n 0, 1) := by decide +kernel
theorem dX4_setZone_5 : decode cX4_setZone 5 = .ok (.getfield 12, 3) := by decide +kernel
theorem dX4_setZone_8 : decode cX4_setZone 8 = .ok (.invokevirtual 37, 3) := by decide +kernel
theorem dX4_setZone_11 : decode cX4_setZone 11 = .ok (.aload_n 0, 1) := by decide +kernel
theorem dX4_setZone_12 : decode cX4_setZone 12 = .ok (.getfield 19, 3) := by decide +kernel
theorem dX4_setZone_15 : decode cX4_setZone 15 = .ok (.aload_n 0, 1) := by decide +kernel
theorem dX4_setZone_16 : decode cX4_setZone 16 = .ok (.getfield 12, 3) := by decide +kernel
theorem dX4_setZone_19 : decode cX4_setZone 19 = .ok (.getfield 41, 3) := by decide +kernel
theorem dX4_setZone_22 : decode cX4_setZone 22 = .ok (.iload_n 1, 1) := by decide +kernel
theorem dX4_setZone_23 : decode cX4_setZone 23 = .ok (.iload_n 2, 1) := by decide +kernel
theorem dX4_setZone_24 : decode cX4_setZone 24 = .ok (.iload_n 3, 1) := by decide +kernel
theorem dX4_setZone_25 : decode cX4_setZone 25 = .ok (.iload 4, 2) := by decide +kernel
theorem dX4_setZone_27 : decode cX4_setZone 27 = .ok (.invokevirtual 44, 3) := by decide +kernel
theorem dX4_setZone_30 : decode cX4_setZone 30 = .ok (.invokevirtual 48, 3) := by decide +kernel
theorem dX4_setZone_33 : decode cX4_setZone 33 = .ok (.ireturn, 1) := by decide +kernel
theorem dX4_setCurve_0 : decode cX4_setCurve 0 = .ok (.aload_n 0, 1) := by decide +kernel
theorem dX4_setCurve_1 : decode cX4_setCurve 1 = .ok (.getfield 19, 3) := by decide +kernel
theorem dX4_setCurve_4 : decode cX4_setCurve 4 = .ok (.aload_n 0, 1) := by decide +kernel
theorem dX4_setCurve_5 : decode cX4_setCurve 5 = .ok (.getfield 12, 3) := by decide +kernel
theorem dX4_setCurve_8 : decode cX4_setCurve 8 = .ok (.invokevirtual 37, 3) := by decide +kernel
theorem dX4_setCurve_11 : decode cX4_setCurve 11 = .ok (.aload_n 0, 1) := by decide +kernel
theorem dX4_setCurve_12 : decode cX4_setCurve 12 = .ok (.getfield 19, 3) := by decide +kernel
theorem dX4_setCurve_15 : decode cX4_setCurve 15 = .ok (.aload_n 0, 1) := by decide +kernel
theorem dX4_setCurve_16 : decode cX4_setCurve 16 = .ok (.getfield 12, 3) := by decide +kernel
theorem dX4_setCurve_19 : decode cX4_setCurve 19 = .ok (.getfield 41, 3) := by decide +kernel
theorem dX4_setCurve_22 : decode cX4_setCurve 22 = .ok (.iload_n 1, 1) := by decide +kernel
theorem dX4_setCurve_23 : decode cX4_setCurve 23 = .ok (.iload_n 2, 1) := by decide +kernel
theorem dX4_setCurve_24 : decode cX4_setCurve 24 = .ok (.iload_n 3, 1) := by decide +kernel
theorem dX4_setCurve_25 : decode cX4_setCurve 25 = .ok (.invokevirtual 52, 3) := by decide +kernel
theorem dX4_setCurve_28 : decode cX4_setCurve 28 = .ok (.invokevirtual 48, 3) := by decide +kernel
theorem dX4_setCurve_31 : decode cX4_setCurve 31 = .ok (.ireturn, 1) := by decide +kernel
theorem dX4_set_0 : decode cX4_set 0 = .ok (.aload_n 0, 1) := by decide +kernel
theorem dX4_set_1 : decode cX4_set 1 = .ok (.getfield 19, 3) := by decide +kernel
theorem dX4_set_4 : decode cX4_set 4 = .ok (.aload_n 0, 1) := by decide +kernel
theorem dX4_set_5 : decode cX4_set 5 = .ok (.getfield 12, 3) := by decide +kernel
theorem dX4_set_8 : decode cX4_set 8 = .ok (.invokevirtual 37, 3) := by decide +kernel
theorem dX4_set_11 : decode cX4_set 11 = .ok (.aload_n 0, 1) := by decide +kernel
theorem dX4_set_12 : decode cX4_set 12 = .ok (.getfield 19, 3) := by decide +kernel
theorem dX4_set_15 : decode cX4_set 15 = .ok (.aload_n 0, 1) := by decide +kernel
theorem dX4_set_16 : decode cX4_set 16 = .ok (.getfield 12, 3) := by decide +kernel
theorem dX4_set_19 : decode cX4_set 19 = .ok (.getfield 41, 3) := by decide +kernel
theorem dX4_set_22 : decode cX4_set 22 = .ok (.iload_n 1, 1) := by decide +kernel
theorem dX4_set_23 : decode cX4_set 23 = .ok (.iload_n 2, 1) := by decide +kernel
theorem dX4_set_24 : decode cX4_set 24 = .ok (.invokevirtual 56, 3) := by decide +kernel
theorem dX4_set_27 : decode cX4_set 27 = .ok (.invokevirtual 48, 3) := by decide +kernel
theorem dX4_set_30 : decode cX4_set 30 = .ok (.ireturn, 1) := by decide +kernel
theorem dX4_load_0 : decode cX4_load 0 = .ok (.aload_n 0, 1) := by decide +kernel
theorem dX4_load_1 : decode cX4_load 1 = .ok (.getfield 19, 3) := by decide +kernel
theorem dX4_load_4 : decode cX4_load 4 = .ok (.aload_n 0, 1) := by decide +kernel
theorem dX4_load_5 : decode cX4_load 5 = .ok (.getfield 12, 3) := by decide +kernel
theorem dX4_load_8 : decode cX4_load 8 = .ok (.invokevirtual 37, 3) := by decide +kernel
theorem dX4_load_11 : decode cX4_load 11 = .ok (.aload_n 0, 1) := by decide +kernel
theorem dX4_load_12 : decode cX4_load 12 = .ok (.getfield 19, 3) := by decide +kernel
theorem dX4_load_15 : decode cX4_load 15 = .ok (.aload_n 0, 1) := by decide +kernel
theorem dX4_load_16 : decode cX4_load 16 = .ok (.getfield 12, 3) := by decide +kernel
theorem dX4_load_19 : decode cX4_load 19 = .ok (.getfield 41, 3) := by decide +kernel
theorem dX4_load_22 : decode cX4_load 22 = .ok (.iload_n 1, 1) := by decide +kernel
theorem dX4_load_23 : decode cX4_load 23 = .ok (.iload_n 2, 1) := by decide +kernel
theorem dX4_load_24 : decode cX4_load 24 = .ok (.invokevirtual 60, 3) := by decide +kernel
theorem dX4_load_27 : decode cX4_load 27 = .ok (.invokevirtual 48, 3) := by decide +kernel
theorem dX4_load_30 : decode cX4_load 30 = .ok (.ireturn, 1) := by decide +kernel
theorem dX4_takeOff_0 : decode cX4_takeOff 0 = .ok (.aload_n 0, 1) := by decide +kernel
theorem dX4_takeOff_1 : decode cX4_takeOff 1 = .ok (.getfield 19, 3) := by decide +kernel
theorem dX4_takeOff_4 : decode cX4_takeOff 4 = .ok (.aload_n 0, 1) := by decide +kernel
theorem dX4_takeOff_5 : decode cX4_takeOff 5 = .ok (.getfield 12, 3) := by decide +kernel
theorem dX4_takeOff_8 : decode cX4_takeOff 8 = .ok (.invokevirtual 37, 3) := by decide +kernel
theorem dX4_takeOff_11 : decode cX4_takeOff 11 = .ok (.aload_n 0, 1) := by decide +kernel
theorem dX4_takeOff_12 : decode cX4_takeOff 12 = .ok (.getfield 19, 3) := by decide +kernel
theorem dX4_takeOff_15 : decode cX4_takeOff 15 = .ok (.aload_n 0, 1) := by decide +kernel
theorem dX4_takeOff_16 : decode cX4_takeOff 16 = .ok (.getfield 12, 3) := by decide +kernel
theorem dX4_takeOff_19 : decode cX4_takeOff 19 = .ok (.getfield 41, 3) := by decide +kernel
theorem dX4_takeOff_22 : decode cX4_takeOff 22 = .ok (.iload_n 1, 1) := by decide +kernel
theorem dX4_takeOff_23 : decode cX4_takeOff 23 = .ok (.invokevirtual 63, 3) := by decide +kernel
theorem dX4_takeOff_26 : decode cX4_takeOff 26 = .ok (.invokevirtual 48, 3) := by decide +kernel
theorem dX4_takeOff_29 : decode cX4_takeOff 29 = .ok (.ireturn, 1) := by decide +kernel
theorem dX4_pass_0 : decode cX4_pass 0 = .ok (.aload_n 0, 1) := by decide +kernel
theorem dX4_pass_1 : decode cX4_pass 1 = .ok (.getfield 19, 3) := by decide +kernel
theorem dX4_pass_4 : decode cX4_pass 4 = .ok (.aload_n 0, 1) := by decide +kernel
theorem dX4_pass_5 : decode cX4_pass 5 = .ok (.getfield 12, 3) := by decide +kernel
theorem dX4_pass_8 : decode cX4_pass 8 = .ok (.invokevirtual 37, 3) := by decide +kernel
theorem dX4_pass_11 : decode cX4_pass 11 = .ok (.aload_n 0, 1) := by decide +kernel
theorem dX4_pass_12 : decode cX4_pass 12 = .ok (.getfield 19, 3) := by decide +kernel
theorem dX4_pass_15 : decode cX4_pass 15 = .ok (.aload_n 0, 1) := by decide +kernel
theorem dX4_pass_16 : decode cX4_pass 16 = .ok (.getfield 12, 3) := by decide +kernel
theorem dX4_pass_19 : decode cX4_pass 19 = .ok (.getfield 41, 3) := by decide +kernel
theorem dX4_pass_22 : decode cX4_pass 22 = .ok (.iload_n 1, 1) := by decide +kernel
theorem dX4_pass_23 : decode cX4_pass 23 = .ok (.invokevirtual 66, 3) := by decide +kernel
theorem dX4_pass_26 : decode cX4_pass 26 = .ok (.invokevirtual 48, 3) := by decide +kernel
theorem dX4_pass_29 : decode cX4_pass 29 = .ok (.ireturn, 1) := by decide +kernel
theorem dX4_take_0 : decode cX4_take 0 = .ok (.aload_n 0, 1) := by decide +kernel
theorem dX4_take_1 : decode cX4_take 1 = .ok (.getfield 19, 3) := by decide +kernel
theorem dX4_take_4 : decode cX4_take 4 = .ok (.aload_n 0, 1) := by decide +kernel
theorem dX4_take_5 : decode cX4_take 5 = .ok (.getfield 12, 3) := by decide +kernel
theorem dX4_take_8 : decode cX4_take 8 = .ok (.invokevirtual 37, 3) := by decide +kernel
theorem dX4_take_11 : decode cX4_take 11 = .ok (.aload_n 0, 1) := by decide +kernel
theorem dX4_take_12 : decode cX4_take 12 = .ok (.getfield 19, 3) := by decide +kernel
theorem dX4_take_15 : decode cX4_take 15 = .ok (.aload_n 0, 1) := by decide +kernel
theorem dX4_take_16 : decode cX4_take 16 = .ok (.getfield 12, 3) := by decide +kernel
theorem dX4_take_19 : decode cX4_take 19 = .ok (.iload_n 1, 1) := by decide +kernel
theorem dX4_take_20 : decode cX4_take 20 = .ok (.invokevirtual 69, 3) := by decide +kernel
theorem dX4_take_23 : decode cX4_take 23 = .ok (.invokevirtual 48, 3) := by decide +kernel
theorem dX4_take_26 : decode cX4_take 26 = .ok (.ireturn, 1) := by decide +kernel
theorem dX4_restore_0 : decode cX4_restore 0 = .ok (.aload_n 0, 1) := by decide +kernel
theorem dX4_restore_1 : decode cX4_restore 1 = .ok (.getfield 19, 3) := by decide +kernel
theorem dX4_restore_4 : decode cX4_restore 4 = .ok (.aload_n 0, 1) := by decide +kernel
theorem dX4_restore_5 : decode cX4_restore 5 = .ok (.getfield 12, 3) := by decide +kernel
theorem dX4_restore_8 : decode cX4_restore 8 = .ok (.invokevirtual 37, 3) := by decide +kernel
theorem dX4_restore_11 : decode cX4_restore 11 = .ok (.aload_n 0, 1) := by decide +kernel
theorem dX4_restore_12 : decode cX4_restore 12 = .ok (.getfield 19, 3) := by decide +kernel
theorem dX4_restore_15 : decode cX4_restore 15 = .ok (.aload_n 0, 1) := by decide +kernel
theorem dX4_restore_16 : decode cX4_restore 16 = .ok (.getfield 12, 3) := by decide +kernel
theorem dX4_restore_19 : decode cX4_restore 19 = .ok (.iload_n 1, 1) := by decide +kernel
theorem dX4_restore_20 : decode cX4_restore 20 = .ok (.invokevirtual 72, 3) := by decide +kernel
theorem dX4_restore_23 : decode cX4_restore 23 = .ok (.invokevirtual 48, 3) := by decide +kernel
theorem dX4_restore_26 : decode cX4_restore 26 = .ok (.ireturn, 1) := by decide +kernel
theorem dX4_undo_0 : decode cX4_undo 0 = .ok (.aload_n 0, 1) := by decide +kernel
theorem dX4_undo_1 : decode cX4_undo 1 = .ok (.getfield 19, 3) := by decide +kernel
theorem dX4_undo_4 : decode cX4_undo 4 = .ok (.aload_n 0, 1) := by decide +kernel
theorem dX4_undo_5 : decode cX4_undo 5 = .ok (.getfield 12, 3) := by decide +kernel
theorem dX4_undo_8 : decode cX4_undo 8 = .ok (.invokevirtual 75, 3) := by decide +kernel
theorem dX4_undo_11 : decode cX4_undo 11 = .ok (.ireturn, 1) := by decide +kernel
theorem dX4_append_0 : decode cX4_append 0 = .ok (.aload_n 0, 1) := by decide +kernel
theorem dX4_append_1 : decode cX4_append 1 = .ok (.getfield 26, 3) := by decide +kernel
theorem dX4_append_4 : decode cX4_append 4 = .ok (.iload_n 1, 1) := by decide +kernel
theorem dX4_append_5 : decode cX4_append 5 = .ok (.invokevirtual 79, 3) := by decide +kernel
theorem dX4_append_8 : decode cX4_append 8 = .ok (.ireturn, 1) := by decide +kernel
theorem dX4_clearText_0 : decode cX4_clearText 0 = .ok (.aload_n 0, 1) := by decide +kernel
theorem dX4_clearText_1 : decode cX4_clearText 1 = .ok (.getfield 26, 3) := by decide +kernel
theorem dX4_clearText_4 : decode cX4_clearText 4 = .ok (.invokevirtual 82, 3) := by decide +kernel
theorem dX4_clearText_7 : decode cX4_clearText 7 = .ok (.ireturn, 1) := by decide +kernel
theorem dX4_carryOut_0 : decode cX4_carryOut 0 = .ok (.aload_n 0, 1) := by decide +kernel
theorem dX4_carryOut_1 : decode cX4_carryOut 1 = .ok (.getfield 26, 3) := by decide +kernel
theorem dX4_carryOut_4 : decode cX4_carryOut 4 = .ok (.invokevirtual 86, 3) := by decide +kernel
theorem dX4_carryOut_7 : decode cX4_carryOut 7 = .ok (.istore_n 1, 1) := by decide +kernel
theorem dX4_carryOut_8 : decode cX4_carryOut 8 = .ok (.iload_n 1, 1) := by decide +kernel
theorem dX4_carryOut_9 : decode cX4_carryOut 9 = .ok (.sipush (-1009), 3) := by decide +kernel
theorem dX4_carryOut_12 : decode cX4_carryOut 12 = .ok (.if_icmp .eq 9, 3) := by decide +kernel
theorem dX4_carryOut_15 : decode cX4_carryOut 15 = .ok (.sipush (-2000), 3) := by decide +kernel
theorem dX4_carryOut_18 : decode cX4_carryOut 18 = .ok (.iload_n 1, 1) := by decide +kernel
theorem dX4_carryOut_19 : decode cX4_carryOut 19 = .ok (.isub, 1) := by decide +kernel
theorem dX4_carryOut_20 : decode cX4_carryOut 20 = .ok (.ireturn, 1) := by decide +kernel
theorem dX4_carryOut_21 : decode cX4_carryOut 21 = .ok (.aload_n 0, 1) := by decide +kernel
theorem dX4_carryOut_22 : decode cX4_carryOut 22 = .ok (.getfield 19, 3) := by decide +kernel
theorem dX4_carryOut_25 : decode cX4_carryOut 25 = .ok (.aload_n 0, 1) := by decide +kernel
theorem dX4_carryOut_26 : decode cX4_carryOut 26 = .ok (.getfield 12, 3) := by decide +kernel
theorem dX4_carryOut_29 : decode cX4_carryOut 29 = .ok (.invokevirtual 37, 3) := by decide +kernel
theorem dX4_carryOut_32 : decode cX4_carryOut 32 = .ok (.iconst 0, 1) := by decide +kernel
theorem dX4_carryOut_33 : decode cX4_carryOut 33 = .ok (.istore_n 2, 1) := by decide +kernel
theorem dX4_carryOut_34 : decode cX4_carryOut 34 = .ok (.iload_n 2, 1) := by decide +kernel
theorem dX4_carryOut_35 : decode cX4_carryOut 35 = .ok (.bipush 100, 2) := by decide +kernel
theorem dX4_carryOut_37 : decode cX4_carryOut 37 = .ok (.if_icmp .ge 53, 3) := by decide +kernel
theorem dX4_carryOut_40 : decode cX4_carryOut 40 = .ok (.aload_n 0, 1) := by decide +kernel
theorem dX4_carryOut_41 : decode cX4_carryOut 41 = .ok (.getfield 26, 3) := by decide +kernel
theorem dX4_carryOut_44 : decode cX4_carryOut 44 = .ok (.invokevirtual 89, 3) := by decide +kernel
theorem dX4_carryOut_47 : decode cX4_carryOut 47 = .ok (.ifCond .eq 43, 3) := by decide +kernel
theorem dX4_carryOut_50 : decode cX4_carryOut 50 = .ok (.aload_n 0, 1) := by decide +kernel
theorem dX4_carryOut_51 : decode cX4_carryOut 51 = .ok (.getfield 12, 3) := by decide +kernel
theorem dX4_carryOut_54 : decode cX4_carryOut 54 = .ok (.getfield 41, 3) := by decide +kernel
theorem dX4_carryOut_57 : decode cX4_carryOut 57 = .ok (.aload_n 0, 1) := by decide +kernel
theorem dX4_carryOut_58 : decode cX4_carryOut 58 = .ok (.getfield 26, 3) := by decide +kernel
theorem dX4_carryOut_61 : decode cX4_carryOut 61 = .ok (.getfield 93, 3) := by decide +kernel
theorem dX4_carryOut_64 : decode cX4_carryOut 64 = .ok (.aload_n 0, 1) := by decide +kernel
theorem dX4_carryOut_65 : decode cX4_carryOut 65 = .ok (.getfield 26, 3) := by decide +kernel
theorem dX4_carryOut_68 : decode cX4_carryOut 68 = .ok (.getfield 97, 3) := by decide +kernel
theorem dX4_carryOut_71 : decode cX4_carryOut 71 = .ok (.aload_n 0, 1) := by decide +kernel
theorem dX4_carryOut_72 : decode cX4_carryOut 72 = .ok (.getfield 26, 3) := by decide +kernel
theorem dX4_carryOut_75 : decode cX4_carryOut 75 = .ok (.getfield 100, 3) := by decide +kernel
theorem dX4_carryOut_78 : decode cX4_carryOut 78 = .ok (.invokevirtual 103, 3) := by decide +kernel
theorem dX4_carryOut_81 : decode cX4_carryOut 81 = .ok (.ifCond .lt 9, 3) := by decide +kernel
theorem dX4_carryOut_84 : decode cX4_carryOut 84 = .ok (.iinc 2 1, 3) := by decide +kernel
theorem dX4_carryOut_87 : decode cX4_carryOut 87 = .ok (.goto (-53), 3) := by decide +kernel
theorem dX4_carryOut_90 : decode cX4_carryOut 90 = .ok (.aload_n 0, 1) := by decide +kernel
theorem dX4_carryOut_91 : decode cX4_carryOut 91 = .ok (.getfield 26, 3) := by decide +kernel
theorem dX4_carryOut_94 : decode cX4_carryOut 94 = .ok (.invokevirtual 82, 3) := by decide +kernel
theorem dX4_carryOut_97 : decode cX4_carryOut 97 = .ok (.pop, 1) := by decide +kernel
theorem dX4_carryOut_98 : decode cX4_carryOut 98 = .ok (.aload_n 0, 1) := by decide +kernel
theorem dX4_carryOut_99 : decode cX4_carryOut 99 = .ok (.getfield 19, 3) := by decide +kernel
theorem dX4_carryOut_102 : decode cX4_carryOut 102 = .ok (.iload_n 2, 1) := by decide +kernel
theorem dX4_carryOut_103 : decode cX4_carryOut 103 = .ok (.invokevirtual 48, 3) := by decide +kernel
theorem dX4_carryOut_106 : decode cX4_carryOut 106 = .ok (.ireturn, 1) := by decide +kernel
theorem dX4_count_0 : decode cX4_count 0 = .ok (.aload_n 0, 1) := by decide +kernel
theorem dX4_count_1 : decode cX4_count 1 = .ok (.getfield 12, 3) := by decide +kernel
theorem dX4_count_4 : decode cX4_count 4 = .ok (.getfield 41, 3) := by decide +kernel
theorem dX4_count_7 : decode cX4_count 7 = .ok (.astore_n 2, 1) := by decide +kernel
theorem dX4_count_8 : decode cX4_count 8 = .ok (.iload_n 1, 1) := by decide +kernel
theorem dX4_count_9 : decode cX4_count 9 = .ok (.tableswitch 179 0 15 #[79, 84, 89, 95, 101, 106, 112, 117, 124, 131, 138, 145, 150, 155, 163, 171], 79) := by decide +kernel
theorem dX4_count_88 : decode cX4_count 88 = .ok (.aload_n 2, 1) := by decide +kernel
theorem dX4_count_89 : decode cX4_count 89 = .ok (.getfield 106, 3) := by decide +kernel
theorem dX4_count_92 : decode cX4_count 92 = .ok (.ireturn, 1) := by decide +kernel
theorem dX4_count_93 : decode cX4_count 93 = .ok (.aload_n 2, 1) := by decide +kernel
theorem dX4_count_94 : decode cX4_count 94 = .ok (.getfield 109, 3) := by decide +kernel
theorem dX4_count_97 : decode cX4_count 97 = .ok (.ireturn, 1) := by decide +kernel
theorem dX4_count_98 : decode cX4_count 98 = .ok (.aload_n 2, 1) := by decide +kernel
theorem dX4_count_99 : decode cX4_count 99 = .ok (.iconst 0, 1) := by decide +kernel
theorem dX4_count_100 : decode cX4_count 100 = .ok (.invokevirtual 112, 3) := by decide +kernel
theorem dX4_count_103 : decode cX4_count 103 = .ok (.ireturn, 1) := by decide +kernel
theorem dX4_count_104 : decode cX4_count 104 = .ok (.aload_n 2, 1) := by decide +kernel
theorem dX4_count_105 : decode cX4_count 105 = .ok (.iconst 1, 1) := by decide +kernel
theorem dX4_count_106 : decode cX4_count 106 = .ok (.invokevirtual 112, 3) := by decide +kernel
theorem dX4_count_109 : decode cX4_count 109 = .ok (.ireturn, 1) := by decide +kernel
theorem dX4_count_110 : decode cX4_count 110 = .ok (.aload_n 2, 1) := by decide +kernel
theorem dX4_count_111 : decode cX4_count 111 = .ok (.invokevirtual 115, 3) := by decide +kernel
theorem dX4_count_114 : decode cX4_count 114 = .ok (.ireturn, 1) := by decide +kernel
theorem dX4_count_115 : decode cX4_count 115 = .ok (.aload_n 2, 1) := by decide +kernel
theorem dX4_count_116 : decode cX4_count 116 = .ok (.iconst 2, 1) := by decide +kernel
theorem dX4_count_117 : decode cX4_count 117 = .ok (.invokevirtual 112, 3) := by decide +kernel
theorem dX4_count_120 : decode cX4_count 120 = .ok (.ireturn, 1) := by decide +kernel
theorem dX4_count_121 : decode cX4_count 121 = .ok (.aload_n 2, 1) := by decide +kernel
theorem dX4_count_122 : decode cX4_count 122 = .ok (.invokevirtual 118, 3) := by decide +kernel
theorem dX4_count_125 : decode cX4_count 125 = .ok (.ireturn, 1) := by decide +kernel
theorem dX4_count_126 : decode cX4_count 126 = .ok (.aload_n 2, 1) := by decide +kernel
theorem dX4_count_127 : decode cX4_count 127 = .ok (.getfield 121, 3) := by decide +kernel
theorem dX4_count_130 : decode cX4_count 130 = .ok (.iconst 0, 1) := by decide +kernel
theorem dX4_count_131 : decode cX4_count 131 = .ok (.iaload, 1) := by decide +kernel
theorem dX4_count_132 : decode cX4_count 132 = .ok (.ireturn, 1) := by decide +kernel
theorem dX4_count_133 : decode cX4_count 133 = .ok (.aload_n 2, 1) := by decide +kernel
theorem dX4_count_134 : decode cX4_count 134 = .ok (.getfield 121, 3) := by decide +kernel
theorem dX4_count_137 : decode cX4_count 137 = .ok (.iconst 1, 1) := by decide +kernel
theorem dX4_count_138 : decode cX4_count 138 = .ok (.iaload, 1) := by decide +kernel
theorem dX4_count_139 : decode cX4_count 139 = .ok (.ireturn, 1) := by decide +kernel
theorem dX4_count_140 : decode cX4_count 140 = .ok (.aload_n 2, 1) := by decide +kernel
theorem dX4_count_141 : decode cX4_count 141 = .ok (.getfield 121, 3) := by decide +kernel
theorem dX4_count_144 : decode cX4_count 144 = .ok (.iconst 2, 1) := by decide +kernel
theorem dX4_count_145 : decode cX4_count 145 = .ok (.iaload, 1) := by decide +kernel
theorem dX4_count_146 : decode cX4_count 146 = .ok (.ireturn, 1) := by decide +kernel
theorem dX4_count_147 : decode cX4_count 147 = .ok (.aload_n 2, 1) := by decide +kernel
theorem dX4_count_148 : decode cX4_count 148 = .ok (.getfield 121, 3) := by decide +kernel
theorem dX4_count_151 : decode cX4_count 151 = .ok (.iconst 3, 1) := by decide +kernel
theorem dX4_count_152 : decode cX4_count 152 = .ok (.iaload, 1) := by decide +kernel
theorem dX4_count_153 : decode cX4_count 153 = .ok (.ireturn, 1) := by decide +kernel
theorem dX4_count_154 : decode cX4_count 154 = .ok (.aload_n 2, 1) := by decide +kernel
theorem dX4_count_155 : decode cX4_count 155 = .ok (.getfield 125, 3) := by decide +kernel
theorem dX4_count_158 : decode cX4_count 158 = .ok (.ireturn, 1) := by decide +kernel
theorem dX4_count_159 : decode cX4_count 159 = .ok (.aload_n 2, 1) := by decide +kernel
theorem dX4_count_160 : decode cX4_count 160 = .ok (.getfield 128, 3) := by decide +kernel
theorem dX4_count_163 : decode cX4_count 163 = .ok (.ireturn, 1) := by decide +kernel
theorem dX4_count_164 : decode cX4_count 164 = .ok (.aload_n 0, 1) := by decide +kernel
theorem dX4_count_165 : decode cX4_count 165 = .ok (.getfield 12, 3) := by decide +kernel
theorem dX4_count_168 : decode cX4_count 168 = .ok (.invokevirtual 131, 3) := by decide +kernel
theorem dX4_count_171 : decode cX4_count 171 = .ok (.ireturn, 1) := by decide +kernel
theorem dX4_count_172 : decode cX4_count 172 = .ok (.aload_n 0, 1) := by decide +kernel
theorem dX4_count_173 : decode cX4_count 173 = .ok (.getfield 19, 3) := by decide +kernel
theorem dX4_count_176 : decode cX4_count 176 = .ok (.getfield 134, 3) := by decide +kernel
theorem dX4_count_179 : decode cX4_count 179 = .ok (.ireturn, 1) := by decide +kernel
theorem dX4_count_180 : decode cX4_count 180 = .ok (.aload_n 0, 1) := by decide +kernel
theorem dX4_count_181 : decode cX4_count 181 = .ok (.getfield 26, 3) := by decide +kernel
theorem dX4_count_184 : decode cX4_count 184 = .ok (.getfield 137, 3) := by decide +kernel
theorem dX4_count_187 : decode cX4_count 187 = .ok (.ireturn, 1) := by decide +kernel
theorem dX4_count_188 : decode cX4_count 188 = .ok (.sipush (-1001), 3) := by decide +kernel
theorem dX4_count_191 : decode cX4_count 191 = .ok (.ireturn, 1) := by decide +kernel
theorem dX4_zone_0 : decode cX4_zone 0 = .ok (.iload_n 1, 1) := by decide +kernel
theorem dX4_zone_1 : decode cX4_zone 1 = .ok (.iconst 0, 1) := by decide +kernel
theorem dX4_zone_2 : decode cX4_zone 2 = .ok (.iconst 5, 1) := by decide +kernel
theorem dX4_zone_3 : decode cX4_zone 3 = .ok (.invokestatic 140, 3) := by decide +kernel
theorem dX4_zone_6 : decode cX4_zone 6 = .ok (.ifCond .ne 7, 3) := by decide +kernel
theorem dX4_zone_9 : decode cX4_zone 9 = .ok (.sipush (-1001), 3) := by decide +kernel
theorem dX4_zone_12 : decode cX4_zone 12 = .ok (.ireturn, 1) := by decide +kernel
theorem dX4_zone_13 : decode cX4_zone 13 = .ok (.iload_n 2, 1) := by decide +kernel
theorem dX4_zone_14 : decode cX4_zone 14 = .ok (.tableswitch 95 0 6 #[42, 42, 42, 42, 59, 71, 83], 42) := by decide +kernel
theorem dX4_zone_56 : decode cX4_zone 56 = .ok (.aload_n 0, 1) := by decide +kernel
theorem dX4_zone_57 : decode cX4_zone 57 = .ok (.getfield 12, 3) := by decide +kernel
theorem dX4_zone_60 : decode cX4_zone 60 = .ok (.getfield 41, 3) := by decide +kernel
theorem dX4_zone_63 : decode cX4_zone 63 = .ok (.getfield 144, 3) := by decide +kernel
theorem dX4_zone_66 : decode cX4_zone 66 = .ok (.iload_n 1, 1) := by decide +kernel
theorem dX4_zone_67 : decode cX4_zone 67 = .ok (.iconst 4, 1) := by decide +kernel
theorem dX4_zone_68 : decode cX4_zone 68 = .ok (.imul, 1) := by decide +kernel
theorem dX4_zone_69 : decode cX4_zone 69 = .ok (.iload_n 2, 1) := by decide +kernel
theorem dX4_zone_70 : decode cX4_zone 70 = .ok (.iadd, 1) := by decide +kernel
theorem dX4_zone_71 : decode cX4_zone 71 = .ok (.iaload, 1) := by decide +kernel
theorem dX4_zone_72 : decode cX4_zone 72 = .ok (.ireturn, 1) := by decide +kernel
theorem dX4_zone_73 : decode cX4_zone 73 = .ok (.aload_n 0, 1) := by decide +kernel
theorem dX4_zone_74 : decode cX4_zone 74 = .ok (.getfield 12, 3) := by decide +kernel
theorem dX4_zone_77 : decode cX4_zone 77 = .ok (.getfield 41, 3) := by decide +kernel
theorem dX4_zone_80 : decode cX4_zone 80 = .ok (.iload_n 1, 1) := by decide +kernel
theorem dX4_zone_81 : decode cX4_zone 81 = .ok (.invokevirtual 147, 3) := by decide +kernel
theorem dX4_zone_84 : decode cX4_zone 84 = .ok (.ireturn, 1) := by decide +kernel
theorem dX4_zone_85 : decode cX4_zone 85 = .ok (.aload_n 0, 1) := by decide +kernel
theorem dX4_zone_86 : decode cX4_zone 86 = .ok (.getfield 12, 3) := by decide +kernel
theorem dX4_zone_89 : decode cX4_zone 89 = .ok (.getfield 41, 3) := by decide +kernel
theorem dX4_zone_92 : decode cX4_zone 92 = .ok (.iload_n 1, 1) := by decide +kernel
theorem dX4_zone_93 : decode cX4_zone 93 = .ok (.invokevirtual 150, 3) := by decide +kernel
theorem dX4_zone_96 : decode cX4_zone 96 = .ok (.ireturn, 1) := by decide +kernel
theorem dX4_zone_97 : decode cX4_zone 97 = .ok (.aload_n 0, 1) := by decide +kernel
theorem dX4_zone_98 : decode cX4_zone 98 = .ok (.getfield 12, 3) := by decide +kernel
theorem dX4_zone_101 : decode cX4_zone 101 = .ok (.getfield 41, 3) := by decide +kernel
theorem dX4_zone_104 : decode cX4_zone 104 = .ok (.iload_n 1, 1) := by decide +kernel
theorem dX4_zone_105 : decode cX4_zone 105 = .ok (.invokevirtual 153, 3) := by decide +kernel
theorem dX4_zone_108 : decode cX4_zone 108 = .ok (.ireturn, 1) := by decide +kernel
theorem dX4_zone_109 : decode cX4_zone 109 = .ok (.sipush (-1001), 3) := by decide +kernel
theorem dX4_zone_112 : decode cX4_zone 112 = .ok (.ireturn, 1) := by decide +kernel
theorem dX4_curve_0 : decode cX4_curve 0 = .ok (.iload_n 1, 1) := by decide +kernel
theorem dX4_curve_1 : decode cX4_curve 1 = .ok (.iconst 0, 1) := by decide +kernel
theorem dX4_curve_2 : decode cX4_curve 2 = .ok (.iconst 3, 1) := by decide +kernel
theorem dX4_curve_3 : decode cX4_curve 3 = .ok (.invokestatic 140, 3) := by decide +kernel
theorem dX4_curve_6 : decode cX4_curve 6 = .ok (.ifCond .eq 12, 3) := by decide +kernel
theorem dX4_curve_9 : decode cX4_curve 9 = .ok (.iload_n 2, 1) := by decide +kernel
theorem dX4_curve_10 : decode cX4_curve 10 = .ok (.iconst 0, 1) := by decide +kernel
theorem dX4_curve_11 : decode cX4_curve 11 = .ok (.iconst 5, 1) := by decide +kernel
theorem dX4_curve_12 : decode cX4_curve 12 = .ok (.invokestatic 140, 3) := by decide +kernel
theorem dX4_curve_15 : decode cX4_curve 15 = .ok (.ifCond .ne 7, 3) := by decide +kernel
theorem dX4_curve_18 : decode cX4_curve 18 = .ok (.sipush (-1001), 3) := by decide +kernel
theorem dX4_curve_21 : decode cX4_curve 21 = .ok (.ireturn, 1) := by decide +kernel
theorem dX4_curve_22 : decode cX4_curve 22 = .ok (.aload_n 0, 1) := by decide +kernel
theorem dX4_curve_23 : decode cX4_curve 23 = .ok (.getfield 12, 3) := by decide +kernel
theorem dX4_curve_26 : decode cX4_curve 26 = .ok (.getfield 41, 3) := by decide +kernel
theorem dX4_curve_29 : decode cX4_curve 29 = .ok (.getfield 156, 3) := by decide +kernel
theorem dX4_curve_32 : decode cX4_curve 32 = .ok (.iload_n 1, 1) := by decide +kernel
theorem dX4_curve_33 : decode cX4_curve 33 = .ok (.bipush 6, 2) := by decide +kernel
theorem dX4_curve_35 : decode cX4_curve 35 = .ok (.imul, 1) := by decide +kernel
theorem dX4_curve_36 : decode cX4_curve 36 = .ok (.iload_n 2, 1) := by decide +kernel
theorem dX4_curve_37 : decode cX4_curve 37 = .ok (.iadd, 1) := by decide +kernel
theorem dX4_curve_38 : decode cX4_curve 38 = .ok (.iaload, 1) := by decide +kernel
theorem dX4_curve_39 : decode cX4_curve 39 = .ok (.ireturn, 1) := by decide +kernel
theorem dX4_board_0 : decode cX4_board 0 = .ok (.aload_n 0, 1) := by decide +kernel
theorem dX4_board_1 : decode cX4_board 1 = .ok (.getfield 12, 3) := by decide +kernel
theorem dX4_board_4 : decode cX4_board 4 = .ok (.getfield 41, 3) := by decide +kernel
theorem dX4_board_7 : decode cX4_board 7 = .ok (.iload_n 1, 1) := by decide +kernel
theorem dX4_board_8 : decode cX4_board 8 = .ok (.invokevirtual 159, 3) := by decide +kernel
theorem dX4_board_11 : decode cX4_board 11 = .ok (.ifCond .eq 13, 3) := by decide +kernel
theorem dX4_board_14 : decode cX4_board 14 = .ok (.iload_n 2, 1) := by decide +kernel
theorem dX4_board_15 : decode cX4_board 15 = .ok (.iconst 0, 1) := by decide +kernel
theorem dX4_board_16 : decode cX4_board 16 = .ok (.bipush 10, 2) := by decide +kernel
theorem dX4_board_18 : decode cX4_board 18 = .ok (.invokestatic 140, 3) := by decide +kernel
theorem dX4_board_21 : decode cX4_board 21 = .ok (.ifCond .ne 7, 3) := by decide +kernel
theorem dX4_board_24 : decode cX4_board 24 = .ok (.sipush (-1001), 3) := by decide +kernel
theorem dX4_board_27 : decode cX4_board 27 = .ok (.ireturn, 1) := by decide +kernel
theorem dX4_board_28 : decode cX4_board 28 = .ok (.aload_n 0, 1) := by decide +kernel
theorem dX4_board_29 : decode cX4_board 29 = .ok (.getfield 12, 3) := by decide +kernel
theorem dX4_board_32 : decode cX4_board 32 = .ok (.getfield 41, 3) := by decide +kernel
theorem dX4_board_35 : decode cX4_board 35 = .ok (.getfield 163, 3) := by decide +kernel
theorem dX4_board_38 : decode cX4_board 38 = .ok (.iload_n 1, 1) := by decide +kernel
theorem dX4_board_39 : decode cX4_board 39 = .ok (.bipush 22, 2) := by decide +kernel
theorem dX4_board_41 : decode cX4_board 41 = .ok (.imul, 1) := by decide +kernel
theorem dX4_board_42 : decode cX4_board 42 = .ok (.iload_n 2, 1) := by decide +kernel
theorem dX4_board_43 : decode cX4_board 43 = .ok (.iadd, 1) := by decide +kernel
theorem dX4_board_44 : decode cX4_board 44 = .ok (.iaload, 1) := by decide +kernel
theorem dX4_board_45 : decode cX4_board 45 = .ok (.ireturn, 1) := by decide +kernel
theorem dX4_fault_0 : decode cX4_fault 0 = .ok (.aload_n 0, 1) := by decide +kernel
theorem dX4_fault_1 : decode cX4_fault 1 = .ok (.getfield 12, 3) := by decide +kernel
theorem dX4_fault_4 : decode cX4_fault 4 = .ok (.getfield 41, 3) := by decide +kernel
theorem dX4_fault_7 : decode cX4_fault 7 = .ok (.iload_n 1, 1) := by decide +kernel
theorem dX4_fault_8 : decode cX4_fault 8 = .ok (.invokevirtual 159, 3) := by decide +kernel
theorem dX4_fault_11 : decode cX4_fault 11 = .ok (.ifCond .eq 21, 3) := by decide +kernel
theorem dX4_fault_14 : decode cX4_fault 14 = .ok (.iload_n 2, 1) := by decide +kernel
theorem dX4_fault_15 : decode cX4_fault 15 = .ok (.iconst 0, 1) := by decide +kernel
theorem dX4_fault_16 : decode cX4_fault 16 = .ok (.iconst 4, 1) := by decide +kernel
theorem dX4_fault_17 : decode cX4_fault 17 = .ok (.invokestatic 140, 3) := by decide +kernel
theorem dX4_fault_20 : decode cX4_fault 20 = .ok (.ifCond .eq 12, 3) := by decide +kernel
theorem dX4_fault_23 : decode cX4_fault 23 = .ok (.iload_n 3, 1) := by decide +kernel
theorem dX4_fault_24 : decode cX4_fault 24 = .ok (.iconst 0, 1) := by decide +kernel
theorem dX4_fault_25 : decode cX4_fault 25 = .ok (.iconst 1, 1) := by decide +kernel
theorem dX4_fault_26 : decode cX4_fault 26 = .ok (.invokestatic 140, 3) := by decide +kernel
theorem dX4_fault_29 : decode cX4_fault 29 = .ok (.ifCond .ne 7, 3) := by decide +kernel
theorem dX4_fault_32 : decode cX4_fault 32 = .ok (.sipush (-1001), 3) := by decide +kernel
theorem dX4_fault_35 : decode cX4_fault 35 = .ok (.ireturn, 1) := by decide +kernel
theorem dX4_fault_36 : decode cX4_fault 36 = .ok (.iload_n 3, 1) := by decide +kernel
theorem dX4_fault_37 : decode cX4_fault 37 = .ok (.ifCond .ne 8, 3) := by decide +kernel
theorem dX4_fault_40 : decode cX4_fault 40 = .ok (.bipush 12, 2) := by decide +kernel
theorem dX4_fault_42 : decode cX4_fault 42 = .ok (.goto 5, 3) := by decide +kernel
theorem dX4_fault_45 : decode cX4_fault 45 = .ok (.bipush 17, 2) := by decide +kernel
theorem dX4_fault_47 : decode cX4_fault 47 = .ok (.istore 4, 2) := by decide +kernel
theorem dX4_fault_49 : decode cX4_fault 49 = .ok (.aload_n 0, 1) := by decide +kernel
theorem dX4_fault_50 : decode cX4_fault 50 = .ok (.getfield 12, 3) := by decide +kernel
theorem dX4_fault_53 : decode cX4_fault 53 = .ok (.getfield 41, 3) := by decide +kernel
theorem dX4_fault_56 : decode cX4_fault 56 = .ok (.getfield 163, 3) := by decide +kernel
theorem dX4_fault_59 : decode cX4_fault 59 = .ok (.iload_n 1, 1) := by decide +kernel
theorem dX4_fault_60 : decode cX4_fault 60 = .ok (.bipush 22, 2) := by decide +kernel
theorem dX4_fault_62 : decode cX4_fault 62 = .ok (.imul, 1) := by decide +kernel
theorem dX4_fault_63 : decode cX4_fault 63 = .ok (.iload 4, 2) := by decide +kernel
theorem dX4_fault_65 : decode cX4_fault 65 = .ok (.iadd, 1) := by decide +kernel
theorem dX4_fault_66 : decode cX4_fault 66 = .ok (.iload_n 2, 1) := by decide +kernel
theorem dX4_fault_67 : decode cX4_fault 67 = .ok (.iadd, 1) := by decide +kernel
theorem dX4_fault_68 : decode cX4_fault 68 = .ok (.iaload, 1) := by decide +kernel
theorem dX4_fault_69 : decode cX4_fault 69 = .ok (.ireturn, 1) := by decide +kernel
theorem dX4_worstCell_0 : decode cX4_worstCell 0 = .ok (.iload_n 1, 1) := by decide +kernel
theorem dX4_worstCell_1 : decode cX4_worstCell 1 = .ok (.iconst 0, 1) := by decide +kernel
theorem dX4_worstCell_2 : decode cX4_worstCell 2 = .ok (.iconst 4, 1) := by decide +kernel
theorem dX4_worstCell_3 : decode cX4_worstCell 3 = .ok (.invokestatic 140, 3) := by decide +kernel
theorem dX4_worstCell_6 : decode cX4_worstCell 6 = .ok (.ifCond .eq 12, 3) := by decide +kernel
theorem dX4_worstCell_9 : decode cX4_worstCell 9 = .ok (.iload_n 2, 1) := by decide +kernel
theorem dX4_worstCell_10 : decode cX4_worstCell 10 = .ok (.iconst 0, 1) := by decide +kernel
theorem dX4_worstCell_11 : decode cX4_worstCell 11 = .ok (.iconst 1, 1) := by decide +kernel
theorem dX4_worstCell_12 : decode cX4_worstCell 12 = .ok (.invokestatic 140, 3) := by decide +kernel
theorem dX4_worstCell_15 : decode cX4_worstCell 15 = .ok (.ifCond .ne 7, 3) := by decide +kernel
theorem dX4_worstCell_18 : decode cX4_worstCell 18 = .ok (.sipush (-1001), 3) := by decide +kernel
theorem dX4_worstCell_21 : decode cX4_worstCell 21 = .ok (.ireturn, 1) := by decide +kernel
theorem dX4_worstCell_22 : decode cX4_worstCell 22 = .ok (.sipush (-1009), 3) := by decide +kernel
theorem dX4_worstCell_25 : decode cX4_worstCell 25 = .ok (.istore_n 3, 1) := by decide +kernel
theorem dX4_worstCell_26 : decode cX4_worstCell 26 = .ok (.iconst 0, 1) := by decide +kernel
theorem dX4_worstCell_27 : decode cX4_worstCell 27 = .ok (.istore 4, 2) := by decide +kernel
theorem dX4_worstCell_29 : decode cX4_worstCell 29 = .ok (.iconst 0, 1) := by decide +kernel
theorem dX4_worstCell_30 : decode cX4_worstCell 30 = .ok (.istore 5, 2) := by decide +kernel
theorem dX4_worstCell_32 : decode cX4_worstCell 32 = .ok (.iload 5, 2) := by decide +kernel
theorem dX4_worstCell_34 : decode cX4_worstCell 34 = .ok (.bipush 48, 2) := by decide +kernel
theorem dX4_worstCell_36 : decode cX4_worstCell 36 = .ok (.if_icmp .gt 38, 3) := by decide +kernel
theorem dX4_worstCell_39 : decode cX4_worstCell 39 = .ok (.aload_n 0, 1) := by decide +kernel
theorem dX4_worstCell_40 : decode cX4_worstCell 40 = .ok (.getfield 12, 3) := by decide +kernel
theorem dX4_worstCell_43 : decode cX4_worstCell 43 = .ok (.getfield 41, 3) := by decide +kernel
theorem dX4_worstCell_46 : decode cX4_worstCell 46 = .ok (.iload_n 1, 1) := by decide +kernel
theorem dX4_worstCell_47 : decode cX4_worstCell 47 = .ok (.iload 5, 2) := by decide +kernel
theorem dX4_worstCell_49 : decode cX4_worstCell 49 = .ok (.invokevirtual 166, 3) := by decide +kernel
theorem dX4_worstCell_52 : decode cX4_worstCell 52 = .ok (.istore 6, 2) := by decide +kernel
theorem dX4_worstCell_54 : decode cX4_worstCell 54 = .ok (.iload 6, 2) := by decide +kernel
theorem dX4_worstCell_56 : decode cX4_worstCell 56 = .ok (.iload 4, 2) := by decide +kernel
theorem dX4_worstCell_58 : decode cX4_worstCell 58 = .ok (.if_icmp .le 10, 3) := by decide +kernel
theorem dX4_worstCell_61 : decode cX4_worstCell 61 = .ok (.iload 5, 2) := by decide +kernel
theorem dX4_worstCell_63 : decode cX4_worstCell 63 = .ok (.istore_n 3, 1) := by decide +kernel
theorem dX4_worstCell_64 : decode cX4_worstCell 64 = .ok (.iload 6, 2) := by decide +kernel
theorem dX4_worstCell_66 : decode cX4_worstCell 66 = .ok (.istore 4, 2) := by decide +kernel
theorem dX4_worstCell_68 : decode cX4_worstCell 68 = .ok (.iinc 5 1, 3) := by decide +kernel
theorem dX4_worstCell_71 : decode cX4_worstCell 71 = .ok (.goto (-39), 3) := by decide +kernel
theorem dX4_worstCell_74 : decode cX4_worstCell 74 = .ok (.iload_n 2, 1) := by decide +kernel
theorem dX4_worstCell_75 : decode cX4_worstCell 75 = .ok (.ifCond .ne 7, 3) := by decide +kernel
theorem dX4_worstCell_78 : decode cX4_worstCell 78 = .ok (.iload_n 3, 1) := by decide +kernel
theorem dX4_worstCell_79 : decode cX4_worstCell 79 = .ok (.goto 5, 3) := by decide +kernel
theorem dX4_worstCell_82 : decode cX4_worstCell 82 = .ok (.iload 4, 2) := by decide +kernel
theorem dX4_worstCell_84 : decode cX4_worstCell 84 = .ok (.ireturn, 1) := by decide +kernel
theorem dX4_faultCells_0 : decode cX4_faultCells 0 = .ok (.aload_n 0, 1) := by decide +kernel
theorem dX4_faultCells_1 : decode cX4_faultCells 1 = .ok (.getfield 12, 3) := by decide +kernel
theorem dX4_faultCells_4 : decode cX4_faultCells 4 = .ok (.getfield 41, 3) := by decide +kernel
theorem dX4_faultCells_7 : decode cX4_faultCells 7 = .ok (.invokevirtual 169, 3) := by decide +kernel
theorem dX4_faultCells_10 : decode cX4_faultCells 10 = .ok (.invokestatic 173, 3) := by decide +kernel
theorem dX4_faultCells_13 : decode cX4_faultCells 13 = .ok (.ireturn, 1) := by decide +kernel
theorem dX4_foretell_0 : decode cX4_foretell 0 = .ok (.aload_n 0, 1) := by decide +kernel
theorem dX4_foretell_1 : decode cX4_foretell 1 = .ok (.getfield 12, 3) := by decide +kernel
theorem dX4_foretell_4 : decode cX4_foretell 4 = .ok (.getfield 41, 3) := by decide +kernel
theorem dX4_foretell_7 : decode cX4_foretell 7 = .ok (.iload_n 1, 1) := by decide +kernel
theorem dX4_foretell_8 : decode cX4_foretell 8 = .ok (.invokevirtual 159, 3) := by decide +kernel
theorem dX4_foretell_11 : decode cX4_foretell 11 = .ok (.ifCond .eq 12, 3) := by decide +kernel
theorem dX4_foretell_14 : decode cX4_foretell 14 = .ok (.iload_n 2, 1) := by decide +kernel
theorem dX4_foretell_15 : decode cX4_foretell 15 = .ok (.iconst 0, 1) := by decide +kernel
theorem dX4_foretell_16 : decode cX4_foretell 16 = .ok (.iconst 3, 1) := by decide +kernel
theorem dX4_foretell_17 : decode cX4_foretell 17 = .ok (.invokestatic 140, 3) := by decide +kernel
theorem dX4_foretell_20 : decode cX4_foretell 20 = .ok (.ifCond .ne 7, 3) := by decide +kernel
theorem dX4_foretell_23 : decode cX4_foretell 23 = .ok (.sipush (-1001), 3) := by decide +kernel
theorem dX4_foretell_26 : decode cX4_foretell 26 = .ok (.ireturn, 1) := by decide +kernel
theorem dX4_foretell_27 : decode cX4_foretell 27 = .ok (.aload_n 0, 1) := by decide +kernel
theorem dX4_foretell_28 : decode cX4_foretell 28 = .ok (.getfield 12, 3) := by decide +kernel
theorem dX4_foretell_31 : decode cX4_foretell 31 = .ok (.getfield 41, 3) := by decide +kernel
theorem dX4_foretell_34 : decode cX4_foretell 34 = .ok (.iload_n 1, 1) := by decide +kernel
theorem dX4_foretell_35 : decode cX4_foretell 35 = .ok (.invokevirtual 179, 3) := by decide +kernel
theorem dX4_foretell_38 : decode cX4_foretell 38 = .ok (.ifCond .ne 7, 3) := by decide +kernel
theorem dX4_foretell_41 : decode cX4_foretell 41 = .ok (.sipush (-1002), 3) := by decide +kernel
theorem dX4_foretell_44 : decode cX4_foretell 44 = .ok (.ireturn, 1) := by decide +kernel
theorem dX4_foretell_45 : decode cX4_foretell 45 = .ok (.aload_n 0, 1) := by decide +kernel
theorem dX4_foretell_46 : decode cX4_foretell 46 = .ok (.getfield 33, 3) := by decide +kernel
theorem dX4_foretell_49 : decode cX4_foretell 49 = .ok (.aload_n 0, 1) := by decide +kernel
theorem dX4_foretell_50 : decode cX4_foretell 50 = .ok (.getfield 12, 3) := by decide +kernel
theorem dX4_foretell_53 : decode cX4_foretell 53 = .ok (.getfield 41, 3) := by decide +kernel
theorem dX4_foretell_56 : decode cX4_foretell 56 = .ok (.invokevirtual 182, 3) := by decide +kernel
theorem dX4_foretell_59 : decode cX4_foretell 59 = .ok (.aload_n 0, 1) := by decide +kernel
theorem dX4_foretell_60 : decode cX4_foretell 60 = .ok (.getfield 33, 3) := by decide +kernel
theorem dX4_foretell_63 : decode cX4_foretell 63 = .ok (.iload_n 1, 1) := by decide +kernel
theorem dX4_foretell_64 : decode cX4_foretell 64 = .ok (.invokevirtual 186, 3) := by decide +kernel
theorem dX4_foretell_67 : decode cX4_foretell 67 = .ok (.istore_n 3, 1) := by decide +kernel
theorem dX4_foretell_68 : decode cX4_foretell 68 = .ok (.iload_n 1, 1) := by decide +kernel
theorem dX4_foretell_69 : decode cX4_foretell 69 = .ok (.bipush 22, 2) := by decide +kernel
theorem dX4_foretell_71 : decode cX4_foretell 71 = .ok (.imul, 1) := by decide +kernel
theorem dX4_foretell_72 : decode cX4_foretell 72 = .ok (.istore 4, 2) := by decide +kernel
theorem dX4_foretell_74 : decode cX4_foretell 74 = .ok (.iload_n 2, 1) := by decide +kernel
theorem dX4_foretell_75 : decode cX4_foretell 75 = .ok (.tableswitch 55 0 2 #[25, 39, 53], 25) := by decide +kernel
theorem dX4_foretell_100 : decode cX4_foretell 100 = .ok (.aload_n 0, 1) := by decide +kernel
theorem dX4_foretell_101 : decode cX4_foretell 101 = .ok (.getfield 33, 3) := by decide +kernel
theorem dX4_foretell_104 : decode cX4_foretell 104 = .ok (.getfield 163, 3) := by decide +kernel
theorem dX4_foretell_107 : decode cX4_foretell 107 = .ok (.iload 4, 2) := by decide +kernel
theorem dX4_foretell_109 : decode cX4_foretell 109 = .ok (.bipush 8, 2) := by decide +kernel
theorem dX4_foretell_111 : decode cX4_foretell 111 = .ok (.iadd, 1) := by decide +kernel
theorem dX4_foretell_112 : decode cX4_foretell 112 = .ok (.iaload, 1) := by decide +kernel
theorem dX4_foretell_113 : decode cX4_foretell 113 = .ok (.ireturn, 1) := by decide +kernel
theorem dX4_foretell_114 : decode cX4_foretell 114 = .ok (.aload_n 0, 1) := by decide +kernel
theorem dX4_foretell_115 : decode cX4_foretell 115 = .ok (.getfield 33, 3) := by decide +kernel
theorem dX4_foretell_118 : decode cX4_foretell 118 = .ok (.getfield 163, 3) := by decide +kernel
theorem dX4_foretell_121 : decode cX4_foretell 121 = .ok (.iload 4, 2) := by decide +kernel
theorem dX4_foretell_123 : decode cX4_foretell 123 = .ok (.bipush 6, 2) := by decide +kernel
theorem dX4_foretell_125 : decode cX4_foretell 125 = .ok (.iadd, 1) := by decide +kernel
theorem dX4_foretell_126 : decode cX4_foretell 126 = .ok (.iaload, 1) := by decide +kernel
theorem dX4_foretell_127 : decode cX4_foretell 127 = .ok (.ireturn, 1) := by decide +kernel
theorem dX4_foretell_128 : decode cX4_foretell 128 = .ok (.iload_n 3, 1) := by decide +kernel
theorem dX4_foretell_129 : decode cX4_foretell 129 = .ok (.ireturn, 1) := by decide +kernel
theorem dX4_foretell_130 : decode cX4_foretell 130 = .ok (.aload_n 0, 1) := by decide +kernel
theorem dX4_foretell_131 : decode cX4_foretell 131 = .ok (.getfield 33, 3) := by decide +kernel
theorem dX4_foretell_134 : decode cX4_foretell 134 = .ok (.getfield 163, 3) := by decide +kernel
theorem dX4_foretell_137 : decode cX4_foretell 137 = .ok (.iload 4, 2) := by decide +kernel
theorem dX4_foretell_139 : decode cX4_foretell 139 = .ok (.iconst 4, 1) := by decide +kernel
theorem dX4_foretell_140 : decode cX4_foretell 140 = .ok (.iadd, 1) := by decide +kernel
theorem dX4_foretell_141 : decode cX4_foretell 141 = .ok (.iaload, 1) := by decide +kernel
theorem dX4_foretell_142 : decode cX4_foretell 142 = .ok (.ireturn, 1) := by decide +kernel
theorem dX4_wouldFail_0 : decode cX4_wouldFail 0 = .ok (.iload_n 1, 1) := by decide +kernel
theorem dX4_wouldFail_1 : decode cX4_wouldFail 1 = .ok (.iconst 0, 1) := by decide +kernel
theorem dX4_wouldFail_2 : decode cX4_wouldFail 2 = .ok (.iconst 3, 1) := by decide +kernel
theorem dX4_wouldFail_3 : decode cX4_wouldFail 3 = .ok (.invokestatic 140, 3) := by decide +kernel
theorem dX4_wouldFail_6 : decode cX4_wouldFail 6 = .ok (.ifCond .eq 22, 3) := by decide +kernel
theorem dX4_wouldFail_9 : decode cX4_wouldFail 9 = .ok (.iload_n 2, 1) := by decide +kernel
theorem dX4_wouldFail_10 : decode cX4_wouldFail 10 = .ok (.iconst 1, 1) := by decide +kernel
theorem dX4_wouldFail_11 : decode cX4_wouldFail 11 = .ok (.bipush 9, 2) := by decide +kernel
theorem dX4_wouldFail_13 : decode cX4_wouldFail 13 = .ok (.invokestatic 140, 3) := by decide +kernel
theorem dX4_wouldFail_16 : decode cX4_wouldFail 16 = .ok (.ifCond .eq 12, 3) := by decide +kernel
theorem dX4_wouldFail_19 : decode cX4_wouldFail 19 = .ok (.iload_n 3, 1) := by decide +kernel
theorem dX4_wouldFail_20 : decode cX4_wouldFail 20 = .ok (.iconst 0, 1) := by decide +kernel
theorem dX4_wouldFail_21 : decode cX4_wouldFail 21 = .ok (.iconst 3, 1) := by decide +kernel
theorem dX4_wouldFail_22 : decode cX4_wouldFail 22 = .ok (.invokestatic 140, 3) := by decide +kernel
theorem dX4_wouldFail_25 : decode cX4_wouldFail 25 = .ok (.ifCond .ne 7, 3) := by decide +kernel
theorem dX4_wouldFail_28 : decode cX4_wouldFail 28 = .ok (.sipush (-1001), 3) := by decide +kernel
theorem dX4_wouldFail_31 : decode cX4_wouldFail 31 = .ok (.ireturn, 1) := by decide +kernel
theorem dX4_wouldFail_32 : decode cX4_wouldFail 32 = .ok (.aload_n 0, 1) := by decide +kernel
theorem dX4_wouldFail_33 : decode cX4_wouldFail 33 = .ok (.iload_n 1, 1) := by decide +kernel
theorem dX4_wouldFail_34 : decode cX4_wouldFail 34 = .ok (.iload_n 2, 1) := by decide +kernel
theorem dX4_wouldFail_35 : decode cX4_wouldFail 35 = .ok (.iload_n 3, 1) := by decide +kernel
theorem dX4_wouldFail_36 : decode cX4_wouldFail 36 = .ok (.invokevirtual 189, 3) := by decide +kernel
theorem dX4_wouldFail_39 : decode cX4_wouldFail 39 = .ok (.ireturn, 1) := by decide +kernel
theorem dX4_heaviest_0 : decode cX4_heaviest 0 = .ok (.iload_n 1, 1) := by decide +kernel
theorem dX4_heaviest_1 : decode cX4_heaviest 1 = .ok (.iconst 0, 1) := by decide +kernel
theorem dX4_heaviest_2 : decode cX4_heaviest 2 = .ok (.iconst 3, 1) := by decide +kernel
theorem dX4_heaviest_3 : decode cX4_heaviest 3 = .ok (.invokestatic 140, 3) := by decide +kernel
theorem dX4_heaviest_6 : decode cX4_heaviest 6 = .ok (.ifCond .ne 7, 3) := by decide +kernel
theorem dX4_heaviest_9 : decode cX4_heaviest 9 = .ok (.sipush (-1001), 3) := by decide +kernel
theorem dX4_heaviest_12 : decode cX4_heaviest 12 = .ok (.ireturn, 1) := by decide +kernel
theorem dX4_heaviest_13 : decode cX4_heaviest 13 = .ok (.bipush 9, 2) := by decide +kernel
theorem dX4_heaviest_15 : decode cX4_heaviest 15 = .ok (.istore_n 2, 1) := by decide +kernel
theorem dX4_heaviest_16 : decode cX4_heaviest 16 = .ok (.iload_n 2, 1) := by decide +kernel
theorem dX4_heaviest_17 : decode cX4_heaviest 17 = .ok (.iconst 1, 1) := by decide +kernel
theorem dX4_heaviest_18 : decode cX4_heaviest 18 = .ok (.if_icmp .lt 21, 3) := by decide +kernel
theorem dX4_heaviest_21 : decode cX4_heaviest 21 = .ok (.aload_n 0, 1) := by decide +kernel
theorem dX4_heaviest_22 : decode cX4_heaviest 22 = .ok (.iload_n 1, 1) := by decide +kernel
theorem dX4_heaviest_23 : decode cX4_heaviest 23 = .ok (.iload_n 2, 1) := by decide +kernel
theorem dX4_heaviest_24 : decode cX4_heaviest 24 = .ok (.iconst 0, 1) := by decide +kernel
theorem dX4_heaviest_25 : decode cX4_heaviest 25 = .ok (.invokevirtual 189, 3) := by decide +kernel
theorem dX4_heaviest_28 : decode cX4_heaviest 28 = .ok (.ifCond .ne 5, 3) := by decide +kernel
theorem dX4_heaviest_31 : decode cX4_heaviest 31 = .ok (.iload_n 2, 1) := by decide +kernel
theorem dX4_heaviest_32 : decode cX4_heaviest 32 = .ok (.ireturn, 1) := by decide +kernel
theorem dX4_heaviest_33 : decode cX4_heaviest 33 = .ok (.iinc 2 (-1), 3) := by decide +kernel
theorem dX4_heaviest_36 : decode cX4_heaviest 36 = .ok (.goto (-20), 3) := by decide +kernel
theorem dX4_heaviest_39 : decode cX4_heaviest 39 = .ok (.sipush (-1009), 3) := by decide +kernel
theorem dX4_heaviest_42 : decode cX4_heaviest 42 = .ok (.ireturn, 1) := by decide +kernel
theorem dX4_room_0 : decode cX4_room 0 = .ok (.aload_n 0, 1) := by decide +kernel
theorem dX4_room_1 : decode cX4_room 1 = .ok (.getfield 33, 3) := by decide +kernel
theorem dX4_room_4 : decode cX4_room 4 = .ok (.aload_n 0, 1) := by decide +kernel
theorem dX4_room_5 : decode cX4_room 5 = .ok (.getfield 12, 3) := by decide +kernel
theorem dX4_room_8 : decode cX4_room 8 = .ok (.getfield 41, 3) := by decide +kernel
theorem dX4_room_11 : decode cX4_room 11 = .ok (.invokevirtual 182, 3) := by decide +kernel
theorem dX4_room_14 : decode cX4_room 14 = .ok (.aload_n 0, 1) := by decide +kernel
theorem dX4_room_15 : decode cX4_room 15 = .ok (.getfield 33, 3) := by decide +kernel
theorem dX4_room_18 : decode cX4_room 18 = .ok (.invokevirtual 192, 3) := by decide +kernel
theorem dX4_room_21 : decode cX4_room 21 = .ok (.ireturn, 1) := by decide +kernel
theorem dX4_faultsInTrial_0 : decode cX4_faultsInTrial 0 = .ok (.aload_n 0, 1) := by decide +kernel
theorem dX4_faultsInTrial_1 : decode cX4_faultsInTrial 1 = .ok (.getfield 33, 3) := by decide +kernel
theorem dX4_faultsInTrial_4 : decode cX4_faultsInTrial 4 = .ok (.aload_n 0, 1) := by decide +kernel
theorem dX4_faultsInTrial_5 : decode cX4_faultsInTrial 5 = .ok (.getfield 12, 3) := by decide +kernel
theorem dX4_faultsInTrial_8 : decode cX4_faultsInTrial 8 = .ok (.getfield 41, 3) := by decide +kernel
theorem dX4_faultsInTrial_11 : decode cX4_faultsInTrial 11 = .ok (.invokevirtual 182, 3) := by decide +kernel
theorem dX4_faultsInTrial_14 : decode cX4_faultsInTrial 14 = .ok (.iload_n 3, 1) := by decide +kernel
theorem dX4_faultsInTrial_15 : decode cX4_faultsInTrial 15 = .ok (.ifCond .eq 23, 3) := by decide +kernel
theorem dX4_faultsInTrial_18 : decode cX4_faultsInTrial 18 = .ok (.aload_n 0, 1) := by decide +kernel
theorem dX4_faultsInTrial_19 : decode cX4_faultsInTrial 19 = .ok (.getfield 33, 3) := by decide +kernel
theorem dX4_faultsInTrial_22 : decode cX4_faultsInTrial 22 = .ok (.getfield 121, 3) := by decide +kernel
theorem dX4_faultsInTrial_25 : decode cX4_faultsInTrial 25 = .ok (.iconst 0, 1) := by decide +kernel
theorem dX4_faultsInTrial_26 : decode cX4_faultsInTrial 26 = .ok (.iload_n 3, 1) := by decide +kernel
theorem dX4_faultsInTrial_27 : decode cX4_faultsInTrial 27 = .ok (.iastore, 1) := by decide +kernel
theorem dX4_faultsInTrial_28 : decode cX4_faultsInTrial 28 = .ok (.aload_n 0, 1) := by decide +kernel
theorem dX4_faultsInTrial_29 : decode cX4_faultsInTrial 29 = .ok (.getfield 33, 3) := by decide +kernel
theorem dX4_faultsInTrial_32 : decode cX4_faultsInTrial 32 = .ok (.getfield 121, 3) := by decide +kernel
theorem dX4_faultsInTrial_35 : decode cX4_faultsInTrial 35 = .ok (.iconst 2, 1) := by decide +kernel
theorem dX4_faultsInTrial_36 : decode cX4_faultsInTrial 36 = .ok (.iconst 0, 1) := by decide +kernel
theorem dX4_faultsInTrial_37 : decode cX4_faultsInTrial 37 = .ok (.iastore, 1) := by decide +kernel
theorem dX4_faultsInTrial_38 : decode cX4_faultsInTrial 38 = .ok (.aload_n 0, 1) := by decide +kernel
theorem dX4_faultsInTrial_39 : decode cX4_faultsInTrial 39 = .ok (.getfield 33, 3) := by decide +kernel
theorem dX4_faultsInTrial_42 : decode cX4_faultsInTrial 42 = .ok (.iload_n 1, 1) := by decide +kernel
theorem dX4_faultsInTrial_43 : decode cX4_faultsInTrial 43 = .ok (.iload_n 2, 1) := by decide +kernel
theorem dX4_faultsInTrial_44 : decode cX4_faultsInTrial 44 = .ok (.invokevirtual 195, 3) := by decide +kernel
theorem dX4_faultsInTrial_47 : decode cX4_faultsInTrial 47 = .ok (.istore 4, 2) := by decide +kernel
theorem dX4_faultsInTrial_49 : decode cX4_faultsInTrial 49 = .ok (.aload_n 0, 1) := by decide +kernel
theorem dX4_faultsInTrial_50 : decode cX4_faultsInTrial 50 = .ok (.getfield 33, 3) := by decide +kernel
theorem dX4_faultsInTrial_53 : decode cX4_faultsInTrial 53 = .ok (.iload 4, 2) := by decide +kernel
theorem dX4_faultsInTrial_55 : decode cX4_faultsInTrial 55 = .ok (.invokevirtual 186, 3) := by decide +kernel
theorem dX4_faultsInTrial_58 : decode cX4_faultsInTrial 58 = .ok (.pop, 1) := by decide +kernel
theorem dX4_faultsInTrial_59 : decode cX4_faultsInTrial 59 = .ok (.aload_n 0, 1) := by decide +kernel
theorem dX4_faultsInTrial_60 : decode cX4_faultsInTrial 60 = .ok (.getfield 33, 3) := by decide +kernel
theorem dX4_faultsInTrial_63 : decode cX4_faultsInTrial 63 = .ok (.getfield 163, 3) := by decide +kernel
theorem dX4_faultsInTrial_66 : decode cX4_faultsInTrial 66 = .ok (.iload 4, 2) := by decide +kernel
theorem dX4_faultsInTrial_68 : decode cX4_faultsInTrial 68 = .ok (.bipush 22, 2) := by decide +kernel
theorem dX4_faultsInTrial_70 : decode cX4_faultsInTrial 70 = .ok (.imul, 1) := by decide +kernel
theorem dX4_faultsInTrial_71 : decode cX4_faultsInTrial 71 = .ok (.bipush 8, 2) := by decide +kernel
theorem dX4_faultsInTrial_73 : decode cX4_faultsInTrial 73 = .ok (.iadd, 1) := by decide +kernel
theorem dX4_faultsInTrial_74 : decode cX4_faultsInTrial 74 = .ok (.iaload, 1) := by decide +kernel
theorem dX4_faultsInTrial_75 : decode cX4_faultsInTrial 75 = .ok (.ireturn, 1) := by decide +kernel
theorem dX4_isWithin_0 : decode cX4_isWithin 0 = .ok (.iload_n 0, 1) := by decide +kernel
theorem dX4_isWithin_1 : decode cX4_isWithin 1 = .ok (.iload_n 1, 1) := by decide +kernel
theorem dX4_isWithin_2 : decode cX4_isWithin 2 = .ok (.if_icmp .lt 12, 3) := by decide +kernel
theorem dX4_isWithin_5 : decode cX4_isWithin 5 = .ok (.iload_n 0, 1) := by decide +kernel
theorem dX4_isWithin_6 : decode cX4_isWithin 6 = .ok (.iload_n 2, 1) := by decide +kernel
theorem dX4_isWithin_7 : decode cX4_isWithin 7 = .ok (.if_icmp .gt 7, 3) := by decide +kernel
theorem dX4_isWithin_10 : decode cX4_isWithin 10 = .ok (.iconst 1, 1) := by decide +kernel
theorem dX4_isWithin_11 : decode cX4_isWithin 11 = .ok (.goto 4, 3) := by decide +kernel
theorem dX4_isWithin_14 : decode cX4_isWithin 14 = .ok (.iconst 0, 1) := by decide +kernel
theorem dX4_isWithin_15 : decode cX4_isWithin 15 = .ok (.ireturn, 1) := by decide +kernel
theorem dX2_init_0 : decode cX2_init 0 = .ok (.aload_n 0, 1) := by decide +kernel
theorem dX2_init_1 : decode cX2_init 1 = .ok (.invokespecial 3, 3) := by decide +kernel
theorem dX2_init_4 : decode cX2_init 4 = .ok (.aload_n 0, 1) := by decide +kernel
theorem dX2_init_5 : decode cX2_init 5 = .ok (.bipush 24, 2) := by decide +kernel
theorem dX2_init_7 : decode cX2_init 7 = .ok (.newarray .int, 2) := by decide +kernel
theorem dX2_init_9 : decode cX2_init 9 = .ok (.putfield 9, 3) := by decide +kernel
theorem dX2_init_12 : decode cX2_init 12 = .ok (.aload_n 0, 1) := by decide +kernel
theorem dX2_init_13 : decode cX2_init 13 = .ok (.bipush 24, 2) := by decide +kernel
theorem dX2_init_15 : decode cX2_init 15 = .ok (.newarray .int, 2) := by decide +kernel
theorem dX2_init_17 : decode cX2_init 17 = .ok (.putfield 15, 3) := by decide +kernel
theorem dX2_init_20 : decode cX2_init 20 = .ok (.aload_n 0, 1) := by decide +kernel
theorem dX2_init_21 : decode cX2_init 21 = .ok (.iconst 4, 1) := by decide +kernel
theorem dX2_init_22 : decode cX2_init 22 = .ok (.newarray .int, 2) := by decide +kernel
theorem dX2_init_24 : decode cX2_init 24 = .ok (.putfield 18, 3) := by decide +kernel
theorem dX2_init_27 : decode cX2_init 27 = .ok (.aload_n 0, 1) := by decide +kernel
theorem dX2_init_28 : decode cX2_init 28 = .ok (.sipush 682, 3) := by decide +kernel
theorem dX2_init_31 : decode cX2_init 31 = .ok (.newarray .int, 2) := by decide +kernel
theorem dX2_init_33 : decode cX2_init 33 = .ok (.putfield 21, 3) := by decide +kernel
theorem dX2_init_36 : decode cX2_init 36 = .ok (.aload_n 0, 1) := by decide +kernel
theorem dX2_init_37 : decode cX2_init 37 = .ok (.bipush 6, 2) := by decide +kernel
theorem dX2_init_39 : decode cX2_init 39 = .ok (.newarray .int, 2) := by decide +kernel
theorem dX2_init_41 : decode cX2_init 41 = .ok (.putfield 24, 3) := by decide +kernel
theorem dX2_init_44 : decode cX2_init 44 = .ok (.iconst 0, 1) := by decide +kernel
theorem dX2_init_45 : decode cX2_init 45 = .ok (.istore_n 1, 1) := by decide +kernel
theorem dX2_init_46 : decode cX2_init 46 = .ok (.iload_n 1, 1) := by decide +kernel
theorem dX2_init_47 : decode cX2_init 47 = .ok (.bipush 6, 2) := by decide +kernel
theorem dX2_init_49 : decode cX2_init 49 = .ok (.if_icmp .ge 57, 3) := by decide +kernel
theorem dX2_init_52 : decode cX2_init 52 = .ok (.iload_n 1, 1) := by decide +kernel
theorem dX2_init_53 : decode cX2_init 53 = .ok (.iconst 4, 1) := by decide +kernel
theorem dX2_init_54 : decode cX2_init 54 = .ok (.imul, 1) := by decide +kernel
theorem dX2_init_55 : decode cX2_init 55 = .ok (.istore_n 2, 1) := by decide +kernel
theorem dX2_init_56 : decode cX2_init 56 = .ok (.aload_n 0, 1) := by decide +kernel
theorem dX2_init_57 : decode cX2_init 57 = .ok (.getfield 9, 3) := by decide +kernel
theorem dX2_init_60 : decode cX2_init 60 = .ok (.iload_n 2, 1) := by decide +kernel
theorem dX2_init_61 : decode cX2_init 61 = .ok (.iconst 0, 1) := by decide +kernel
theorem dX2_init_62 : decode cX2_init 62 = .ok (.iadd, 1) := by decide +kernel
theorem dX2_init_63 : decode cX2_init 63 = .ok (.iconst 4, 1) := by decide +kernel
theorem dX2_init_64 : decode cX2_init 64 = .ok (.iastore, 1) := by decide +kernel
theorem dX2_init_65 : decode cX2_init 65 = .ok (.aload_n 0, 1) := by decide +kernel
theorem dX2_init_66 : decode cX2_init 66 = .ok (.getfield 9, 3) := by decide +kernel
theorem dX2_init_69 : decode cX2_init 69 = .ok (.iload_n 2, 1) := by decide +kernel
theorem dX2_init_70 : decode cX2_init 70 = .ok (.iconst 1, 1) := by decide +kernel
theorem dX2_init_71 : decode cX2_init 71 = .ok (.iadd, 1) := by decide +kernel
theorem dX2_init_72 : decode cX2_init 72 = .ok (.getstatic 27, 3) := by decide +kernel
theorem dX2_init_75 : decode cX2_init 75 = .ok (.iload_n 1, 1) := by decide +kernel
theorem dX2_init_76 : decode cX2_init 76 = .ok (.iaload, 1) := by decide +kernel
theorem dX2_init_77 : decode cX2_init 77 = .ok (.iastore, 1) := by decide +kernel
theorem dX2_init_78 : decode cX2_init 78 = .ok (.aload_n 0, 1) := by decide +kernel
theorem dX2_init_79 : decode cX2_init 79 = .ok (.getfield 9, 3) := by decide +kernel
theorem dX2_init_82 : decode cX2_init 82 = .ok (.iload_n 2, 1) := by decide +kernel
theorem dX2_init_83 : decode cX2_init 83 = .ok (.iconst 2, 1) := by decide +kernel
theorem dX2_init_84 : decode cX2_init 84 = .ok (.iadd, 1) := by decide +kernel
theorem dX2_init_85 : decode cX2_init 85 = .ok (.iconst 5, 1) := by decide +kernel
theorem dX2_init_86 : decode cX2_init 86 = .ok (.iastore, 1) := by decide +kernel
theorem dX2_init_87 : decode cX2_init 87 = .ok (.aload_n 0, 1) := by decide +kernel
theorem dX2_init_88 : decode cX2_init 88 = .ok (.getfield 9, 3) := by decide +kernel
theorem dX2_init_91 : decode cX2_init 91 = .ok (.iload_n 2, 1) := by decide +kernel
theorem dX2_init_92 : decode cX2_init 92 = .ok (.iconst 3, 1) := by decide +kernel
theorem dX2_init_93 : decode cX2_init 93 = .ok (.iadd, 1) := by decide +kernel
theorem dX2_init_94 : decode cX2_init 94 = .ok (.getstatic 27, 3) := by decide +kernel
theorem dX2_init_97 : decode cX2_init 97 = .ok (.iload_n 1, 1) := by decide +kernel
theorem dX2_init_98 : decode cX2_init 98 = .ok (.iaload, 1) := by decide +kernel
theorem dX2_init_99 : decode cX2_init 99 = .ok (.iastore, 1) := by decide +kernel
theorem dX2_init_100 : decode cX2_init 100 = .ok (.iinc 1 1, 3) := by decide +kernel
theorem dX2_init_103 : decode cX2_init 103 = .ok (.goto (-57), 3) := by decide +kernel
theorem dX2_init_106 : decode cX2_init 106 = .ok (.iconst 0, 1) := by decide +kernel
theorem dX2_init_107 : decode cX2_init 107 = .ok (.istore_n 1, 1) := by decide +kernel
theorem dX2_init_108 : decode cX2_init 108 = .ok (.iload_n 1, 1) := by decide +kernel
theorem dX2_init_109 : decode cX2_init 109 = .ok (.iconst 4, 1) := by decide +kernel
theorem dX2_init_110 : decode cX2_init 110 = .ok (.if_icmp .ge 26, 3) := by decide +kernel
theorem dX2_init_113 : decode cX2_init 113 = .ok (.getstatic 30, 3) := by decide +kernel
theorem dX2_init_116 : decode cX2_init 116 = .ok (.iconst 0, 1) := by decide +kernel
theorem dX2_init_117 : decode cX2_init 117 = .ok (.aload_n 0, 1) := by decide +kernel
theorem dX2_init_118 : decode cX2_init 118 = .ok (.getfield 15, 3) := by decide +kernel
theorem dX2_init_121 : decode cX2_init 121 = .ok (.iload_n 1, 1) := by decide +kernel
theorem dX2_init_122 : decode cX2_init 122 = .ok (.bipush 6, 2) := by decide +kernel
theorem dX2_init_124 : decode cX2_init 124 = .ok (.imul, 1) := by decide +kernel
theorem dX2_init_125 : decode cX2_init 125 = .ok (.bipush 6, 2) := by decide +kernel
theorem dX2_init_127 : decode cX2_init 127 = .ok (.invokestatic 33, 3) := by decide +kernel
theorem dX2_init_130 : decode cX2_init 130 = .ok (.iinc 1 1, 3) := by decide +kernel
theorem dX2_init_133 : decode cX2_init 133 = .ok (.goto (-25), 3) := by decide +kernel
theorem dX2_init_136 : decode cX2_init 136 = .ok (.getstatic 39, 3) := by decide +kernel
theorem dX2_init_139 : decode cX2_init 139 = .ok (.iconst 0, 1) := by decide +kernel
theorem dX2_init_140 : decode cX2_init 140 = .ok (.aload_n 0, 1) := by decide +kernel
theorem dX2_init_141 : decode cX2_init 141 = .ok (.getfield 18, 3) := by decide +kernel
theorem dX2_init_144 : decode cX2_init 144 = .ok (.iconst 0, 1) := by decide +kernel
theorem dX2_init_145 : decode cX2_init 145 = .ok (.iconst 4, 1) := by decide +kernel
theorem dX2_init_146 : decode cX2_init 146 = .ok (.invokestatic 33, 3) := by decide +kernel
theorem dX2_init_149 : decode cX2_init 149 = .ok (.return_, 1) := by decide +kernel
theorem dX2_become_0 : decode cX2_become 0 = .ok (.aload_n 1, 1) := by decide +kernel
theorem dX2_become_1 : decode cX2_become 1 = .ok (.getfield 9, 3) := by decide +kernel
theorem dX2_become_4 : decode cX2_become 4 = .ok (.iconst 0, 1) := by decide +kernel
theorem dX2_become_5 : decode cX2_become 5 = .ok (.aload_n 0, 1) := by decide +kernel
theorem dX2_become_6 : decode cX2_become 6 = .ok (.getfield 9, 3) := by decide +kernel
theorem dX2_become_9 : decode cX2_become 9 = .ok (.iconst 0, 1) := by decide +kernel
theorem dX2_become_10 : decode cX2_become 10 = .ok (.bipush 24, 2) := by decide +kernel
theorem dX2_become_12 : decode cX2_become 12 = .ok (.invokestatic 33, 3) := by decide +kernel
theorem dX2_become_15 : decode cX2_become 15 = .ok (.aload_n 1, 1) := by decide +kernel
theorem dX2_become_16 : decode cX2_become 16 = .ok (.getfield 15, 3) := by decide +kernel
theorem dX2_become_19 : decode cX2_become 19 = .ok (.iconst 0, 1) := by decide +kernel
theorem dX2_become_20 : decode cX2_become 20 = .ok (.aload_n 0, 1) := by decide +kernel
theorem dX2_become_21 : decode cX2_become 21 = .ok (.getfield 15, 3) := by decide +kernel
theorem dX2_become_24 : decode cX2_become 24 = .ok (.iconst 0, 1) := by decide +kernel
theorem dX2_become_25 : decode cX2_become 25 = .ok (.bipush 24, 2) := by decide +kernel
theorem dX2_become_27 : decode cX2_become 27 = .ok (.invokestatic 33, 3) := by decide +kernel
theorem dX2_become_30 : decode cX2_become 30 = .ok (.aload_n 1, 1) := by decide +kernel
theorem dX2_become_31 : decode cX2_become 31 = .ok (.getfield 18, 3) := by decide +kernel
theorem dX2_become_34 : decode cX2_become 34 = .ok (.iconst 0, 1) := by decide +kernel
theorem dX2_become_35 : decode cX2_become 35 = .ok (.aload_n 0, 1) := by decide +kernel
theorem dX2_become_36 : decode cX2_become 36 = .ok (.getfield 18, 3) := by decide +kernel
theorem dX2_become_39 : decode cX2_become 39 = .ok (.iconst 0, 1) := by decide +kernel
theorem dX2_become_40 : decode cX2_become 40 = .ok (.iconst 4, 1) := by decide +kernel
theorem dX2_become_41 : decode cX2_become 41 = .ok (.invokestatic 33, 3) := by decide +kernel
theorem dX2_become_44 : decode cX2_become 44 = .ok (.aload_n 1, 1) := by decide +kernel
theorem dX2_become_45 : decode cX2_become 45 = .ok (.getfield 21, 3) := by decide +kernel
theorem dX2_become_48 : decode cX2_become 48 = .ok (.iconst 0, 1) := by decide +kernel
theorem dX2_become_49 : decode cX2_become 49 = .ok (.aload_n 0, 1) := by decide +kernel
theorem dX2_become_50 : decode cX2_become 50 = .ok (.getfield 21, 3) := by decide +kernel
theorem dX2_become_53 : decode cX2_become 53 = .ok (.iconst 0, 1) := by decide +kernel
theorem dX2_become_54 : decode cX2_become 54 = .ok (.aload_n 1, 1) := by decide +kernel
theorem dX2_become_55 : decode cX2_become 55 = .ok (.getfield 42, 3) := by decide +kernel
theorem dX2_become_58 : decode cX2_become 58 = .ok (.bipush 22, 2) := by decide +kernel
theorem dX2_become_60 : decode cX2_become 60 = .ok (.imul, 1) := by decide +kernel
theorem dX2_become_61 : decode cX2_become 61 = .ok (.invokestatic 33, 3) := by decide +kernel
theorem dX2_become_64 : decode cX2_become 64 = .ok (.aload_n 0, 1) := by decide +kernel
theorem dX2_become_65 : decode cX2_become 65 = .ok (.aload_n 1, 1) := by decide +kernel
theorem dX2_become_66 : decode cX2_become 66 = .ok (.getfield 46, 3) := by decide +kernel
theorem dX2_become_69 : decode cX2_become 69 = .ok (.putfield 46, 3) := by decide +kernel
theorem dX2_become_72 : decode cX2_become 72 = .ok (.aload_n 0, 1) := by decide +kernel
theorem dX2_become_73 : decode cX2_become 73 = .ok (.aload_n 1, 1) := by decide +kernel
theorem dX2_become_74 : decode cX2_become 74 = .ok (.getfield 42, 3) := by decide +kernel
theorem dX2_become_77 : decode cX2_become 77 = .ok (.putfield 42, 3) := by decide +kernel
theorem dX2_become_80 : decode cX2_become 80 = .ok (.aload_n 0, 1) := by decide +kernel
theorem dX2_become_81 : decode cX2_become 81 = .ok (.aload_n 1, 1) := by decide +kernel
theorem dX2_become_82 : decode cX2_become 82 = .ok (.getfield 49, 3) := by decide +kernel
theorem dX2_become_85 : decode cX2_become 85 = .ok (.putfield 49, 3) := by decide +kernel
theorem dX2_become_88 : decode cX2_become 88 = .ok (.aload_n 0, 1) := by decide +kernel
theorem dX2_become_89 : decode cX2_become 89 = .ok (.aload_n 1, 1) := by decide +kernel
theorem dX2_become_90 : decode cX2_become 90 = .ok (.getfield 52, 3) := by decide +kernel
theorem dX2_become_93 : decode cX2_become 93 = .ok (.putfield 52, 3) := by decide +kernel
theorem dX2_become_96 : decode cX2_become 96 = .ok (.return_, 1) := by decide +kernel
theorem dX2_changeZone_0 : decode cX2_changeZone 0 = .ok (.iload_n 1, 1) := by decide +kernel
theorem dX2_changeZone_1 : decode cX2_changeZone 1 = .ok (.iconst 0, 1) := by decide +kernel
theorem dX2_changeZone_2 : decode cX2_changeZone 2 = .ok (.iconst 5, 1) := by decide +kernel
theorem dX2_changeZone_3 : decode cX2_changeZone 3 = .ok (.invokestatic 55, 3) := by decide +kernel
theorem dX2_changeZone_6 : decode cX2_changeZone 6 = .ok (.ifCond .eq 36, 3) := by decide +kernel
theorem dX2_changeZone_9 : decode cX2_changeZone 9 = .ok (.iload_n 2, 1) := by decide +kernel
theorem dX2_changeZone_10 : decode cX2_changeZone 10 = .ok (.iconst 2, 1) := by decide +kernel
theorem dX2_changeZone_11 : decode cX2_changeZone 11 = .ok (.bipush 8, 2) := by decide +kernel
theorem dX2_changeZone_13 : decode cX2_changeZone 13 = .ok (.invokestatic 55, 3) := by decide +kernel
theorem dX2_changeZone_16 : decode cX2_changeZone 16 = .ok (.ifCond .eq 26, 3) := by decide +kernel
theorem dX2_changeZone_19 : decode cX2_changeZone 19 = .ok (.iload_n 3, 1) := by decide +kernel
theorem dX2_changeZone_20 : decode cX2_changeZone 20 = .ok (.bipush 20, 2) := by decide +kernel
theorem dX2_changeZone_22 : decode cX2_changeZone 22 = .ok (.sipush 300, 3) := by decide +kernel
theorem dX2_changeZone_25 : decode cX2_changeZone 25 = .ok (.invokestatic 55, 3) := by decide +kernel
theorem dX2_changeZone_28 : decode cX2_changeZone 28 = .ok (.ifCond .eq 14, 3) := by decide +kernel
theorem dX2_changeZone_31 : decode cX2_changeZone 31 = .ok (.iload 4, 2) := by decide +kernel
theorem dX2_changeZone_33 : decode cX2_changeZone 33 = .ok (.iconst 1, 1) := by decide +kernel
theorem dX2_changeZone_34 : decode cX2_changeZone 34 = .ok (.bipush 20, 2) := by decide +kernel
theorem dX2_changeZone_36 : decode cX2_changeZone 36 = .ok (.invokestatic 55, 3) := by decide +kernel
theorem dX2_changeZone_39 : decode cX2_changeZone 39 = .ok (.ifCond .ne 7, 3) := by decide +kernel
theorem dX2_changeZone_42 : decode cX2_changeZone 42 = .ok (.sipush (-1001), 3) := by decide +kernel
theorem dX2_changeZone_45 : decode cX2_changeZone 45 = .ok (.ireturn, 1) := by decide +kernel
theorem dX2_changeZone_46 : decode cX2_changeZone 46 = .ok (.aload_n 0, 1) := by decide +kernel
theorem dX2_changeZone_47 : decode cX2_changeZone 47 = .ok (.iconst 0, 1) := by decide +kernel
theorem dX2_changeZone_48 : decode cX2_changeZone 48 = .ok (.invokevirtual 59, 3) := by decide +kernel
theorem dX2_changeZone_51 : decode cX2_changeZone 51 = .ok (.ifCond .le 7, 3) := by decide +kernel
theorem dX2_changeZone_54 : decode cX2_changeZone 54 = .ok (.sipush (-1002), 3) := by decide +kernel
theorem dX2_changeZone_57 : decode cX2_changeZone 57 = .ok (.ireturn, 1) := by decide +kernel
theorem dX2_changeZone_58 : decode cX2_changeZone 58 = .ok (.iload_n 1, 1) := by decide +kernel
theorem dX2_changeZone_59 : decode cX2_changeZone 59 = .ok (.iconst 4, 1) := by decide +kernel
theorem dX2_changeZone_60 : decode cX2_changeZone 60 = .ok (.imul, 1) := by decide +kernel
theorem dX2_changeZone_61 : decode cX2_changeZone 61 = .ok (.istore 5, 2) := by decide +kernel
theorem dX2_changeZone_63 : decode cX2_changeZone 63 = .ok (.aload_n 0, 1) := by decide +kernel
theorem dX2_changeZone_64 : decode cX2_changeZone 64 = .ok (.getfield 9, 3) := by decide +kernel
theorem dX2_changeZone_67 : decode cX2_changeZone 67 = .ok (.iload 5, 2) := by decide +kernel
theorem dX2_changeZone_69 : decode cX2_changeZone 69 = .ok (.iconst 0, 1) := by decide +kernel
theorem dX2_changeZone_70 : decode cX2_changeZone 70 = .ok (.iadd, 1) := by decide +kernel
theorem dX2_changeZone_71 : decode cX2_changeZone 71 = .ok (.iload_n 2, 1) := by decide +kernel
theorem dX2_changeZone_72 : decode cX2_changeZone 72 = .ok (.iastore, 1) := by decide +kernel
theorem dX2_changeZone_73 : decode cX2_changeZone 73 = .ok (.aload_n 0, 1) := by decide +kernel
theorem dX2_changeZone_74 : decode cX2_changeZone 74 = .ok (.getfield 9, 3) := by decide +kernel
theorem dX2_changeZone_77 : decode cX2_changeZone 77 = .ok (.iload 5, 2) := by decide +kernel
theorem dX2_changeZone_79 : decode cX2_changeZone 79 = .ok (.iconst 1, 1) := by decide +kernel
theorem dX2_changeZone_80 : decode cX2_changeZone 80 = .ok (.iadd, 1) := by decide +kernel
theorem dX2_changeZone_81 : decode cX2_changeZone 81 = .ok (.iload_n 3, 1) := by decide +kernel
theorem dX2_changeZone_82 : decode cX2_changeZone 82 = .ok (.iastore, 1) := by decide +kernel
theorem dX2_changeZone_83 : decode cX2_changeZone 83 = .ok (.aload_n 0, 1) := by decide +kernel
theorem dX2_changeZone_84 : decode cX2_changeZone 84 = .ok (.getfield 9, 3) := by decide +kernel
theorem dX2_changeZone_87 : decode cX2_changeZone 87 = .ok (.iload 5, 2) := by decide +kernel
theorem dX2_changeZone_89 : decode cX2_changeZone 89 = .ok (.iconst 2, 1) := by decide +kernel
theorem dX2_changeZone_90 : decode cX2_changeZone 90 = .ok (.iadd, 1) := by decide +kernel
theorem dX2_changeZone_91 : decode cX2_changeZone 91 = .ok (.iload 4, 2) := by decide +kernel
theorem dX2_changeZone_93 : decode cX2_changeZone 93 = .ok (.iastore, 1) := by decide +kernel
theorem dX2_changeZone_94 : decode cX2_changeZone 94 = .ok (.aload_n 0, 1) := by decide +kernel
theorem dX2_changeZone_95 : decode cX2_changeZone 95 = .ok (.getfield 9, 3) := by decide +kernel
theorem dX2_changeZone_98 : decode cX2_changeZone 98 = .ok (.iload 5, 2) := by decide +kernel
theorem dX2_changeZone_100 : decode cX2_changeZone 100 = .ok (.iconst 3, 1) := by decide +kernel
theorem dX2_changeZone_101 : decode cX2_changeZone 101 = .ok (.iadd, 1) := by decide +kernel
theorem dX2_changeZone_102 : decode cX2_changeZone 102 = .ok (.iload_n 3, 1) := by decide +kernel
theorem dX2_changeZone_103 : decode cX2_changeZone 103 = .ok (.iastore, 1) := by decide +kernel
theorem dX2_changeZone_104 : decode cX2_changeZone 104 = .ok (.aload_n 0, 1) := by decide +kernel
theorem dX2_changeZone_105 : decode cX2_changeZone 105 = .ok (.invokevirtual 63, 3) := by decide +kernel
theorem dX2_changeZone_108 : decode cX2_changeZone 108 = .ok (.ireturn, 1) := by decide +kernel
theorem dX2_changeCurve_0 : decode cX2_changeCurve 0 = .ok (.iload_n 1, 1) := by decide +kernel
theorem dX2_changeCurve_1 : decode cX2_changeCurve 1 = .ok (.iconst 0, 1) := by decide +kernel
theorem dX2_changeCurve_2 : decode cX2_changeCurve 2 = .ok (.iconst 3, 1) := by decide +kernel
theorem dX2_changeCurve_3 : decode cX2_changeCurve 3 = .ok (.invokestatic 55, 3) := by decide +kernel
theorem dX2_changeCurve_6 : decode cX2_changeCurve 6 = .ok (.ifCond .eq 29, 3) := by decide +kernel
theorem dX2_changeCurve_9 : decode cX2_changeCurve 9 = .ok (.iload_n 2, 1) := by decide +kernel
theorem dX2_changeCurve_10 : decode cX2_changeCurve 10 = .ok (.iconst 0, 1) := by decide +kernel
theorem dX2_changeCurve_11 : decode cX2_changeCurve 11 = .ok (.iconst 5, 1) := by decide +kernel
theorem dX2_changeCurve_12 : decode cX2_changeCurve 12 = .ok (.invokestatic 55, 3) := by decide +kernel
theorem dX2_changeCurve_15 : decode cX2_changeCurve 15 = .ok (.ifCond .eq 20, 3) := by decide +kernel
theorem dX2_changeCurve_18 : decode cX2_changeCurve 18 = .ok (.iload_n 3, 1) := by decide +kernel
theorem dX2_changeCurve_19 : decode cX2_changeCurve 19 = .ok (.getstatic 67, 3) := by decide +kernel
theorem dX2_changeCurve_22 : decode cX2_changeCurve 22 = .ok (.iload_n 2, 1) := by decide +kernel
theorem dX2_changeCurve_23 : decode cX2_changeCurve 23 = .ok (.iaload, 1) := by decide +kernel
theorem dX2_changeCurve_24 : decode cX2_changeCurve 24 = .ok (.getstatic 70, 3) := by decide +kernel
theorem dX2_changeCurve_27 : decode cX2_changeCurve 27 = .ok (.iload_n 2, 1) := by decide +kernel
theorem dX2_changeCurve_28 : decode cX2_changeCurve 28 = .ok (.iaload, 1) := by decide +kernel
theorem dX2_changeCurve_29 : decode cX2_changeCurve 29 = .ok (.invokestatic 55, 3) := by decide +kernel
theorem dX2_changeCurve_32 : decode cX2_changeCurve 32 = .ok (.ifCond .ne 7, 3) := by decide +kernel
theorem dX2_changeCurve_35 : decode cX2_changeCurve 35 = .ok (.sipush (-1001), 3) := by decide +kernel
theorem dX2_changeCurve_38 : decode cX2_changeCurve 38 = .ok (.ireturn, 1) := by decide +kernel
theorem dX2_changeCurve_39 : decode cX2_changeCurve 39 = .ok (.aload_n 0, 1) := by decide +kernel
theorem dX2_changeCurve_40 : decode cX2_changeCurve 40 = .ok (.getfield 15, 3) := by decide +kernel
theorem dX2_changeCurve_43 : decode cX2_changeCurve 43 = .ok (.iload_n 1, 1) := by decide +kernel
theorem dX2_changeCurve_44 : decode cX2_changeCurve 44 = .ok (.bipush 6, 2) := by decide +kernel
theorem dX2_changeCurve_46 : decode cX2_changeCurve 46 = .ok (.imul, 1) := by decide +kernel
theorem dX2_changeCurve_47 : decode cX2_changeCurve 47 = .ok (.iload_n 2, 1) := by decide +kernel
theorem dX2_changeCurve_48 : decode cX2_changeCurve 48 = .ok (.iadd, 1) := by decide +kernel
theorem dX2_changeCurve_49 : decode cX2_changeCurve 49 = .ok (.iaload, 1) := by decide +kernel
theorem dX2_changeCurve_50 : decode cX2_changeCurve 50 = .ok (.istore 4, 2) := by decide +kernel
theorem dX2_changeCurve_52 : decode cX2_changeCurve 52 = .ok (.aload_n 0, 1) := by decide +kernel
theorem dX2_changeCurve_53 : decode cX2_changeCurve 53 = .ok (.getfield 15, 3) := by decide +kernel
theorem dX2_changeCurve_56 : decode cX2_changeCurve 56 = .ok (.iload_n 1, 1) := by decide +kernel
theorem dX2_changeCurve_57 : decode cX2_changeCurve 57 = .ok (.bipush 6, 2) := by decide +kernel
theorem dX2_changeCurve_59 : decode cX2_changeCurve 59 = .ok (.imul, 1) := by decide +kernel
theorem dX2_changeCurve_60 : decode cX2_changeCurve 60 = .ok (.iload_n 2, 1) := by decide +kernel
theorem dX2_changeCurve_61 : decode cX2_changeCurve 61 = .ok (.iadd, 1) := by decide +kernel
theorem dX2_changeCurve_62 : decode cX2_changeCurve 62 = .ok (.iload_n 3, 1) := by decide +kernel
theorem dX2_changeCurve_63 : decode cX2_changeCurve 63 = .ok (.iastore, 1) := by decide +kernel
theorem dX2_changeCurve_64 : decode cX2_changeCurve 64 = .ok (.iload 4, 2) := by decide +kernel
theorem dX2_changeCurve_66 : decode cX2_changeCurve 66 = .ok (.ireturn, 1) := by decide +kernel
theorem dX2_changeNumber_0 : decode cX2_changeNumber 0 = .ok (.iload_n 1, 1) := by decide +kernel
theorem dX2_changeNumber_1 : decode cX2_changeNumber 1 = .ok (.iconst 0, 1) := by decide +kernel
theorem dX2_changeNumber_2 : decode cX2_changeNumber 2 = .ok (.iconst 3, 1) := by decide +kernel
theorem dX2_changeNumber_3 : decode cX2_changeNumber 3 = .ok (.invokestatic 55, 3) := by decide +kernel
theorem dX2_changeNumber_6 : decode cX2_changeNumber 6 = .ok (.ifCond .eq 20, 3) := by decide +kernel
theorem dX2_changeNumber_9 : decode cX2_changeNumber 9 = .ok (.iload_n 2, 1) := by decide +kernel
theorem dX2_changeNumber_10 : decode cX2_changeNumber 10 = .ok (.getstatic 73, 3) := by decide +kernel
theorem dX2_changeNumber_13 : decode cX2_changeNumber 13 = .ok (.iload_n 1, 1) := by decide +kernel
theorem dX2_changeNumber_14 : decode cX2_changeNumber 14 = .ok (.iaload, 1) := by decide +kernel
theorem dX2_changeNumber_15 : decode cX2_changeNumber 15 = .ok (.getstatic 76, 3) := by decide +kernel
theorem dX2_changeNumber_18 : decode cX2_changeNumber 18 = .ok (.iload_n 1, 1) := by decide +kernel
theorem dX2_changeNumber_19 : decode cX2_changeNumber 19 = .ok (.iaload, 1) := by decide +kernel
theorem dX2_changeNumber_20 : decode cX2_changeNumber 20 = .ok (.invokestatic 55, 3) := by decide +kernel
theorem dX2_changeNumber_23 : decode cX2_changeNumber 23 = .ok (.ifCond .ne 7, 3) := by decide +kernel
theorem dX2_changeNumber_26 : decode cX2_changeNumber 26 = .ok (.sipush (-1001), 3) := by decide +kernel
theorem dX2_changeNumber_29 : decode cX2_changeNumber 29 = .ok (.ireturn, 1) := by decide +kernel
theorem dX2_changeNumber_30 : decode cX2_changeNumber 30 = .ok (.aload_n 0, 1) := by decide +kernel
theorem dX2_changeNumber_31 : decode cX2_changeNumber 31 = .ok (.getfield 18, 3) := by decide +kernel
theorem dX2_changeNumber_34 : decode cX2_changeNumber 34 = .ok (.iload_n 1, 1) := by decide +kernel
theorem dX2_changeNumber_35 : decode cX2_changeNumber 35 = .ok (.iaload, 1) := by decide +kernel
theorem dX2_changeNumber_36 : decode cX2_changeNumber 36 = .ok (.istore_n 3, 1) := by decide +kernel
theorem dX2_changeNumber_37 : decode cX2_changeNumber 37 = .ok (.aload_n 0, 1) := by decide +kernel
theorem dX2_changeNumber_38 : decode cX2_changeNumber 38 = .ok (.getfield 18, 3) := by decide +kernel
theorem dX2_changeNumber_41 : decode cX2_changeNumber 41 = .ok (.iload_n 1, 1) := by decide +kernel
theorem dX2_changeNumber_42 : decode cX2_changeNumber 42 = .ok (.iload_n 2, 1) := by decide +kernel
theorem dX2_changeNumber_43 : decode cX2_changeNumber 43 = .ok (.iastore, 1) := by decide +kernel
theorem dX2_changeNumber_44 : decode cX2_changeNumber 44 = .ok (.iload_n 3, 1) := by decide +kernel
theorem dX2_changeNumber_45 : decode cX2_changeNumber 45 = .ok (.ireturn, 1) := by decide +kernel
theorem dX2_addBoard_0 : decode cX2_addBoard 0 = .ok (.iload_n 1, 1) := by decide +kernel
theorem dX2_addBoard_1 : decode cX2_addBoard 1 = .ok (.iconst 0, 1) := by decide +kernel
theorem dX2_addBoard_2 : decode cX2_addBoard 2 = .ok (.iconst 3, 1) := by decide +kernel
theorem dX2_addBoard_3 : decode cX2_addBoard 3 = .ok (.invokestatic 55, 3) := by decide +kernel
theorem dX2_addBoard_6 : decode cX2_addBoard 6 = .ok (.ifCond .eq 13, 3) := by decide +kernel
theorem dX2_addBoard_9 : decode cX2_addBoard 9 = .ok (.iload_n 2, 1) := by decide +kernel
theorem dX2_addBoard_10 : decode cX2_addBoard 10 = .ok (.iconst 1, 1) := by decide +kernel
theorem dX2_addBoard_11 : decode cX2_addBoard 11 = .ok (.bipush 9, 2) := by decide +kernel
theorem dX2_addBoard_13 : decode cX2_addBoard 13 = .ok (.invokestatic 55, 3) := by decide +kernel
theorem dX2_addBoard_16 : decode cX2_addBoard 16 = .ok (.ifCond .ne 7, 3) := by decide +kernel
theorem dX2_addBoard_19 : decode cX2_addBoard 19 = .ok (.sipush (-1001), 3) := by decide +kernel
theorem dX2_addBoard_22 : decode cX2_addBoard 22 = .ok (.ireturn, 1) := by decide +kernel
theorem dX2_addBoard_23 : decode cX2_addBoard 23 = .ok (.aload_n 0, 1) := by decide +kernel
theorem dX2_addBoard_24 : decode cX2_addBoard 24 = .ok (.invokevirtual 79, 3) := by decide +kernel
theorem dX2_addBoard_27 : decode cX2_addBoard 27 = .ok (.ifCond .ne 7, 3) := by decide +kernel
theorem dX2_addBoard_30 : decode cX2_addBoard 30 = .ok (.sipush (-1002), 3) := by decide +kernel
theorem dX2_addBoard_33 : decode cX2_addBoard 33 = .ok (.ireturn, 1) := by decide +kernel
theorem dX2_addBoard_34 : decode cX2_addBoard 34 = .ok (.aload_n 0, 1) := by decide +kernel
theorem dX2_addBoard_35 : decode cX2_addBoard 35 = .ok (.getfield 42, 3) := by decide +kernel
theorem dX2_addBoard_38 : decode cX2_addBoard 38 = .ok (.bipush 30, 2) := by decide +kernel
theorem dX2_addBoard_40 : decode cX2_addBoard 40 = .ok (.if_icmp .lt 7, 3) := by decide +kernel
theorem dX2_addBoard_43 : decode cX2_addBoard 43 = .ok (.sipush (-1003), 3) := by decide +kernel
theorem dX2_addBoard_46 : decode cX2_addBoard 46 = .ok (.ireturn, 1) := by decide +kernel
theorem dX2_addBoard_47 : decode cX2_addBoard 47 = .ok (.aload_n 0, 1) := by decide +kernel
theorem dX2_addBoard_48 : decode cX2_addBoard 48 = .ok (.iload_n 1, 1) := by decide +kernel
theorem dX2_addBoard_49 : decode cX2_addBoard 49 = .ok (.iload_n 2, 1) := by decide +kernel
theorem dX2_addBoard_50 : decode cX2_addBoard 50 = .ok (.invokevirtual 83, 3) := by decide +kernel
theorem dX2_addBoard_53 : decode cX2_addBoard 53 = .ok (.ireturn, 1) := by decide +kernel
theorem dX2_removeBoard_0 : decode cX2_removeBoard 0 = .ok (.aload_n 0, 1) := by decide +kernel
theorem dX2_removeBoard_1 : decode cX2_removeBoard 1 = .ok (.iload_n 1, 1) := by decide +kernel
theorem dX2_removeBoard_2 : decode cX2_removeBoard 2 = .ok (.invokevirtual 87, 3) := by decide +kernel
theorem dX2_removeBoard_5 : decode cX2_removeBoard 5 = .ok (.ifCond .ne 7, 3) := by decide +kernel
theorem dX2_removeBoard_8 : decode cX2_removeBoard 8 = .ok (.sipush (-1001), 3) := by decide +kernel
theorem dX2_removeBoard_11 : decode cX2_removeBoard 11 = .ok (.ireturn, 1) := by decide +kernel
theorem dX2_removeBoard_12 : decode cX2_removeBoard 12 = .ok (.aload_n 0, 1) := by decide +kernel
theorem dX2_removeBoard_13 : decode cX2_removeBoard 13 = .ok (.iload_n 1, 1) := by decide +kernel
theorem dX2_removeBoard_14 : decode cX2_removeBoard 14 = .ok (.invokevirtual 91, 3) := by decide +kernel
theorem dX2_removeBoard_17 : decode cX2_removeBoard 17 = .ok (.ifCond .ne 7, 3) := by decide +kernel
theorem dX2_removeBoard_20 : decode cX2_removeBoard 20 = .ok (.sipush (-1002), 3) := by decide +kernel
theorem dX2_removeBoard_23 : decode cX2_removeBoard 23 = .ok (.ireturn, 1) := by decide +kernel
theorem dX2_removeBoard_24 : decode cX2_removeBoard 24 = .ok (.iload_n 1, 1) := by decide +kernel
theorem dX2_removeBoard_25 : decode cX2_removeBoard 25 = .ok (.bipush 22, 2) := by decide +kernel
theorem dX2_removeBoard_27 : decode cX2_removeBoard 27 = .ok (.imul, 1) := by decide +kernel
theorem dX2_removeBoard_28 : decode cX2_removeBoard 28 = .ok (.istore_n 2, 1) := by decide +kernel
theorem dX2_removeBoard_29 : decode cX2_removeBoard 29 = .ok (.aload_n 0, 1) := by decide +kernel
theorem dX2_removeBoard_30 : decode cX2_removeBoard 30 = .ok (.getfield 21, 3) := by decide +kernel
theorem dX2_removeBoard_33 : decode cX2_removeBoard 33 = .ok (.iload_n 2, 1) := by decide +kernel
theorem dX2_removeBoard_34 : decode cX2_removeBoard 34 = .ok (.iconst 3, 1) := by decide +kernel
theorem dX2_removeBoard_35 : decode cX2_removeBoard 35 = .ok (.iadd, 1) := by decide +kernel
theorem dX2_removeBoard_36 : decode cX2_removeBoard 36 = .ok (.iaload, 1) := by decide +kernel
theorem dX2_removeBoard_37 : decode cX2_removeBoard 37 = .ok (.istore_n 3, 1) := by decide +kernel
theorem dX2_removeBoard_38 : decode cX2_removeBoard 38 = .ok (.aload_n 0, 1) := by decide +kernel
theorem dX2_removeBoard_39 : decode cX2_removeBoard 39 = .ok (.getfield 21, 3) := by decide +kernel
theorem dX2_removeBoard_42 : decode cX2_removeBoard 42 = .ok (.iload_n 2, 1) := by decide +kernel
theorem dX2_removeBoard_43 : decode cX2_removeBoard 43 = .ok (.iconst 2, 1) := by decide +kernel
theorem dX2_removeBoard_44 : decode cX2_removeBoard 44 = .ok (.iadd, 1) := by decide +kernel
end
section
theorem dX2_removeBoard_45 : decode cX2_removeBoard 45 = .ok (.iconst 2, 1) := by decide +kernel
theorem dX2_removeBoard_46 : decode cX2_removeBoard 46 = .ok (.iastore, 1) := by decide +kernel
theorem dX2_removeBoard_47 : decode cX2_removeBoard 47 = .ok (.aload_n 0, 1) := by decide +kernel
theorem dX2_removeBoard_48 : decode cX2_removeBoard 48 = .ok (.getfield 21, 3) := by decide +kernel
theorem dX2_removeBoard_51 : decode cX2_removeBoard 51 = .ok (.iload_n 2, 1) := by decide +kernel
theorem dX2_removeBoard_52 : decode cX2_removeBoard 52 = .ok (.iconst 3, 1) := by decide +kernel
theorem dX2_removeBoard_53 : decode cX2_removeBoard 53 = .ok (.iadd, 1) := by decide +kernel
theorem dX2_removeBoard_54 : decode cX2_removeBoard 54 = .ok (.sipush (-1009), 3) := by decide +kernel
theorem dX2_removeBoard_57 : decode cX2_removeBoard 57 = .ok (.iastore, 1) := by decide +kernel
theorem dX2_removeBoard_58 : decode cX2_removeBoard 58 = .ok (.iload_n 3, 1) := by decide +kernel
theorem dX2_removeBoard_59 : decode cX2_removeBoard 59 = .ok (.ireturn, 1) := by decide +kernel
theorem dX2_letPass_0 : decode cX2_letPass 0 = .ok (.iload_n 1, 1) := by decide +kernel
theorem dX2_letPass_1 : decode cX2_letPass 1 = .ok (.iconst 1, 1) := by decide +kernel
theorem dX2_letPass_2 : decode cX2_letPass 2 = .ok (.bipush 99, 2) := by decide +kernel
theorem dX2_letPass_4 : decode cX2_letPass 4 = .ok (.invokestatic 55, 3) := by decide +kernel
theorem dX2_letPass_7 : decode cX2_letPass 7 = .ok (.ifCond .ne 7, 3) := by decide +kernel
theorem dX2_letPass_10 : decode cX2_letPass 10 = .ok (.sipush (-1001), 3) := by decide +kernel
theorem dX2_letPass_13 : decode cX2_letPass 13 = .ok (.ireturn, 1) := by decide +kernel
theorem dX2_letPass_14 : decode cX2_letPass 14 = .ok (.aload_n 0, 1) := by decide +kernel
theorem dX2_letPass_15 : decode cX2_letPass 15 = .ok (.getfield 46, 3) := by decide +kernel
theorem dX2_letPass_18 : decode cX2_letPass 18 = .ok (.iload_n 1, 1) := by decide +kernel
theorem dX2_letPass_19 : decode cX2_letPass 19 = .ok (.iadd, 1) := by decide +kernel
theorem dX2_letPass_20 : decode cX2_letPass 20 = .ok (.sipush 5000, 3) := by decide +kernel
theorem dX2_letPass_23 : decode cX2_letPass 23 = .ok (.if_icmp .le 7, 3) := by decide +kernel
theorem dX2_letPass_26 : decode cX2_letPass 26 = .ok (.sipush (-1003), 3) := by decide +kernel
theorem dX2_letPass_29 : decode cX2_letPass 29 = .ok (.ireturn, 1) := by decide +kernel
theorem dX2_letPass_30 : decode cX2_letPass 30 = .ok (.iconst 0, 1) := by decide +kernel
theorem dX2_letPass_31 : decode cX2_letPass 31 = .ok (.istore_n 2, 1) := by decide +kernel
theorem dX2_letPass_32 : decode cX2_letPass 32 = .ok (.iconst 0, 1) := by decide +kernel
theorem dX2_letPass_33 : decode cX2_letPass 33 = .ok (.istore_n 3, 1) := by decide +kernel
theorem dX2_letPass_34 : decode cX2_letPass 34 = .ok (.iload_n 3, 1) := by decide +kernel
theorem dX2_letPass_35 : decode cX2_letPass 35 = .ok (.iload_n 1, 1) := by decide +kernel
theorem dX2_letPass_36 : decode cX2_letPass 36 = .ok (.if_icmp .ge 16, 3) := by decide +kernel
theorem dX2_letPass_39 : decode cX2_letPass 39 = .ok (.iload_n 2, 1) := by decide +kernel
theorem dX2_letPass_40 : decode cX2_letPass 40 = .ok (.aload_n 0, 1) := by decide +kernel
theorem dX2_letPass_41 : decode cX2_letPass 41 = .ok (.invokevirtual 94, 3) := by decide +kernel
theorem dX2_letPass_44 : decode cX2_letPass 44 = .ok (.iadd, 1) := by decide +kernel
theorem dX2_letPass_45 : decode cX2_letPass 45 = .ok (.istore_n 2, 1) := by decide +kernel
theorem dX2_letPass_46 : decode cX2_letPass 46 = .ok (.iinc 3 1, 3) := by decide +kernel
theorem dX2_letPass_49 : decode cX2_letPass 49 = .ok (.goto (-15), 3) := by decide +kernel
theorem dX2_letPass_52 : decode cX2_letPass 52 = .ok (.iload_n 2, 1) := by decide +kernel
theorem dX2_letPass_53 : decode cX2_letPass 53 = .ok (.ireturn, 1) := by decide +kernel
theorem dX2_obey_0 : decode cX2_obey 0 = .ok (.iload_n 1, 1) := by decide +kernel
theorem dX2_obey_1 : decode cX2_obey 1 = .ok (.lookupswitch 54 #[(108, 35), (112, 42), (116, 48)], 35) := by decide +kernel
theorem dX2_obey_36 : decode cX2_obey 36 = .ok (.aload_n 0, 1) := by decide +kernel
theorem dX2_obey_37 : decode cX2_obey 37 = .ok (.iload_n 2, 1) := by decide +kernel
theorem dX2_obey_38 : decode cX2_obey 38 = .ok (.iload_n 3, 1) := by decide +kernel
theorem dX2_obey_39 : decode cX2_obey 39 = .ok (.invokevirtual 97, 3) := by decide +kernel
theorem dX2_obey_42 : decode cX2_obey 42 = .ok (.ireturn, 1) := by decide +kernel
theorem dX2_obey_43 : decode cX2_obey 43 = .ok (.aload_n 0, 1) := by decide +kernel
theorem dX2_obey_44 : decode cX2_obey 44 = .ok (.iload_n 3, 1) := by decide +kernel
theorem dX2_obey_45 : decode cX2_obey 45 = .ok (.invokevirtual 100, 3) := by decide +kernel
theorem dX2_obey_48 : decode cX2_obey 48 = .ok (.ireturn, 1) := by decide +kernel
theorem dX2_obey_49 : decode cX2_obey 49 = .ok (.aload_n 0, 1) := by decide +kernel
theorem dX2_obey_50 : decode cX2_obey 50 = .ok (.iload_n 3, 1) := by decide +kernel
theorem dX2_obey_51 : decode cX2_obey 51 = .ok (.invokevirtual 103, 3) := by decide +kernel
theorem dX2_obey_54 : decode cX2_obey 54 = .ok (.ireturn, 1) := by decide +kernel
theorem dX2_obey_55 : decode cX2_obey 55 = .ok (.aload_n 0, 1) := by decide +kernel
theorem dX2_obey_56 : decode cX2_obey 56 = .ok (.iconst 0, 1) := by decide +kernel
theorem dX2_obey_57 : decode cX2_obey 57 = .ok (.iload_n 3, 1) := by decide +kernel
theorem dX2_obey_58 : decode cX2_obey 58 = .ok (.invokevirtual 106, 3) := by decide +kernel
theorem dX2_obey_61 : decode cX2_obey 61 = .ok (.ireturn, 1) := by decide +kernel
theorem dX2_placeBoard_0 : decode cX2_placeBoard 0 = .ok (.aload_n 0, 1) := by decide +kernel
theorem dX2_placeBoard_1 : decode cX2_placeBoard 1 = .ok (.getfield 42, 3) := by decide +kernel
theorem dX2_placeBoard_4 : decode cX2_placeBoard 4 = .ok (.bipush 22, 2) := by decide +kernel
theorem dX2_placeBoard_6 : decode cX2_placeBoard 6 = .ok (.imul, 1) := by decide +kernel
theorem dX2_placeBoard_7 : decode cX2_placeBoard 7 = .ok (.istore_n 3, 1) := by decide +kernel
theorem dX2_placeBoard_8 : decode cX2_placeBoard 8 = .ok (.iconst 0, 1) := by decide +kernel
theorem dX2_placeBoard_9 : decode cX2_placeBoard 9 = .ok (.istore 4, 2) := by decide +kernel
theorem dX2_placeBoard_11 : decode cX2_placeBoard 11 = .ok (.iload 4, 2) := by decide +kernel
theorem dX2_placeBoard_13 : decode cX2_placeBoard 13 = .ok (.bipush 22, 2) := by decide +kernel
theorem dX2_placeBoard_15 : decode cX2_placeBoard 15 = .ok (.if_icmp .ge 32, 3) := by decide +kernel
theorem dX2_placeBoard_18 : decode cX2_placeBoard 18 = .ok (.aload_n 0, 1) := by decide +kernel
theorem dX2_placeBoard_19 : decode cX2_placeBoard 19 = .ok (.getfield 21, 3) := by decide +kernel
theorem dX2_placeBoard_22 : decode cX2_placeBoard 22 = .ok (.iload_n 3, 1) := by decide +kernel
theorem dX2_placeBoard_23 : decode cX2_placeBoard 23 = .ok (.iload 4, 2) := by decide +kernel
theorem dX2_placeBoard_25 : decode cX2_placeBoard 25 = .ok (.iadd, 1) := by decide +kernel
theorem dX2_placeBoard_26 : decode cX2_placeBoard 26 = .ok (.iload 4, 2) := by decide +kernel
theorem dX2_placeBoard_28 : decode cX2_placeBoard 28 = .ok (.bipush 12, 2) := by decide +kernel
theorem dX2_placeBoard_30 : decode cX2_placeBoard 30 = .ok (.if_icmp .ge 7, 3) := by decide +kernel
theorem dX2_placeBoard_33 : decode cX2_placeBoard 33 = .ok (.iconst 0, 1) := by decide +kernel
theorem dX2_placeBoard_34 : decode cX2_placeBoard 34 = .ok (.goto 6, 3) := by decide +kernel
theorem dX2_placeBoard_37 : decode cX2_placeBoard 37 = .ok (.sipush (-1009), 3) := by decide +kernel
theorem dX2_placeBoard_40 : decode cX2_placeBoard 40 = .ok (.iastore, 1) := by decide +kernel
theorem dX2_placeBoard_41 : decode cX2_placeBoard 41 = .ok (.iinc 4 1, 3) := by decide +kernel
theorem dX2_placeBoard_44 : decode cX2_placeBoard 44 = .ok (.goto (-33), 3) := by decide +kernel
theorem dX2_placeBoard_47 : decode cX2_placeBoard 47 = .ok (.aload_n 0, 1) := by decide +kernel
theorem dX2_placeBoard_48 : decode cX2_placeBoard 48 = .ok (.getfield 21, 3) := by decide +kernel
theorem dX2_placeBoard_51 : decode cX2_placeBoard 51 = .ok (.iload_n 3, 1) := by decide +kernel
theorem dX2_placeBoard_52 : decode cX2_placeBoard 52 = .ok (.iconst 0, 1) := by decide +kernel
theorem dX2_placeBoard_53 : decode cX2_placeBoard 53 = .ok (.iadd, 1) := by decide +kernel
theorem dX2_placeBoard_54 : decode cX2_placeBoard 54 = .ok (.iload_n 1, 1) := by decide +kernel
theorem dX2_placeBoard_55 : decode cX2_placeBoard 55 = .ok (.iastore, 1) := by decide +kernel
theorem dX2_placeBoard_56 : decode cX2_placeBoard 56 = .ok (.aload_n 0, 1) := by decide +kernel
theorem dX2_placeBoard_57 : decode cX2_placeBoard 57 = .ok (.getfield 21, 3) := by decide +kernel
theorem dX2_placeBoard_60 : decode cX2_placeBoard 60 = .ok (.iload_n 3, 1) := by decide +kernel
theorem dX2_placeBoard_61 : decode cX2_placeBoard 61 = .ok (.iconst 1, 1) := by decide +kernel
theorem dX2_placeBoard_62 : decode cX2_placeBoard 62 = .ok (.iadd, 1) := by decide +kernel
theorem dX2_placeBoard_63 : decode cX2_placeBoard 63 = .ok (.iload_n 2, 1) := by decide +kernel
theorem dX2_placeBoard_64 : decode cX2_placeBoard 64 = .ok (.iastore, 1) := by decide +kernel
theorem dX2_placeBoard_65 : decode cX2_placeBoard 65 = .ok (.aload_n 0, 1) := by decide +kernel
theorem dX2_placeBoard_66 : decode cX2_placeBoard 66 = .ok (.getfield 21, 3) := by decide +kernel
theorem dX2_placeBoard_69 : decode cX2_placeBoard 69 = .ok (.iload_n 3, 1) := by decide +kernel
theorem dX2_placeBoard_70 : decode cX2_placeBoard 70 = .ok (.iconst 4, 1) := by decide +kernel
theorem dX2_placeBoard_71 : decode cX2_placeBoard 71 = .ok (.iadd, 1) := by decide +kernel
theorem dX2_placeBoard_72 : decode cX2_placeBoard 72 = .ok (.bipush 20, 2) := by decide +kernel
theorem dX2_placeBoard_74 : decode cX2_placeBoard 74 = .ok (.iastore, 1) := by decide +kernel
theorem dX2_placeBoard_75 : decode cX2_placeBoard 75 = .ok (.aload_n 0, 1) := by decide +kernel
theorem dX2_placeBoard_76 : decode cX2_placeBoard 76 = .ok (.getfield 21, 3) := by decide +kernel
theorem dX2_placeBoard_79 : decode cX2_placeBoard 79 = .ok (.iload_n 3, 1) := by decide +kernel
theorem dX2_placeBoard_80 : decode cX2_placeBoard 80 = .ok (.bipush 6, 2) := by decide +kernel
theorem dX2_placeBoard_82 : decode cX2_placeBoard 82 = .ok (.iadd, 1) := by decide +kernel
theorem dX2_placeBoard_83 : decode cX2_placeBoard 83 = .ok (.bipush 20, 2) := by decide +kernel
theorem dX2_placeBoard_85 : decode cX2_placeBoard 85 = .ok (.iastore, 1) := by decide +kernel
theorem dX2_placeBoard_86 : decode cX2_placeBoard 86 = .ok (.aload_n 0, 1) := by decide +kernel
theorem dX2_placeBoard_87 : decode cX2_placeBoard 87 = .ok (.getfield 21, 3) := by decide +kernel
theorem dX2_placeBoard_90 : decode cX2_placeBoard 90 = .ok (.iload_n 3, 1) := by decide +kernel
theorem dX2_placeBoard_91 : decode cX2_placeBoard 91 = .ok (.bipush 10, 2) := by decide +kernel
theorem dX2_placeBoard_93 : decode cX2_placeBoard 93 = .ok (.iadd, 1) := by decide +kernel
theorem dX2_placeBoard_94 : decode cX2_placeBoard 94 = .ok (.sipush (-1009), 3) := by decide +kernel
theorem dX2_placeBoard_97 : decode cX2_placeBoard 97 = .ok (.iastore, 1) := by decide +kernel
theorem dX2_placeBoard_98 : decode cX2_placeBoard 98 = .ok (.aload_n 0, 1) := by decide +kernel
theorem dX2_placeBoard_99 : decode cX2_placeBoard 99 = .ok (.dup, 1) := by decide +kernel
theorem dX2_placeBoard_100 : decode cX2_placeBoard 100 = .ok (.getfield 42, 3) := by decide +kernel
theorem dX2_placeBoard_103 : decode cX2_placeBoard 103 = .ok (.iconst 1, 1) := by decide +kernel
theorem dX2_placeBoard_104 : decode cX2_placeBoard 104 = .ok (.iadd, 1) := by decide +kernel
theorem dX2_placeBoard_105 : decode cX2_placeBoard 105 = .ok (.putfield 42, 3) := by decide +kernel
theorem dX2_placeBoard_108 : decode cX2_placeBoard 108 = .ok (.aload_n 0, 1) := by decide +kernel
theorem dX2_placeBoard_109 : decode cX2_placeBoard 109 = .ok (.getfield 42, 3) := by decide +kernel
theorem dX2_placeBoard_112 : decode cX2_placeBoard 112 = .ok (.iconst 1, 1) := by decide +kernel
theorem dX2_placeBoard_113 : decode cX2_placeBoard 113 = .ok (.isub, 1) := by decide +kernel
theorem dX2_placeBoard_114 : decode cX2_placeBoard 114 = .ok (.ireturn, 1) := by decide +kernel
theorem dX2_passUntilLeft_0 : decode cX2_passUntilLeft 0 = .ok (.iconst 0, 1) := by decide +kernel
theorem dX2_passUntilLeft_1 : decode cX2_passUntilLeft 1 = .ok (.istore_n 2, 1) := by decide +kernel
theorem dX2_passUntilLeft_2 : decode cX2_passUntilLeft 2 = .ok (.aload_n 0, 1) := by decide +kernel
theorem dX2_passUntilLeft_3 : decode cX2_passUntilLeft 3 = .ok (.iload_n 1, 1) := by decide +kernel
theorem dX2_passUntilLeft_4 : decode cX2_passUntilLeft 4 = .ok (.invokevirtual 91, 3) := by decide +kernel
theorem dX2_passUntilLeft_7 : decode cX2_passUntilLeft 7 = .ok (.ifCond .eq 20, 3) := by decide +kernel
theorem dX2_passUntilLeft_10 : decode cX2_passUntilLeft 10 = .ok (.iload_n 2, 1) := by decide +kernel
theorem dX2_passUntilLeft_11 : decode cX2_passUntilLeft 11 = .ok (.bipush 48, 2) := by decide +kernel
theorem dX2_passUntilLeft_13 : decode cX2_passUntilLeft 13 = .ok (.if_icmp .ge 14, 3) := by decide +kernel
theorem dX2_passUntilLeft_16 : decode cX2_passUntilLeft 16 = .ok (.aload_n 0, 1) := by decide +kernel
theorem dX2_passUntilLeft_17 : decode cX2_passUntilLeft 17 = .ok (.invokevirtual 94, 3) := by decide +kernel
theorem dX2_passUntilLeft_20 : decode cX2_passUntilLeft 20 = .ok (.pop, 1) := by decide +kernel
theorem dX2_passUntilLeft_21 : decode cX2_passUntilLeft 21 = .ok (.iinc 2 1, 3) := by decide +kernel
theorem dX2_passUntilLeft_24 : decode cX2_passUntilLeft 24 = .ok (.goto (-22), 3) := by decide +kernel
theorem dX2_passUntilLeft_27 : decode cX2_passUntilLeft 27 = .ok (.iload_n 2, 1) := by decide +kernel
theorem dX2_passUntilLeft_28 : decode cX2_passUntilLeft 28 = .ok (.ireturn, 1) := by decide +kernel
theorem dX2_passUntilFree_0 : decode cX2_passUntilFree 0 = .ok (.iconst 0, 1) := by decide +kernel
theorem dX2_passUntilFree_1 : decode cX2_passUntilFree 1 = .ok (.istore_n 1, 1) := by decide +kernel
theorem dX2_passUntilFree_2 : decode cX2_passUntilFree 2 = .ok (.aload_n 0, 1) := by decide +kernel
theorem dX2_passUntilFree_3 : decode cX2_passUntilFree 3 = .ok (.invokevirtual 79, 3) := by decide +kernel
theorem dX2_passUntilFree_6 : decode cX2_passUntilFree 6 = .ok (.ifCond .ne 20, 3) := by decide +kernel
theorem dX2_passUntilFree_9 : decode cX2_passUntilFree 9 = .ok (.iload_n 1, 1) := by decide +kernel
theorem dX2_passUntilFree_10 : decode cX2_passUntilFree 10 = .ok (.bipush 48, 2) := by decide +kernel
theorem dX2_passUntilFree_12 : decode cX2_passUntilFree 12 = .ok (.if_icmp .ge 14, 3) := by decide +kernel
theorem dX2_passUntilFree_15 : decode cX2_passUntilFree 15 = .ok (.aload_n 0, 1) := by decide +kernel
theorem dX2_passUntilFree_16 : decode cX2_passUntilFree 16 = .ok (.invokevirtual 94, 3) := by decide +kernel
theorem dX2_passUntilFree_19 : decode cX2_passUntilFree 19 = .ok (.pop, 1) := by decide +kernel
theorem dX2_passUntilFree_20 : decode cX2_passUntilFree 20 = .ok (.iinc 1 1, 3) := by decide +kernel
theorem dX2_passUntilFree_23 : decode cX2_passUntilFree 23 = .ok (.goto (-21), 3) := by decide +kernel
theorem dX2_passUntilFree_26 : decode cX2_passUntilFree 26 = .ok (.iload_n 1, 1) := by decide +kernel
theorem dX2_passUntilFree_27 : decode cX2_passUntilFree 27 = .ok (.ireturn, 1) := by decide +kernel
theorem dX2_letOnePass_0 : decode cX2_letOnePass 0 = .ok (.aload_n 0, 1) := by decide +kernel
theorem dX2_letOnePass_1 : decode cX2_letOnePass 1 = .ok (.invokevirtual 109, 3) := by decide +kernel
theorem dX2_letOnePass_4 : decode cX2_letOnePass 4 = .ok (.istore_n 1, 1) := by decide +kernel
theorem dX2_letOnePass_5 : decode cX2_letOnePass 5 = .ok (.aload_n 0, 1) := by decide +kernel
theorem dX2_letOnePass_6 : decode cX2_letOnePass 6 = .ok (.invokevirtual 112, 3) := by decide +kernel
theorem dX2_letOnePass_9 : decode cX2_letOnePass 9 = .ok (.aload_n 0, 1) := by decide +kernel
theorem dX2_letOnePass_10 : decode cX2_letOnePass 10 = .ok (.invokevirtual 115, 3) := by decide +kernel
theorem dX2_letOnePass_13 : decode cX2_letOnePass 13 = .ok (.aload_n 0, 1) := by decide +kernel
theorem dX2_letOnePass_14 : decode cX2_letOnePass 14 = .ok (.invokevirtual 118, 3) := by decide +kernel
theorem dX2_letOnePass_17 : decode cX2_letOnePass 17 = .ok (.aload_n 0, 1) := by decide +kernel
theorem dX2_letOnePass_18 : decode cX2_letOnePass 18 = .ok (.dup, 1) := by decide +kernel
theorem dX2_letOnePass_19 : decode cX2_letOnePass 19 = .ok (.getfield 46, 3) := by decide +kernel
theorem dX2_letOnePass_22 : decode cX2_letOnePass 22 = .ok (.iconst 1, 1) := by decide +kernel
theorem dX2_letOnePass_23 : decode cX2_letOnePass 23 = .ok (.iadd, 1) := by decide +kernel
theorem dX2_letOnePass_24 : decode cX2_letOnePass 24 = .ok (.putfield 46, 3) := by decide +kernel
theorem dX2_letOnePass_27 : decode cX2_letOnePass 27 = .ok (.iload_n 1, 1) := by decide +kernel
theorem dX2_letOnePass_28 : decode cX2_letOnePass 28 = .ok (.ireturn, 1) := by decide +kernel
theorem dX2_moveBoards_0 : decode cX2_moveBoards 0 = .ok (.aload_n 0, 1) := by decide +kernel
theorem dX2_moveBoards_1 : decode cX2_moveBoards 1 = .ok (.invokevirtual 63, 3) := by decide +kernel
theorem dX2_moveBoards_4 : decode cX2_moveBoards 4 = .ok (.istore_n 1, 1) := by decide +kernel
theorem dX2_moveBoards_5 : decode cX2_moveBoards 5 = .ok (.iconst 0, 1) := by decide +kernel
theorem dX2_moveBoards_6 : decode cX2_moveBoards 6 = .ok (.istore_n 2, 1) := by decide +kernel
theorem dX2_moveBoards_7 : decode cX2_moveBoards 7 = .ok (.iconst 0, 1) := by decide +kernel
theorem dX2_moveBoards_8 : decode cX2_moveBoards 8 = .ok (.istore_n 3, 1) := by decide +kernel
theorem dX2_moveBoards_9 : decode cX2_moveBoards 9 = .ok (.iload_n 3, 1) := by decide +kernel
theorem dX2_moveBoards_10 : decode cX2_moveBoards 10 = .ok (.aload_n 0, 1) := by decide +kernel
theorem dX2_moveBoards_11 : decode cX2_moveBoards 11 = .ok (.getfield 42, 3) := by decide +kernel
theorem dX2_moveBoards_14 : decode cX2_moveBoards 14 = .ok (.if_icmp .ge 91, 3) := by decide +kernel
theorem dX2_moveBoards_17 : decode cX2_moveBoards 17 = .ok (.iload_n 3, 1) := by decide +kernel
theorem dX2_moveBoards_18 : decode cX2_moveBoards 18 = .ok (.bipush 22, 2) := by decide +kernel
theorem dX2_moveBoards_20 : decode cX2_moveBoards 20 = .ok (.imul, 1) := by decide +kernel
theorem dX2_moveBoards_21 : decode cX2_moveBoards 21 = .ok (.istore 4, 2) := by decide +kernel
theorem dX2_moveBoards_23 : decode cX2_moveBoards 23 = .ok (.aload_n 0, 1) := by decide +kernel
theorem dX2_moveBoards_24 : decode cX2_moveBoards 24 = .ok (.getfield 21, 3) := by decide +kernel
theorem dX2_moveBoards_27 : decode cX2_moveBoards 27 = .ok (.iload 4, 2) := by decide +kernel
theorem dX2_moveBoards_29 : decode cX2_moveBoards 29 = .ok (.iconst 2, 1) := by decide +kernel
theorem dX2_moveBoards_30 : decode cX2_moveBoards 30 = .ok (.iadd, 1) := by decide +kernel
theorem dX2_moveBoards_31 : decode cX2_moveBoards 31 = .ok (.iaload, 1) := by decide +kernel
theorem dX2_moveBoards_32 : decode cX2_moveBoards 32 = .ok (.ifCond .ne 67, 3) := by decide +kernel
theorem dX2_moveBoards_35 : decode cX2_moveBoards 35 = .ok (.aload_n 0, 1) := by decide +kernel
theorem dX2_moveBoards_36 : decode cX2_moveBoards 36 = .ok (.getfield 21, 3) := by decide +kernel
theorem dX2_moveBoards_39 : decode cX2_moveBoards 39 = .ok (.iload 4, 2) := by decide +kernel
theorem dX2_moveBoards_41 : decode cX2_moveBoards 41 = .ok (.iconst 3, 1) := by decide +kernel
theorem dX2_moveBoards_42 : decode cX2_moveBoards 42 = .ok (.iadd, 1) := by decide +kernel
theorem dX2_moveBoards_43 : decode cX2_moveBoards 43 = .ok (.iaload, 1) := by decide +kernel
theorem dX2_moveBoards_44 : decode cX2_moveBoards 44 = .ok (.aload_n 0, 1) := by decide +kernel
theorem dX2_moveBoards_45 : decode cX2_moveBoards 45 = .ok (.getfield 18, 3) := by decide +kernel
theorem dX2_moveBoards_48 : decode cX2_moveBoards 48 = .ok (.iconst 0, 1) := by decide +kernel
theorem dX2_moveBoards_49 : decode cX2_moveBoards 49 = .ok (.iaload, 1) := by decide +kernel
theorem dX2_moveBoards_50 : decode cX2_moveBoards 50 = .ok (.iadd, 1) := by decide +kernel
theorem dX2_moveBoards_51 : decode cX2_moveBoards 51 = .ok (.istore 5, 2) := by decide +kernel
theorem dX2_moveBoards_53 : decode cX2_moveBoards 53 = .ok (.iload 5, 2) := by decide +kernel
theorem dX2_moveBoards_55 : decode cX2_moveBoards 55 = .ok (.iload_n 1, 1) := by decide +kernel
theorem dX2_moveBoards_56 : decode cX2_moveBoards 56 = .ok (.if_icmp .ge 33, 3) := by decide +kernel
theorem dX2_moveBoards_59 : decode cX2_moveBoards 59 = .ok (.aload_n 0, 1) := by decide +kernel
theorem dX2_moveBoards_60 : decode cX2_moveBoards 60 = .ok (.getfield 21, 3) := by decide +kernel
theorem dX2_moveBoards_63 : decode cX2_moveBoards 63 = .ok (.iload 4, 2) := by decide +kernel
theorem dX2_moveBoards_65 : decode cX2_moveBoards 65 = .ok (.iconst 3, 1) := by decide +kernel
theorem dX2_moveBoards_66 : decode cX2_moveBoards 66 = .ok (.iadd, 1) := by decide +kernel
theorem dX2_moveBoards_67 : decode cX2_moveBoards 67 = .ok (.iload 5, 2) := by decide +kernel
theorem dX2_moveBoards_69 : decode cX2_moveBoards 69 = .ok (.iastore, 1) := by decide +kernel
theorem dX2_moveBoards_70 : decode cX2_moveBoards 70 = .ok (.aload_n 0, 1) := by decide +kernel
theorem dX2_moveBoards_71 : decode cX2_moveBoards 71 = .ok (.getfield 21, 3) := by decide +kernel
theorem dX2_moveBoards_74 : decode cX2_moveBoards 74 = .ok (.iload 4, 2) := by decide +kernel
theorem dX2_moveBoards_76 : decode cX2_moveBoards 76 = .ok (.bipush 11, 2) := by decide +kernel
theorem dX2_moveBoards_78 : decode cX2_moveBoards 78 = .ok (.iadd, 1) := by decide +kernel
theorem dX2_moveBoards_79 : decode cX2_moveBoards 79 = .ok (.aload_n 0, 1) := by decide +kernel
theorem dX2_moveBoards_80 : decode cX2_moveBoards 80 = .ok (.iload 5, 2) := by decide +kernel
theorem dX2_moveBoards_82 : decode cX2_moveBoards 82 = .ok (.invokevirtual 121, 3) := by decide +kernel
theorem dX2_moveBoards_85 : decode cX2_moveBoards 85 = .ok (.iastore, 1) := by decide +kernel
theorem dX2_moveBoards_86 : decode cX2_moveBoards 86 = .ok (.goto 13, 3) := by decide +kernel
theorem dX2_moveBoards_89 : decode cX2_moveBoards 89 = .ok (.aload_n 0, 1) := by decide +kernel
theorem dX2_moveBoards_90 : decode cX2_moveBoards 90 = .ok (.iload 4, 2) := by decide +kernel
theorem dX2_moveBoards_92 : decode cX2_moveBoards 92 = .ok (.iload_n 1, 1) := by decide +kernel
theorem dX2_moveBoards_93 : decode cX2_moveBoards 93 = .ok (.invokevirtual 124, 3) := by decide +kernel
theorem dX2_moveBoards_96 : decode cX2_moveBoards 96 = .ok (.iinc 2 1, 3) := by decide +kernel
theorem dX2_moveBoards_99 : decode cX2_moveBoards 99 = .ok (.iinc 3 1, 3) := by decide +kernel
theorem dX2_moveBoards_102 : decode cX2_moveBoards 102 = .ok (.goto (-93), 3) := by decide +kernel
theorem dX2_moveBoards_105 : decode cX2_moveBoards 105 = .ok (.iload_n 2, 1) := by decide +kernel
theorem dX2_moveBoards_106 : decode cX2_moveBoards 106 = .ok (.ireturn, 1) := by decide +kernel
theorem dX2_leave_0 : decode cX2_leave 0 = .ok (.aload_n 0, 1) := by decide +kernel
theorem dX2_leave_1 : decode cX2_leave 1 = .ok (.getfield 21, 3) := by decide +kernel
theorem dX2_leave_4 : decode cX2_leave 4 = .ok (.iload_n 1, 1) := by decide +kernel
theorem dX2_leave_5 : decode cX2_leave 5 = .ok (.iconst 0, 1) := by decide +kernel
theorem dX2_leave_6 : decode cX2_leave 6 = .ok (.iadd, 1) := by decide +kernel
theorem dX2_leave_7 : decode cX2_leave 7 = .ok (.iaload, 1) := by decide +kernel
theorem dX2_leave_8 : decode cX2_leave 8 = .ok (.bipush 6, 2) := by decide +kernel
theorem dX2_leave_10 : decode cX2_leave 10 = .ok (.imul, 1) := by decide +kernel
theorem dX2_leave_11 : decode cX2_leave 11 = .ok (.istore_n 3, 1) := by decide +kernel
theorem dX2_leave_12 : decode cX2_leave 12 = .ok (.aload_n 0, 1) := by decide +kernel
theorem dX2_leave_13 : decode cX2_leave 13 = .ok (.getfield 21, 3) := by decide +kernel
theorem dX2_leave_16 : decode cX2_leave 16 = .ok (.iload_n 1, 1) := by decide +kernel
theorem dX2_leave_17 : decode cX2_leave 17 = .ok (.iconst 2, 1) := by decide +kernel
theorem dX2_leave_18 : decode cX2_leave 18 = .ok (.iadd, 1) := by decide +kernel
theorem dX2_leave_19 : decode cX2_leave 19 = .ok (.iconst 1, 1) := by decide +kernel
theorem dX2_leave_20 : decode cX2_leave 20 = .ok (.iastore, 1) := by decide +kernel
theorem dX2_leave_21 : decode cX2_leave 21 = .ok (.aload_n 0, 1) := by decide +kernel
theorem dX2_leave_22 : decode cX2_leave 22 = .ok (.getfield 21, 3) := by decide +kernel
theorem dX2_leave_25 : decode cX2_leave 25 = .ok (.iload_n 1, 1) := by decide +kernel
theorem dX2_leave_26 : decode cX2_leave 26 = .ok (.iconst 3, 1) := by decide +kernel
theorem dX2_leave_27 : decode cX2_leave 27 = .ok (.iadd, 1) := by decide +kernel
theorem dX2_leave_28 : decode cX2_leave 28 = .ok (.sipush (-1009), 3) := by decide +kernel
theorem dX2_leave_31 : decode cX2_leave 31 = .ok (.iastore, 1) := by decide +kernel
theorem dX2_leave_32 : decode cX2_leave 32 = .ok (.aload_n 0, 1) := by decide +kernel
theorem dX2_leave_33 : decode cX2_leave 33 = .ok (.getfield 21, 3) := by decide +kernel
theorem dX2_leave_36 : decode cX2_leave 36 = .ok (.iload_n 1, 1) := by decide +kernel
theorem dX2_leave_37 : decode cX2_leave 37 = .ok (.bipush 10, 2) := by decide +kernel
theorem dX2_leave_39 : decode cX2_leave 39 = .ok (.iadd, 1) := by decide +kernel
theorem dX2_leave_40 : decode cX2_leave 40 = .ok (.aload_n 0, 1) := by decide +kernel
theorem dX2_leave_41 : decode cX2_leave 41 = .ok (.getfield 46, 3) := by decide +kernel
theorem dX2_leave_44 : decode cX2_leave 44 = .ok (.iastore, 1) := by decide +kernel
theorem dX2_leave_45 : decode cX2_leave 45 = .ok (.aload_n 0, 1) := by decide +kernel
theorem dX2_leave_46 : decode cX2_leave 46 = .ok (.getfield 21, 3) := by decide +kernel
theorem dX2_leave_49 : decode cX2_leave 49 = .ok (.iload_n 1, 1) := by decide +kernel
theorem dX2_leave_50 : decode cX2_leave 50 = .ok (.bipush 7, 2) := by decide +kernel
theorem dX2_leave_52 : decode cX2_leave 52 = .ok (.iadd, 1) := by decide +kernel
theorem dX2_leave_53 : decode cX2_leave 53 = .ok (.iaload, 1) := by decide +kernel
theorem dX2_leave_54 : decode cX2_leave 54 = .ok (.aload_n 0, 1) := by decide +kernel
theorem dX2_leave_55 : decode cX2_leave 55 = .ok (.getfield 15, 3) := by decide +kernel
theorem dX2_leave_58 : decode cX2_leave 58 = .ok (.iload_n 3, 1) := by decide +kernel
theorem dX2_leave_59 : decode cX2_leave 59 = .ok (.iconst 2, 1) := by decide +kernel
theorem dX2_leave_60 : decode cX2_leave 60 = .ok (.iadd, 1) := by decide +kernel
theorem dX2_leave_61 : decode cX2_leave 61 = .ok (.iaload, 1) := by decide +kernel
theorem dX2_leave_62 : decode cX2_leave 62 = .ok (.if_icmp .ge 10, 3) := by decide +kernel
theorem dX2_leave_65 : decode cX2_leave 65 = .ok (.aload_n 0, 1) := by decide +kernel
theorem dX2_leave_66 : decode cX2_leave 66 = .ok (.iload_n 1, 1) := by decide +kernel
theorem dX2_leave_67 : decode cX2_leave 67 = .ok (.iconst 3, 1) := by decide +kernel
theorem dX2_leave_68 : decode cX2_leave 68 = .ok (.iload_n 2, 1) := by decide +kernel
theorem dX2_leave_69 : decode cX2_leave 69 = .ok (.invokevirtual 128, 3) := by decide +kernel
theorem dX2_leave_72 : decode cX2_leave 72 = .ok (.aload_n 0, 1) := by decide +kernel
theorem dX2_leave_73 : decode cX2_leave 73 = .ok (.getfield 21, 3) := by decide +kernel
theorem dX2_leave_76 : decode cX2_leave 76 = .ok (.iload_n 1, 1) := by decide +kernel
theorem dX2_leave_77 : decode cX2_leave 77 = .ok (.bipush 6, 2) := by decide +kernel
theorem dX2_leave_79 : decode cX2_leave 79 = .ok (.iadd, 1) := by decide +kernel
theorem dX2_leave_80 : decode cX2_leave 80 = .ok (.iaload, 1) := by decide +kernel
theorem dX2_leave_81 : decode cX2_leave 81 = .ok (.aload_n 0, 1) := by decide +kernel
theorem dX2_leave_82 : decode cX2_leave 82 = .ok (.getfield 15, 3) := by decide +kernel
theorem dX2_leave_85 : decode cX2_leave 85 = .ok (.iload_n 3, 1) := by decide +kernel
theorem dX2_leave_86 : decode cX2_leave 86 = .ok (.iconst 4, 1) := by decide +kernel
theorem dX2_leave_87 : decode cX2_leave 87 = .ok (.iadd, 1) := by decide +kernel
theorem dX2_leave_88 : decode cX2_leave 88 = .ok (.iaload, 1) := by decide +kernel
theorem dX2_leave_89 : decode cX2_leave 89 = .ok (.if_icmp .ge 10, 3) := by decide +kernel
theorem dX2_leave_92 : decode cX2_leave 92 = .ok (.aload_n 0, 1) := by decide +kernel
theorem dX2_leave_93 : decode cX2_leave 93 = .ok (.iload_n 1, 1) := by decide +kernel
theorem dX2_leave_94 : decode cX2_leave 94 = .ok (.iconst 4, 1) := by decide +kernel
theorem dX2_leave_95 : decode cX2_leave 95 = .ok (.iload_n 2, 1) := by decide +kernel
theorem dX2_leave_96 : decode cX2_leave 96 = .ok (.invokevirtual 128, 3) := by decide +kernel
theorem dX2_leave_99 : decode cX2_leave 99 = .ok (.return_, 1) := by decide +kernel
theorem dX2_changeWarmths_0 : decode cX2_changeWarmths 0 = .ok (.aload_n 0, 1) := by decide +kernel
theorem dX2_changeWarmths_1 : decode cX2_changeWarmths 1 = .ok (.invokevirtual 132, 3) := by decide +kernel
theorem dX2_changeWarmths_4 : decode cX2_changeWarmths 4 = .ok (.iconst 0, 1) := by decide +kernel
theorem dX2_changeWarmths_5 : decode cX2_changeWarmths 5 = .ok (.istore_n 1, 1) := by decide +kernel
theorem dX2_changeWarmths_6 : decode cX2_changeWarmths 6 = .ok (.iload_n 1, 1) := by decide +kernel
theorem dX2_changeWarmths_7 : decode cX2_changeWarmths 7 = .ok (.bipush 6, 2) := by decide +kernel
theorem dX2_changeWarmths_9 : decode cX2_changeWarmths 9 = .ok (.if_icmp .ge 104, 3) := by decide +kernel
theorem dX2_changeWarmths_12 : decode cX2_changeWarmths 12 = .ok (.iload_n 1, 1) := by decide +kernel
theorem dX2_changeWarmths_13 : decode cX2_changeWarmths 13 = .ok (.iconst 4, 1) := by decide +kernel
theorem dX2_changeWarmths_14 : decode cX2_changeWarmths 14 = .ok (.imul, 1) := by decide +kernel
theorem dX2_changeWarmths_15 : decode cX2_changeWarmths 15 = .ok (.istore_n 2, 1) := by decide +kernel
theorem dX2_changeWarmths_16 : decode cX2_changeWarmths 16 = .ok (.aload_n 0, 1) := by decide +kernel
theorem dX2_changeWarmths_17 : decode cX2_changeWarmths 17 = .ok (.getfield 9, 3) := by decide +kernel
theorem dX2_changeWarmths_20 : decode cX2_changeWarmths 20 = .ok (.iload_n 2, 1) := by decide +kernel
theorem dX2_changeWarmths_21 : decode cX2_changeWarmths 21 = .ok (.iconst 1, 1) := by decide +kernel
theorem dX2_changeWarmths_22 : decode cX2_changeWarmths 22 = .ok (.iadd, 1) := by decide +kernel
theorem dX2_changeWarmths_23 : decode cX2_changeWarmths 23 = .ok (.iaload, 1) := by decide +kernel
theorem dX2_changeWarmths_24 : decode cX2_changeWarmths 24 = .ok (.istore_n 3, 1) := by decide +kernel
theorem dX2_changeWarmths_25 : decode cX2_changeWarmths 25 = .ok (.aload_n 0, 1) := by decide +kernel
theorem dX2_changeWarmths_26 : decode cX2_changeWarmths 26 = .ok (.getfield 9, 3) := by decide +kernel
theorem dX2_changeWarmths_29 : decode cX2_changeWarmths 29 = .ok (.iload_n 2, 1) := by decide +kernel
theorem dX2_changeWarmths_30 : decode cX2_changeWarmths 30 = .ok (.iconst 2, 1) := by decide +kernel
theorem dX2_changeWarmths_31 : decode cX2_changeWarmths 31 = .ok (.iadd, 1) := by decide +kernel
theorem dX2_changeWarmths_32 : decode cX2_changeWarmths 32 = .ok (.iaload, 1) := by decide +kernel
theorem dX2_changeWarmths_33 : decode cX2_changeWarmths 33 = .ok (.istore 4, 2) := by decide +kernel
theorem dX2_changeWarmths_35 : decode cX2_changeWarmths 35 = .ok (.bipush 20, 2) := by decide +kernel
theorem dX2_changeWarmths_37 : decode cX2_changeWarmths 37 = .ok (.aload_n 0, 1) := by decide +kernel
theorem dX2_changeWarmths_38 : decode cX2_changeWarmths 38 = .ok (.getfield 9, 3) := by decide +kernel
theorem dX2_changeWarmths_41 : decode cX2_changeWarmths 41 = .ok (.iload_n 2, 1) := by decide +kernel
theorem dX2_changeWarmths_42 : decode cX2_changeWarmths 42 = .ok (.iconst 3, 1) := by decide +kernel
theorem dX2_changeWarmths_43 : decode cX2_changeWarmths 43 = .ok (.iadd, 1) := by decide +kernel
theorem dX2_changeWarmths_44 : decode cX2_changeWarmths 44 = .ok (.iaload, 1) := by decide +kernel
theorem dX2_changeWarmths_45 : decode cX2_changeWarmths 45 = .ok (.aload_n 0, 1) := by decide +kernel
theorem dX2_changeWarmths_46 : decode cX2_changeWarmths 46 = .ok (.getfield 18, 3) := by decide +kernel
theorem dX2_changeWarmths_49 : decode cX2_changeWarmths 49 = .ok (.iconst 3, 1) := by decide +kernel
theorem dX2_changeWarmths_50 : decode cX2_changeWarmths 50 = .ok (.iaload, 1) := by decide +kernel
theorem dX2_changeWarmths_51 : decode cX2_changeWarmths 51 = .ok (.aload_n 0, 1) := by decide +kernel
theorem dX2_changeWarmths_52 : decode cX2_changeWarmths 52 = .ok (.getfield 24, 3) := by decide +kernel
theorem dX2_changeWarmths_55 : decode cX2_changeWarmths 55 = .ok (.iload_n 1, 1) := by decide +kernel
theorem dX2_changeWarmths_56 : decode cX2_changeWarmths 56 = .ok (.iaload, 1) := by decide +kernel
theorem dX2_changeWarmths_57 : decode cX2_changeWarmths 57 = .ok (.imul, 1) := by decide +kernel
theorem dX2_changeWarmths_58 : decode cX2_changeWarmths 58 = .ok (.iconst 5, 1) := by decide +kernel
theorem dX2_changeWarmths_59 : decode cX2_changeWarmths 59 = .ok (.idiv, 1) := by decide +kernel
theorem dX2_changeWarmths_60 : decode cX2_changeWarmths 60 = .ok (.isub, 1) := by decide +kernel
theorem dX2_changeWarmths_61 : decode cX2_changeWarmths 61 = .ok (.invokestatic 135, 3) := by decide +kernel
theorem dX2_changeWarmths_64 : decode cX2_changeWarmths 64 = .ok (.istore 5, 2) := by decide +kernel
theorem dX2_changeWarmths_66 : decode cX2_changeWarmths 66 = .ok (.iload 5, 2) := by decide +kernel
theorem dX2_changeWarmths_68 : decode cX2_changeWarmths 68 = .ok (.iload_n 3, 1) := by decide +kernel
theorem dX2_changeWarmths_69 : decode cX2_changeWarmths 69 = .ok (.if_icmp .ge 17, 3) := by decide +kernel
theorem dX2_changeWarmths_72 : decode cX2_changeWarmths 72 = .ok (.iload_n 3, 1) := by decide +kernel
theorem dX2_changeWarmths_73 : decode cX2_changeWarmths 73 = .ok (.iload 5, 2) := by decide +kernel
theorem dX2_changeWarmths_75 : decode cX2_changeWarmths 75 = .ok (.iload 4, 2) := by decide +kernel
theorem dX2_changeWarmths_77 : decode cX2_changeWarmths 77 = .ok (.iadd, 1) := by decide +kernel
theorem dX2_changeWarmths_78 : decode cX2_changeWarmths 78 = .ok (.invokestatic 140, 3) := by decide +kernel
theorem dX2_changeWarmths_81 : decode cX2_changeWarmths 81 = .ok (.istore 5, 2) := by decide +kernel
theorem dX2_changeWarmths_83 : decode cX2_changeWarmths 83 = .ok (.goto 14, 3) := by decide +kernel
theorem dX2_changeWarmths_86 : decode cX2_changeWarmths 86 = .ok (.iload_n 3, 1) := by decide +kernel
theorem dX2_changeWarmths_87 : decode cX2_changeWarmths 87 = .ok (.iload 5, 2) := by decide +kernel
theorem dX2_changeWarmths_89 : decode cX2_changeWarmths 89 = .ok (.iload 4, 2) := by decide +kernel
theorem dX2_changeWarmths_91 : decode cX2_changeWarmths 91 = .ok (.isub, 1) := by decide +kernel
theorem dX2_changeWarmths_92 : decode cX2_changeWarmths 92 = .ok (.invokestatic 135, 3) := by decide +kernel
theorem dX2_changeWarmths_95 : decode cX2_changeWarmths 95 = .ok (.istore 5, 2) := by decide +kernel
theorem dX2_changeWarmths_97 : decode cX2_changeWarmths 97 = .ok (.aload_n 0, 1) := by decide +kernel
theorem dX2_changeWarmths_98 : decode cX2_changeWarmths 98 = .ok (.getfield 9, 3) := by decide +kernel
theorem dX2_changeWarmths_101 : decode cX2_changeWarmths 101 = .ok (.iload_n 2, 1) := by decide +kernel
theorem dX2_changeWarmths_102 : decode cX2_changeWarmths 102 = .ok (.iconst 3, 1) := by decide +kernel
theorem dX2_changeWarmths_103 : decode cX2_changeWarmths 103 = .ok (.iadd, 1) := by decide +kernel
theorem dX2_changeWarmths_104 : decode cX2_changeWarmths 104 = .ok (.iload 5, 2) := by decide +kernel
theorem dX2_changeWarmths_106 : decode cX2_changeWarmths 106 = .ok (.iastore, 1) := by decide +kernel
theorem dX2_changeWarmths_107 : decode cX2_changeWarmths 107 = .ok (.iinc 1 1, 3) := by decide +kernel
theorem dX2_changeWarmths_110 : decode cX2_changeWarmths 110 = .ok (.goto (-104), 3) := by decide +kernel
theorem dX2_changeWarmths_113 : decode cX2_changeWarmths 113 = .ok (.return_, 1) := by decide +kernel
theorem dX2_sumWeights_0 : decode cX2_sumWeights 0 = .ok (.iconst 0, 1) := by decide +kernel
theorem dX2_sumWeights_1 : decode cX2_sumWeights 1 = .ok (.istore_n 1, 1) := by decide +kernel
theorem dX2_sumWeights_2 : decode cX2_sumWeights 2 = .ok (.iload_n 1, 1) := by decide +kernel
theorem dX2_sumWeights_3 : decode cX2_sumWeights 3 = .ok (.bipush 6, 2) := by decide +kernel
theorem dX2_sumWeights_5 : decode cX2_sumWeights 5 = .ok (.if_icmp .ge 16, 3) := by decide +kernel
theorem dX2_sumWeights_8 : decode cX2_sumWeights 8 = .ok (.aload_n 0, 1) := by decide +kernel
theorem dX2_sumWeights_9 : decode cX2_sumWeights 9 = .ok (.getfield 24, 3) := by decide +kernel
theorem dX2_sumWeights_12 : decode cX2_sumWeights 12 = .ok (.iload_n 1, 1) := by decide +kernel
theorem dX2_sumWeights_13 : decode cX2_sumWeights 13 = .ok (.iconst 0, 1) := by decide +kernel
theorem dX2_sumWeights_14 : decode cX2_sumWeights 14 = .ok (.iastore, 1) := by decide +kernel
theorem dX2_sumWeights_15 : decode cX2_sumWeights 15 = .ok (.iinc 1 1, 3) := by decide +kernel
theorem dX2_sumWeights_18 : decode cX2_sumWeights 18 = .ok (.goto (-16), 3) := by decide +kernel
theorem dX2_sumWeights_21 : decode cX2_sumWeights 21 = .ok (.iconst 0, 1) := by decide +kernel
theorem dX2_sumWeights_22 : decode cX2_sumWeights 22 = .ok (.istore_n 1, 1) := by decide +kernel
theorem dX2_sumWeights_23 : decode cX2_sumWeights 23 = .ok (.iload_n 1, 1) := by decide +kernel
theorem dX2_sumWeights_24 : decode cX2_sumWeights 24 = .ok (.aload_n 0, 1) := by decide +kernel
theorem dX2_sumWeights_25 : decode cX2_sumWeights 25 = .ok (.getfield 42, 3) := by decide +kernel
theorem dX2_sumWeights_28 : decode cX2_sumWeights 28 = .ok (.if_icmp .ge 50, 3) := by decide +kernel
theorem dX2_sumWeights_31 : decode cX2_sumWeights 31 = .ok (.iload_n 1, 1) := by decide +kernel
theorem dX2_sumWeights_32 : decode cX2_sumWeights 32 = .ok (.bipush 22, 2) := by decide +kernel
theorem dX2_sumWeights_34 : decode cX2_sumWeights 34 = .ok (.imul, 1) := by decide +kernel
theorem dX2_sumWeights_35 : decode cX2_sumWeights 35 = .ok (.istore_n 2, 1) := by decide +kernel
theorem dX2_sumWeights_36 : decode cX2_sumWeights 36 = .ok (.aload_n 0, 1) := by decide +kernel
theorem dX2_sumWeights_37 : decode cX2_sumWeights 37 = .ok (.getfield 21, 3) := by decide +kernel
theorem dX2_sumWeights_40 : decode cX2_sumWeights 40 = .ok (.iload_n 2, 1) := by decide +kernel
theorem dX2_sumWeights_41 : decode cX2_sumWeights 41 = .ok (.iconst 2, 1) := by decide +kernel
theorem dX2_sumWeights_42 : decode cX2_sumWeights 42 = .ok (.iadd, 1) := by decide +kernel
theorem dX2_sumWeights_43 : decode cX2_sumWeights 43 = .ok (.iaload, 1) := by decide +kernel
theorem dX2_sumWeights_44 : decode cX2_sumWeights 44 = .ok (.ifCond .ne 28, 3) := by decide +kernel
theorem dX2_sumWeights_47 : decode cX2_sumWeights 47 = .ok (.aload_n 0, 1) := by decide +kernel
theorem dX2_sumWeights_48 : decode cX2_sumWeights 48 = .ok (.getfield 24, 3) := by decide +kernel
theorem dX2_sumWeights_51 : decode cX2_sumWeights 51 = .ok (.aload_n 0, 1) := by decide +kernel
theorem dX2_sumWeights_52 : decode cX2_sumWeights 52 = .ok (.getfield 21, 3) := by decide +kernel
theorem dX2_sumWeights_55 : decode cX2_sumWeights 55 = .ok (.iload_n 2, 1) := by decide +kernel
theorem dX2_sumWeights_56 : decode cX2_sumWeights 56 = .ok (.bipush 11, 2) := by decide +kernel
theorem dX2_sumWeights_58 : decode cX2_sumWeights 58 = .ok (.iadd, 1) := by decide +kernel
theorem dX2_sumWeights_59 : decode cX2_sumWeights 59 = .ok (.iaload, 1) := by decide +kernel
theorem dX2_sumWeights_60 : decode cX2_sumWeights 60 = .ok (.dup2, 1) := by decide +kernel
theorem dX2_sumWeights_61 : decode cX2_sumWeights 61 = .ok (.iaload, 1) := by decide +kernel
theorem dX2_sumWeights_62 : decode cX2_sumWeights 62 = .ok (.aload_n 0, 1) := by decide +kernel
theorem dX2_sumWeights_63 : decode cX2_sumWeights 63 = .ok (.getfield 21, 3) := by decide +kernel
theorem dX2_sumWeights_66 : decode cX2_sumWeights 66 = .ok (.iload_n 2, 1) := by decide +kernel
theorem dX2_sumWeights_67 : decode cX2_sumWeights 67 = .ok (.iconst 1, 1) := by decide +kernel
theorem dX2_sumWeights_68 : decode cX2_sumWeights 68 = .ok (.iadd, 1) := by decide +kernel
theorem dX2_sumWeights_69 : decode cX2_sumWeights 69 = .ok (.iaload, 1) := by decide +kernel
theorem dX2_sumWeights_70 : decode cX2_sumWeights 70 = .ok (.iadd, 1) := by decide +kernel
theorem dX2_sumWeights_71 : decode cX2_sumWeights 71 = .ok (.iastore, 1) := by decide +kernel
theorem dX2_sumWeights_72 : decode cX2_sumWeights 72 = .ok (.iinc 1 1, 3) := by decide +kernel
theorem dX2_sumWeights_75 : decode cX2_sumWeights 75 = .ok (.goto (-52), 3) := by decide +kernel
theorem dX2_sumWeights_78 : decode cX2_sumWeights 78 = .ok (.return_, 1) := by decide +kernel
theorem dX2_warmBoards_0 : decode cX2_warmBoards 0 = .ok (.iconst 0, 1) := by decide +kernel
theorem dX2_warmBoards_1 : decode cX2_warmBoards 1 = .ok (.istore_n 1, 1) := by decide +kernel
theorem dX2_warmBoards_2 : decode cX2_warmBoards 2 = .ok (.iload_n 1, 1) := by decide +kernel
theorem dX2_warmBoards_3 : decode cX2_warmBoards 3 = .ok (.aload_n 0, 1) := by decide +kernel
theorem dX2_warmBoards_4 : decode cX2_warmBoards 4 = .ok (.getfield 42, 3) := by decide +kernel
theorem dX2_warmBoards_7 : decode cX2_warmBoards 7 = .ok (.if_icmp .ge 35, 3) := by decide +kernel
theorem dX2_warmBoards_10 : decode cX2_warmBoards 10 = .ok (.iload_n 1, 1) := by decide +kernel
theorem dX2_warmBoards_11 : decode cX2_warmBoards 11 = .ok (.bipush 22, 2) := by decide +kernel
theorem dX2_warmBoards_13 : decode cX2_warmBoards 13 = .ok (.imul, 1) := by decide +kernel
theorem dX2_warmBoards_14 : decode cX2_warmBoards 14 = .ok (.istore_n 2, 1) := by decide +kernel
theorem dX2_warmBoards_15 : decode cX2_warmBoards 15 = .ok (.aload_n 0, 1) := by decide +kernel
theorem dX2_warmBoards_16 : decode cX2_warmBoards 16 = .ok (.getfield 21, 3) := by decide +kernel
theorem dX2_warmBoards_19 : decode cX2_warmBoards 19 = .ok (.iload_n 2, 1) := by decide +kernel
theorem dX2_warmBoards_20 : decode cX2_warmBoards 20 = .ok (.iconst 2, 1) := by decide +kernel
theorem dX2_warmBoards_21 : decode cX2_warmBoards 21 = .ok (.iadd, 1) := by decide +kernel
theorem dX2_warmBoards_22 : decode cX2_warmBoards 22 = .ok (.iaload, 1) := by decide +kernel
theorem dX2_warmBoards_23 : decode cX2_warmBoards 23 = .ok (.ifCond .ne 13, 3) := by decide +kernel
theorem dX2_warmBoards_26 : decode cX2_warmBoards 26 = .ok (.aload_n 0, 1) := by decide +kernel
theorem dX2_warmBoards_27 : decode cX2_warmBoards 27 = .ok (.iload_n 2, 1) := by decide +kernel
theorem dX2_warmBoards_28 : decode cX2_warmBoards 28 = .ok (.invokevirtual 143, 3) := by decide +kernel
theorem dX2_warmBoards_31 : decode cX2_warmBoards 31 = .ok (.aload_n 0, 1) := by decide +kernel
theorem dX2_warmBoards_32 : decode cX2_warmBoards 32 = .ok (.iload_n 2, 1) := by decide +kernel
theorem dX2_warmBoards_33 : decode cX2_warmBoards 33 = .ok (.invokevirtual 147, 3) := by decide +kernel
theorem dX2_warmBoards_36 : decode cX2_warmBoards 36 = .ok (.iinc 1 1, 3) := by decide +kernel
theorem dX2_warmBoards_39 : decode cX2_warmBoards 39 = .ok (.goto (-37), 3) := by decide +kernel
theorem dX2_warmBoards_42 : decode cX2_warmBoards 42 = .ok (.return_, 1) := by decide +kernel
theorem dX2_warm_0 : decode cX2_warm 0 = .ok (.aload_n 0, 1) := by decide +kernel
theorem dX2_warm_1 : decode cX2_warm 1 = .ok (.getfield 9, 3) := by decide +kernel
theorem dX2_warm_4 : decode cX2_warm 4 = .ok (.aload_n 0, 1) := by decide +kernel
theorem dX2_warm_5 : decode cX2_warm 5 = .ok (.getfield 21, 3) := by decide +kernel
theorem dX2_warm_8 : decode cX2_warm 8 = .ok (.iload_n 1, 1) := by decide +kernel
theorem dX2_warm_9 : decode cX2_warm 9 = .ok (.bipush 11, 2) := by decide +kernel
theorem dX2_warm_11 : decode cX2_warm 11 = .ok (.iadd, 1) := by decide +kernel
theorem dX2_warm_12 : decode cX2_warm 12 = .ok (.iaload, 1) := by decide +kernel
theorem dX2_warm_13 : decode cX2_warm 13 = .ok (.iconst 4, 1) := by decide +kernel
theorem dX2_warm_14 : decode cX2_warm 14 = .ok (.imul, 1) := by decide +kernel
theorem dX2_warm_15 : decode cX2_warm 15 = .ok (.iconst 3, 1) := by decide +kernel
theorem dX2_warm_16 : decode cX2_warm 16 = .ok (.iadd, 1) := by decide +kernel
theorem dX2_warm_17 : decode cX2_warm 17 = .ok (.iaload, 1) := by decide +kernel
theorem dX2_warm_18 : decode cX2_warm 18 = .ok (.istore_n 2, 1) := by decide +kernel
theorem dX2_warm_19 : decode cX2_warm 19 = .ok (.aload_n 0, 1) := by decide +kernel
theorem dX2_warm_20 : decode cX2_warm 20 = .ok (.getfield 21, 3) := by decide +kernel
theorem dX2_warm_23 : decode cX2_warm 23 = .ok (.iload_n 1, 1) := by decide +kernel
theorem dX2_warm_24 : decode cX2_warm 24 = .ok (.iconst 4, 1) := by decide +kernel
theorem dX2_warm_25 : decode cX2_warm 25 = .ok (.iadd, 1) := by decide +kernel
theorem dX2_warm_26 : decode cX2_warm 26 = .ok (.iaload, 1) := by decide +kernel
theorem dX2_warm_27 : decode cX2_warm 27 = .ok (.istore_n 3, 1) := by decide +kernel
theorem dX2_warm_28 : decode cX2_warm 28 = .ok (.iload_n 2, 1) := by decide +kernel
theorem dX2_warm_29 : decode cX2_warm 29 = .ok (.iload_n 3, 1) := by decide +kernel
theorem dX2_warm_30 : decode cX2_warm 30 = .ok (.isub, 1) := by decide +kernel
theorem dX2_warm_31 : decode cX2_warm 31 = .ok (.aload_n 0, 1) := by decide +kernel
theorem dX2_warm_32 : decode cX2_warm 32 = .ok (.getfield 21, 3) := by decide +kernel
theorem dX2_warm_35 : decode cX2_warm 35 = .ok (.iload_n 1, 1) := by decide +kernel
theorem dX2_warm_36 : decode cX2_warm 36 = .ok (.iconst 1, 1) := by decide +kernel
theorem dX2_warm_37 : decode cX2_warm 37 = .ok (.iadd, 1) := by decide +kernel
theorem dX2_warm_38 : decode cX2_warm 38 = .ok (.iaload, 1) := by decide +kernel
theorem dX2_warm_39 : decode cX2_warm 39 = .ok (.iconst 1, 1) := by decide +kernel
theorem dX2_warm_40 : decode cX2_warm 40 = .ok (.iadd, 1) := by decide +kernel
theorem dX2_warm_41 : decode cX2_warm 41 = .ok (.idiv, 1) := by decide +kernel
theorem dX2_warm_42 : decode cX2_warm 42 = .ok (.istore 4, 2) := by decide +kernel
theorem dX2_warm_44 : decode cX2_warm 44 = .ok (.iload_n 3, 1) := by decide +kernel
theorem dX2_warm_45 : decode cX2_warm 45 = .ok (.iload 4, 2) := by decide +kernel
theorem dX2_warm_47 : decode cX2_warm 47 = .ok (.iadd, 1) := by decide +kernel
theorem dX2_warm_48 : decode cX2_warm 48 = .ok (.istore_n 3, 1) := by decide +kernel
theorem dX2_warm_49 : decode cX2_warm 49 = .ok (.aload_n 0, 1) := by decide +kernel
theorem dX2_warm_50 : decode cX2_warm 50 = .ok (.getfield 21, 3) := by decide +kernel
theorem dX2_warm_53 : decode cX2_warm 53 = .ok (.iload_n 1, 1) := by decide +kernel
theorem dX2_warm_54 : decode cX2_warm 54 = .ok (.iconst 5, 1) := by decide +kernel
theorem dX2_warm_55 : decode cX2_warm 55 = .ok (.iadd, 1) := by decide +kernel
theorem dX2_warm_56 : decode cX2_warm 56 = .ok (.iload 4, 2) := by decide +kernel
theorem dX2_warm_58 : decode cX2_warm 58 = .ok (.iastore, 1) := by decide +kernel
theorem dX2_warm_59 : decode cX2_warm 59 = .ok (.aload_n 0, 1) := by decide +kernel
theorem dX2_warm_60 : decode cX2_warm 60 = .ok (.getfield 21, 3) := by decide +kernel
theorem dX2_warm_63 : decode cX2_warm 63 = .ok (.iload_n 1, 1) := by decide +kernel
theorem dX2_warm_64 : decode cX2_warm 64 = .ok (.iconst 4, 1) := by decide +kernel
theorem dX2_warm_65 : decode cX2_warm 65 = .ok (.iadd, 1) := by decide +kernel
theorem dX2_warm_66 : decode cX2_warm 66 = .ok (.iload_n 3, 1) := by decide +kernel
theorem dX2_warm_67 : decode cX2_warm 67 = .ok (.iastore, 1) := by decide +kernel
theorem dX2_warm_68 : decode cX2_warm 68 = .ok (.aload_n 0, 1) := by decide +kernel
theorem dX2_warm_69 : decode cX2_warm 69 = .ok (.getfield 21, 3) := by decide +kernel
theorem dX2_warm_72 : decode cX2_warm 72 = .ok (.iload_n 1, 1) := by decide +kernel
theorem dX2_warm_73 : decode cX2_warm 73 = .ok (.bipush 6, 2) := by decide +kernel
theorem dX2_warm_75 : decode cX2_warm 75 = .ok (.iadd, 1) := by decide +kernel
theorem dX2_warm_76 : decode cX2_warm 76 = .ok (.aload_n 0, 1) := by decide +kernel
theorem dX2_warm_77 : decode cX2_warm 77 = .ok (.getfield 21, 3) := by decide +kernel
theorem dX2_warm_80 : decode cX2_warm 80 = .ok (.iload_n 1, 1) := by decide +kernel
theorem dX2_warm_81 : decode cX2_warm 81 = .ok (.bipush 6, 2) := by decide +kernel
theorem dX2_warm_83 : decode cX2_warm 83 = .ok (.iadd, 1) := by decide +kernel
theorem dX2_warm_84 : decode cX2_warm 84 = .ok (.iaload, 1) := by decide +kernel
theorem dX2_warm_85 : decode cX2_warm 85 = .ok (.iload_n 3, 1) := by decide +kernel
theorem dX2_warm_86 : decode cX2_warm 86 = .ok (.invokestatic 135, 3) := by decide +kernel
theorem dX2_warm_89 : decode cX2_warm 89 = .ok (.iastore, 1) := by decide +kernel
theorem dX2_warm_90 : decode cX2_warm 90 = .ok (.iload_n 3, 1) := by decide +kernel
theorem dX2_warm_91 : decode cX2_warm 91 = .ok (.aload_n 0, 1) := by decide +kernel
theorem dX2_warm_92 : decode cX2_warm 92 = .ok (.getfield 15, 3) := by decide +kernel
theorem dX2_warm_95 : decode cX2_warm 95 = .ok (.aload_n 0, 1) := by decide +kernel
theorem dX2_warm_96 : decode cX2_warm 96 = .ok (.getfield 21, 3) := by decide +kernel
theorem dX2_warm_99 : decode cX2_warm 99 = .ok (.iload_n 1, 1) := by decide +kernel
theorem dX2_warm_100 : decode cX2_warm 100 = .ok (.iconst 0, 1) := by decide +kernel
theorem dX2_warm_101 : decode cX2_warm 101 = .ok (.iadd, 1) := by decide +kernel
theorem dX2_warm_102 : decode cX2_warm 102 = .ok (.iaload, 1) := by decide +kernel
theorem dX2_warm_103 : decode cX2_warm 103 = .ok (.bipush 6, 2) := by decide +kernel
theorem dX2_warm_105 : decode cX2_warm 105 = .ok (.imul, 1) := by decide +kernel
theorem dX2_warm_106 : decode cX2_warm 106 = .ok (.iconst 1, 1) := by decide +kernel
theorem dX2_warm_107 : decode cX2_warm 107 = .ok (.iadd, 1) := by decide +kernel
theorem dX2_warm_108 : decode cX2_warm 108 = .ok (.iaload, 1) := by decide +kernel
theorem dX2_warm_109 : decode cX2_warm 109 = .ok (.if_icmp .le 16, 3) := by decide +kernel
theorem dX2_warm_112 : decode cX2_warm 112 = .ok (.aload_n 0, 1) := by decide +kernel
theorem dX2_warm_113 : decode cX2_warm 113 = .ok (.getfield 21, 3) := by decide +kernel
theorem dX2_warm_116 : decode cX2_warm 116 = .ok (.iload_n 1, 1) := by decide +kernel
theorem dX2_warm_117 : decode cX2_warm 117 = .ok (.bipush 7, 2) := by decide +kernel
theorem dX2_warm_119 : decode cX2_warm 119 = .ok (.iadd, 1) := by decide +kernel
theorem dX2_warm_120 : decode cX2_warm 120 = .ok (.dup2, 1) := by decide +kernel
theorem dX2_warm_121 : decode cX2_warm 121 = .ok (.iaload, 1) := by decide +kernel
theorem dX2_warm_122 : decode cX2_warm 122 = .ok (.iconst 1, 1) := by decide +kernel
theorem dX2_warm_123 : decode cX2_warm 123 = .ok (.iadd, 1) := by decide +kernel
theorem dX2_warm_124 : decode cX2_warm 124 = .ok (.iastore, 1) := by decide +kernel
theorem dX2_warm_125 : decode cX2_warm 125 = .ok (.return_, 1) := by decide +kernel
theorem dX2_judgeOnBelt_0 : decode cX2_judgeOnBelt 0 = .ok (.aload_n 0, 1) := by decide +kernel
theorem dX2_judgeOnBelt_1 : decode cX2_judgeOnBelt 1 = .ok (.getfield 21, 3) := by decide +kernel
theorem dX2_judgeOnBelt_4 : decode cX2_judgeOnBelt 4 = .ok (.iload_n 1, 1) := by decide +kernel
theorem dX2_judgeOnBelt_5 : decode cX2_judgeOnBelt 5 = .ok (.iconst 0, 1) := by decide +kernel
theorem dX2_judgeOnBelt_6 : decode cX2_judgeOnBelt 6 = .ok (.iadd, 1) := by decide +kernel
theorem dX2_judgeOnBelt_7 : decode cX2_judgeOnBelt 7 = .ok (.iaload, 1) := by decide +kernel
theorem dX2_judgeOnBelt_8 : decode cX2_judgeOnBelt 8 = .ok (.bipush 6, 2) := by decide +kernel
theorem dX2_judgeOnBelt_10 : decode cX2_judgeOnBelt 10 = .ok (.imul, 1) := by decide +kernel
theorem dX2_judgeOnBelt_11 : decode cX2_judgeOnBelt 11 = .ok (.istore_n 2, 1) := by decide +kernel
theorem dX2_judgeOnBelt_12 : decode cX2_judgeOnBelt 12 = .ok (.aload_n 0, 1) := by decide +kernel
theorem dX2_judgeOnBelt_13 : decode cX2_judgeOnBelt 13 = .ok (.getfield 21, 3) := by decide +kernel
theorem dX2_judgeOnBelt_16 : decode cX2_judgeOnBelt 16 = .ok (.iload_n 1, 1) := by decide +kernel
theorem dX2_judgeOnBelt_17 : decode cX2_judgeOnBelt 17 = .ok (.iconst 3, 1) := by decide +kernel
theorem dX2_judgeOnBelt_18 : decode cX2_judgeOnBelt 18 = .ok (.iadd, 1) := by decide +kernel
theorem dX2_judgeOnBelt_19 : decode cX2_judgeOnBelt 19 = .ok (.iaload, 1) := by decide +kernel
theorem dX2_judgeOnBelt_20 : decode cX2_judgeOnBelt 20 = .ok (.istore_n 3, 1) := by decide +kernel
theorem dX2_judgeOnBelt_21 : decode cX2_judgeOnBelt 21 = .ok (.iconst 0, 1) := by decide +kernel
theorem dX2_judgeOnBelt_22 : decode cX2_judgeOnBelt 22 = .ok (.istore 4, 2) := by decide +kernel
theorem dX2_judgeOnBelt_24 : decode cX2_judgeOnBelt 24 = .ok (.aload_n 0, 1) := by decide +kernel
theorem dX2_judgeOnBelt_25 : decode cX2_judgeOnBelt 25 = .ok (.getfield 21, 3) := by decide +kernel
theorem dX2_judgeOnBelt_28 : decode cX2_judgeOnBelt 28 = .ok (.iload_n 1, 1) := by decide +kernel
theorem dX2_judgeOnBelt_29 : decode cX2_judgeOnBelt 29 = .ok (.bipush 7, 2) := by decide +kernel
theorem dX2_judgeOnBelt_31 : decode cX2_judgeOnBelt 31 = .ok (.iadd, 1) := by decide +kernel
theorem dX2_judgeOnBelt_32 : decode cX2_judgeOnBelt 32 = .ok (.iaload, 1) := by decide +kernel
theorem dX2_judgeOnBelt_33 : decode cX2_judgeOnBelt 33 = .ok (.aload_n 0, 1) := by decide +kernel
theorem dX2_judgeOnBelt_34 : decode cX2_judgeOnBelt 34 = .ok (.getfield 15, 3) := by decide +kernel
theorem dX2_judgeOnBelt_37 : decode cX2_judgeOnBelt 37 = .ok (.iload_n 2, 1) := by decide +kernel
theorem dX2_judgeOnBelt_38 : decode cX2_judgeOnBelt 38 = .ok (.iconst 3, 1) := by decide +kernel
theorem dX2_judgeOnBelt_39 : decode cX2_judgeOnBelt 39 = .ok (.iadd, 1) := by decide +kernel
theorem dX2_judgeOnBelt_40 : decode cX2_judgeOnBelt 40 = .ok (.iaload, 1) := by decide +kernel
theorem dX2_judgeOnBelt_41 : decode cX2_judgeOnBelt 41 = .ok (.if_icmp .le 13, 3) := by decide +kernel
theorem dX2_judgeOnBelt_44 : decode cX2_judgeOnBelt 44 = .ok (.aload_n 0, 1) := by decide +kernel
theorem dX2_judgeOnBelt_45 : decode cX2_judgeOnBelt 45 = .ok (.iload_n 1, 1) := by decide +kernel
theorem dX2_judgeOnBelt_46 : decode cX2_judgeOnBelt 46 = .ok (.iconst 1, 1) := by decide +kernel
theorem dX2_judgeOnBelt_47 : decode cX2_judgeOnBelt 47 = .ok (.iload_n 3, 1) := by decide +kernel
theorem dX2_judgeOnBelt_48 : decode cX2_judgeOnBelt 48 = .ok (.invokevirtual 128, 3) := by decide +kernel
theorem dX2_judgeOnBelt_51 : decode cX2_judgeOnBelt 51 = .ok (.iconst 2, 1) := by decide +kernel
theorem dX2_judgeOnBelt_52 : decode cX2_judgeOnBelt 52 = .ok (.istore 4, 2) := by decide +kernel
theorem dX2_judgeOnBelt_54 : decode cX2_judgeOnBelt 54 = .ok (.aload_n 0, 1) := by decide +kernel
theorem dX2_judgeOnBelt_55 : decode cX2_judgeOnBelt 55 = .ok (.getfield 21, 3) := by decide +kernel
theorem dX2_judgeOnBelt_58 : decode cX2_judgeOnBelt 58 = .ok (.iload_n 1, 1) := by decide +kernel
theorem dX2_judgeOnBelt_59 : decode cX2_judgeOnBelt 59 = .ok (.iconst 5, 1) := by decide +kernel
theorem dX2_judgeOnBelt_60 : decode cX2_judgeOnBelt 60 = .ok (.iadd, 1) := by decide +kernel
theorem dX2_judgeOnBelt_61 : decode cX2_judgeOnBelt 61 = .ok (.iaload, 1) := by decide +kernel
theorem dX2_judgeOnBelt_62 : decode cX2_judgeOnBelt 62 = .ok (.aload_n 0, 1) := by decide +kernel
theorem dX2_judgeOnBelt_63 : decode cX2_judgeOnBelt 63 = .ok (.getfield 15, 3) := by decide +kernel
theorem dX2_judgeOnBelt_66 : decode cX2_judgeOnBelt 66 = .ok (.iload_n 2, 1) := by decide +kernel
theorem dX2_judgeOnBelt_67 : decode cX2_judgeOnBelt 67 = .ok (.iconst 0, 1) := by decide +kernel
theorem dX2_judgeOnBelt_68 : decode cX2_judgeOnBelt 68 = .ok (.iadd, 1) := by decide +kernel
theorem dX2_judgeOnBelt_69 : decode cX2_judgeOnBelt 69 = .ok (.iaload, 1) := by decide +kernel
theorem dX2_judgeOnBelt_70 : decode cX2_judgeOnBelt 70 = .ok (.if_icmp .le 13, 3) := by decide +kernel
theorem dX2_judgeOnBelt_73 : decode cX2_judgeOnBelt 73 = .ok (.aload_n 0, 1) := by decide +kernel
theorem dX2_judgeOnBelt_74 : decode cX2_judgeOnBelt 74 = .ok (.iload_n 1, 1) := by decide +kernel
theorem dX2_judgeOnBelt_75 : decode cX2_judgeOnBelt 75 = .ok (.iconst 0, 1) := by decide +kernel
theorem dX2_judgeOnBelt_76 : decode cX2_judgeOnBelt 76 = .ok (.iload_n 3, 1) := by decide +kernel
theorem dX2_judgeOnBelt_77 : decode cX2_judgeOnBelt 77 = .ok (.invokevirtual 128, 3) := by decide +kernel
theorem dX2_judgeOnBelt_80 : decode cX2_judgeOnBelt 80 = .ok (.iconst 1, 1) := by decide +kernel
theorem dX2_judgeOnBelt_81 : decode cX2_judgeOnBelt 81 = .ok (.istore 4, 2) := by decide +kernel
theorem dX2_judgeOnBelt_83 : decode cX2_judgeOnBelt 83 = .ok (.aload_n 0, 1) := by decide +kernel
theorem dX2_judgeOnBelt_84 : decode cX2_judgeOnBelt 84 = .ok (.getfield 21, 3) := by decide +kernel
theorem dX2_judgeOnBelt_87 : decode cX2_judgeOnBelt 87 = .ok (.iload_n 1, 1) := by decide +kernel
theorem dX2_judgeOnBelt_88 : decode cX2_judgeOnBelt 88 = .ok (.iconst 4, 1) := by decide +kernel
theorem dX2_judgeOnBelt_89 : decode cX2_judgeOnBelt 89 = .ok (.iadd, 1) := by decide +kernel
theorem dX2_judgeOnBelt_90 : decode cX2_judgeOnBelt 90 = .ok (.iaload, 1) := by decide +kernel
theorem dX2_judgeOnBelt_91 : decode cX2_judgeOnBelt 91 = .ok (.aload_n 0, 1) := by decide +kernel
theorem dX2_judgeOnBelt_92 : decode cX2_judgeOnBelt 92 = .ok (.getfield 15, 3) := by decide +kernel
theorem dX2_judgeOnBelt_95 : decode cX2_judgeOnBelt 95 = .ok (.iload_n 2, 1) := by decide +kernel
theorem dX2_judgeOnBelt_96 : decode cX2_judgeOnBelt 96 = .ok (.iconst 5, 1) := by decide +kernel
theorem dX2_judgeOnBelt_97 : decode cX2_judgeOnBelt 97 = .ok (.iadd, 1) := by decide +kernel
theorem dX2_judgeOnBelt_98 : decode cX2_judgeOnBelt 98 = .ok (.iaload, 1) := by decide +kernel
theorem dX2_judgeOnBelt_99 : decode cX2_judgeOnBelt 99 = .ok (.if_icmp .le 10, 3) := by decide +kernel
theorem dX2_judgeOnBelt_102 : decode cX2_judgeOnBelt 102 = .ok (.aload_n 0, 1) := by decide +kernel
theorem dX2_judgeOnBelt_103 : decode cX2_judgeOnBelt 103 = .ok (.iload_n 1, 1) := by decide +kernel
theorem dX2_judgeOnBelt_104 : decode cX2_judgeOnBelt 104 = .ok (.iconst 2, 1) := by decide +kernel
theorem dX2_judgeOnBelt_105 : decode cX2_judgeOnBelt 105 = .ok (.iload_n 3, 1) := by decide +kernel
theorem dX2_judgeOnBelt_106 : decode cX2_judgeOnBelt 106 = .ok (.invokevirtual 128, 3) := by decide +kernel
theorem dX2_judgeOnBelt_109 : decode cX2_judgeOnBelt 109 = .ok (.aload_n 0, 1) := by decide +kernel
theorem dX2_judgeOnBelt_110 : decode cX2_judgeOnBelt 110 = .ok (.getfield 21, 3) := by decide +kernel
theorem dX2_judgeOnBelt_113 : decode cX2_judgeOnBelt 113 = .ok (.iload_n 1, 1) := by decide +kernel
theorem dX2_judgeOnBelt_114 : decode cX2_judgeOnBelt 114 = .ok (.bipush 9, 2) := by decide +kernel
theorem dX2_judgeOnBelt_116 : decode cX2_judgeOnBelt 116 = .ok (.iadd, 1) := by decide +kernel
theorem dX2_judgeOnBelt_117 : decode cX2_judgeOnBelt 117 = .ok (.iload 4, 2) := by decide +kernel
theorem dX2_judgeOnBelt_119 : decode cX2_judgeOnBelt 119 = .ok (.iastore, 1) := by decide +kernel
theorem dX2_judgeOnBelt_120 : decode cX2_judgeOnBelt 120 = .ok (.return_, 1) := by decide +kernel
theorem dX2_noteFault_0 : decode cX2_noteFault 0 = .ok (.iconst 1, 1) := by decide +kernel
theorem dX2_noteFault_1 : decode cX2_noteFault 1 = .ok (.iload_n 2, 1) := by decide +kernel
theorem dX2_noteFault_2 : decode cX2_noteFault 2 = .ok (.ishl, 1) := by decide +kernel
theorem dX2_noteFault_3 : decode cX2_noteFault 3 = .ok (.istore 4, 2) := by decide +kernel
theorem dX2_noteFault_5 : decode cX2_noteFault 5 = .ok (.aload_n 0, 1) := by decide +kernel
theorem dX2_noteFault_6 : decode cX2_noteFault 6 = .ok (.getfield 21, 3) := by decide +kernel
theorem dX2_noteFault_9 : decode cX2_noteFault 9 = .ok (.iload_n 1, 1) := by decide +kernel
theorem dX2_noteFault_10 : decode cX2_noteFault 10 = .ok (.bipush 8, 2) := by decide +kernel
theorem dX2_noteFault_12 : decode cX2_noteFault 12 = .ok (.iadd, 1) := by decide +kernel
theorem dX2_noteFault_13 : decode cX2_noteFault 13 = .ok (.iaload, 1) := by decide +kernel
theorem dX2_noteFault_14 : decode cX2_noteFault 14 = .ok (.iload 4, 2) := by decide +kernel
theorem dX2_noteFault_16 : decode cX2_noteFault 16 = .ok (.iand, 1) := by decide +kernel
theorem dX2_noteFault_17 : decode cX2_noteFault 17 = .ok (.ifCond .ne 44, 3) := by decide +kernel
theorem dX2_noteFault_20 : decode cX2_noteFault 20 = .ok (.aload_n 0, 1) := by decide +kernel
theorem dX2_noteFault_21 : decode cX2_noteFault 21 = .ok (.getfield 21, 3) := by decide +kernel
theorem dX2_noteFault_24 : decode cX2_noteFault 24 = .ok (.iload_n 1, 1) := by decide +kernel
theorem dX2_noteFault_25 : decode cX2_noteFault 25 = .ok (.bipush 8, 2) := by decide +kernel
theorem dX2_noteFault_27 : decode cX2_noteFault 27 = .ok (.iadd, 1) := by decide +kernel
theorem dX2_noteFault_28 : decode cX2_noteFault 28 = .ok (.dup2, 1) := by decide +kernel
theorem dX2_noteFault_29 : decode cX2_noteFault 29 = .ok (.iaload, 1) := by decide +kernel
theorem dX2_noteFault_30 : decode cX2_noteFault 30 = .ok (.iload 4, 2) := by decide +kernel
theorem dX2_noteFault_32 : decode cX2_noteFault 32 = .ok (.ior, 1) := by decide +kernel
theorem dX2_noteFault_33 : decode cX2_noteFault 33 = .ok (.iastore, 1) := by decide +kernel
theorem dX2_noteFault_34 : decode cX2_noteFault 34 = .ok (.aload_n 0, 1) := by decide +kernel
theorem dX2_noteFault_35 : decode cX2_noteFault 35 = .ok (.getfield 21, 3) := by decide +kernel
theorem dX2_noteFault_38 : decode cX2_noteFault 38 = .ok (.iload_n 1, 1) := by decide +kernel
theorem dX2_noteFault_39 : decode cX2_noteFault 39 = .ok (.bipush 12, 2) := by decide +kernel
theorem dX2_noteFault_41 : decode cX2_noteFault 41 = .ok (.iadd, 1) := by decide +kernel
theorem dX2_noteFault_42 : decode cX2_noteFault 42 = .ok (.iload_n 2, 1) := by decide +kernel
theorem dX2_noteFault_43 : decode cX2_noteFault 43 = .ok (.iadd, 1) := by decide +kernel
theorem dX2_noteFault_44 : decode cX2_noteFault 44 = .ok (.iload_n 3, 1) := by decide +kernel
theorem dX2_noteFault_45 : decode cX2_noteFault 45 = .ok (.iastore, 1) := by decide +kernel
theorem dX2_noteFault_46 : decode cX2_noteFault 46 = .ok (.aload_n 0, 1) := by decide +kernel
theorem dX2_noteFault_47 : decode cX2_noteFault 47 = .ok (.getfield 21, 3) := by decide +kernel
theorem dX2_noteFault_50 : decode cX2_noteFault 50 = .ok (.iload_n 1, 1) := by decide +kernel
theorem dX2_noteFault_51 : decode cX2_noteFault 51 = .ok (.bipush 17, 2) := by decide +kernel
theorem dX2_noteFault_53 : decode cX2_noteFault 53 = .ok (.iadd, 1) := by decide +kernel
theorem dX2_noteFault_54 : decode cX2_noteFault 54 = .ok (.iload_n 2, 1) := by decide +kernel
theorem dX2_noteFault_55 : decode cX2_noteFault 55 = .ok (.iadd, 1) := by decide +kernel
theorem dX2_noteFault_56 : decode cX2_noteFault 56 = .ok (.aload_n 0, 1) := by decide +kernel
theorem dX2_noteFault_57 : decode cX2_noteFault 57 = .ok (.getfield 46, 3) := by decide +kernel
theorem dX2_noteFault_60 : decode cX2_noteFault 60 = .ok (.iastore, 1) := by decide +kernel
theorem dX2_noteFault_61 : decode cX2_noteFault 61 = .ok (.return_, 1) := by decide +kernel
theorem dX2_hearPleas_0 : decode cX2_hearPleas 0 = .ok (.aload_n 0, 1) := by decide +kernel
theorem dX2_hearPleas_1 : decode cX2_hearPleas 1 = .ok (.getfield 18, 3) := by decide +kernel
theorem dX2_hearPleas_4 : decode cX2_hearPleas 4 = .ok (.iconst 2, 1) := by decide +kernel
theorem dX2_hearPleas_5 : decode cX2_hearPleas 5 = .ok (.iaload, 1) := by decide +kernel
theorem dX2_hearPleas_6 : decode cX2_hearPleas 6 = .ok (.istore_n 1, 1) := by decide +kernel
theorem dX2_hearPleas_7 : decode cX2_hearPleas 7 = .ok (.iload_n 1, 1) := by decide +kernel
theorem dX2_hearPleas_8 : decode cX2_hearPleas 8 = .ok (.ifCond .ne 4, 3) := by decide +kernel
theorem dX2_hearPleas_11 : decode cX2_hearPleas 11 = .ok (.return_, 1) := by decide +kernel
theorem dX2_hearPleas_12 : decode cX2_hearPleas 12 = .ok (.aload_n 0, 1) := by decide +kernel
theorem dX2_hearPleas_13 : decode cX2_hearPleas 13 = .ok (.getfield 18, 3) := by decide +kernel
theorem dX2_hearPleas_16 : decode cX2_hearPleas 16 = .ok (.iconst 0, 1) := by decide +kernel
theorem dX2_hearPleas_17 : decode cX2_hearPleas 17 = .ok (.iaload, 1) := by decide +kernel
theorem dX2_hearPleas_18 : decode cX2_hearPleas 18 = .ok (.istore_n 2, 1) := by decide +kernel
theorem dX2_hearPleas_19 : decode cX2_hearPleas 19 = .ok (.aload_n 0, 1) := by decide +kernel
theorem dX2_hearPleas_20 : decode cX2_hearPleas 20 = .ok (.invokevirtual 150, 3) := by decide +kernel
theorem dX2_hearPleas_23 : decode cX2_hearPleas 23 = .ok (.istore_n 3, 1) := by decide +kernel
theorem dX2_hearPleas_24 : decode cX2_hearPleas 24 = .ok (.iload_n 3, 1) := by decide +kernel
theorem dX2_hearPleas_25 : decode cX2_hearPleas 25 = .ok (.iload_n 1, 1) := by decide +kernel
theorem dX2_hearPleas_26 : decode cX2_hearPleas 26 = .ok (.if_icmp .lt 30, 3) := by decide +kernel
theorem dX2_hearPleas_29 : decode cX2_hearPleas 29 = .ok (.iload_n 2, 1) := by decide +kernel
theorem dX2_hearPleas_30 : decode cX2_hearPleas 30 = .ok (.iconst 1, 1) := by decide +kernel
theorem dX2_hearPleas_31 : decode cX2_hearPleas 31 = .ok (.if_icmp .le 25, 3) := by decide +kernel
theorem dX2_hearPleas_34 : decode cX2_hearPleas 34 = .ok (.aload_n 0, 1) := by decide +kernel
theorem dX2_hearPleas_35 : decode cX2_hearPleas 35 = .ok (.getfield 18, 3) := by decide +kernel
theorem dX2_hearPleas_38 : decode cX2_hearPleas 38 = .ok (.iconst 0, 1) := by decide +kernel
theorem dX2_hearPleas_39 : decode cX2_hearPleas 39 = .ok (.iload_n 2, 1) := by decide +kernel
theorem dX2_hearPleas_40 : decode cX2_hearPleas 40 = .ok (.iconst 1, 1) := by decide +kernel
theorem dX2_hearPleas_41 : decode cX2_hearPleas 41 = .ok (.isub, 1) := by decide +kernel
theorem dX2_hearPleas_42 : decode cX2_hearPleas 42 = .ok (.iastore, 1) := by decide +kernel
theorem dX2_hearPleas_43 : decode cX2_hearPleas 43 = .ok (.aload_n 0, 1) := by decide +kernel
theorem dX2_hearPleas_44 : decode cX2_hearPleas 44 = .ok (.dup, 1) := by decide +kernel
theorem dX2_hearPleas_45 : decode cX2_hearPleas 45 = .ok (.getfield 49, 3) := by decide +kernel
theorem dX2_hearPleas_48 : decode cX2_hearPleas 48 = .ok (.iconst 1, 1) := by decide +kernel
theorem dX2_hearPleas_49 : decode cX2_hearPleas 49 = .ok (.iadd, 1) := by decide +kernel
theorem dX2_hearPleas_50 : decode cX2_hearPleas 50 = .ok (.putfield 49, 3) := by decide +kernel
theorem dX2_hearPleas_53 : decode cX2_hearPleas 53 = .ok (.goto 33, 3) := by decide +kernel
theorem dX2_hearPleas_56 : decode cX2_hearPleas 56 = .ok (.iload_n 3, 1) := by decide +kernel
theorem dX2_hearPleas_57 : decode cX2_hearPleas 57 = .ok (.ineg, 1) := by decide +kernel
theorem dX2_hearPleas_58 : decode cX2_hearPleas 58 = .ok (.iload_n 1, 1) := by decide +kernel
theorem dX2_hearPleas_59 : decode cX2_hearPleas 59 = .ok (.if_icmp .lt 27, 3) := by decide +kernel
theorem dX2_hearPleas_62 : decode cX2_hearPleas 62 = .ok (.iload_n 2, 1) := by decide +kernel
theorem dX2_hearPleas_63 : decode cX2_hearPleas 63 = .ok (.iconst 3, 1) := by decide +kernel
theorem dX2_hearPleas_64 : decode cX2_hearPleas 64 = .ok (.if_icmp .ge 22, 3) := by decide +kernel
theorem dX2_hearPleas_67 : decode cX2_hearPleas 67 = .ok (.aload_n 0, 1) := by decide +kernel
theorem dX2_hearPleas_68 : decode cX2_hearPleas 68 = .ok (.getfield 18, 3) := by decide +kernel
theorem dX2_hearPleas_71 : decode cX2_hearPleas 71 = .ok (.iconst 0, 1) := by decide +kernel
theorem dX2_hearPleas_72 : decode cX2_hearPleas 72 = .ok (.iload_n 2, 1) := by decide +kernel
theorem dX2_hearPleas_73 : decode cX2_hearPleas 73 = .ok (.iconst 1, 1) := by decide +kernel
theorem dX2_hearPleas_74 : decode cX2_hearPleas 74 = .ok (.iadd, 1) := by decide +kernel
theorem dX2_hearPleas_75 : decode cX2_hearPleas 75 = .ok (.iastore, 1) := by decide +kernel
theorem dX2_hearPleas_76 : decode cX2_hearPleas 76 = .ok (.aload_n 0, 1) := by decide +kernel
theorem dX2_hearPleas_77 : decode cX2_hearPleas 77 = .ok (.dup, 1) := by decide +kernel
theorem dX2_hearPleas_78 : decode cX2_hearPleas 78 = .ok (.getfield 52, 3) := by decide +kernel
theorem dX2_hearPleas_81 : decode cX2_hearPleas 81 = .ok (.iconst 1, 1) := by decide +kernel
theorem dX2_hearPleas_82 : decode cX2_hearPleas 82 = .ok (.iadd, 1) := by decide +kernel
theorem dX2_hearPleas_83 : decode cX2_hearPleas 83 = .ok (.putfield 52, 3) := by decide +kernel
theorem dX2_hearPleas_86 : decode cX2_hearPleas 86 = .ok (.return_, 1) := by decide +kernel
theorem dX2_weightForSlower_0 : decode cX2_weightForSlower 0 = .ok (.iconst 0, 1) := by decide +kernel
theorem dX2_weightForSlower_1 : decode cX2_weightForSlower 1 = .ok (.istore_n 1, 1) := by decide +kernel
theorem dX2_weightForSlower_2 : decode cX2_weightForSlower 2 = .ok (.iconst 0, 1) := by decide +kernel
theorem dX2_weightForSlower_3 : decode cX2_weightForSlower 3 = .ok (.istore_n 2, 1) := by decide +kernel
theorem dX2_weightForSlower_4 : decode cX2_weightForSlower 4 = .ok (.iload_n 2, 1) := by decide +kernel
theorem dX2_weightForSlower_5 : decode cX2_weightForSlower 5 = .ok (.aload_n 0, 1) := by decide +kernel
theorem dX2_weightForSlower_6 : decode cX2_weightForSlower 6 = .ok (.getfield 42, 3) := by decide +kernel
theorem dX2_weightForSlower_9 : decode cX2_weightForSlower 9 = .ok (.if_icmp .ge 76, 3) := by decide +kernel
theorem dX2_weightForSlower_12 : decode cX2_weightForSlower 12 = .ok (.iload_n 2, 1) := by decide +kernel
theorem dX2_weightForSlower_13 : decode cX2_weightForSlower 13 = .ok (.bipush 22, 2) := by decide +kernel
theorem dX2_weightForSlower_15 : decode cX2_weightForSlower 15 = .ok (.imul, 1) := by decide +kernel
theorem dX2_weightForSlower_16 : decode cX2_weightForSlower 16 = .ok (.istore_n 3, 1) := by decide +kernel
theorem dX2_weightForSlower_17 : decode cX2_weightForSlower 17 = .ok (.aload_n 0, 1) := by decide +kernel
theorem dX2_weightForSlower_18 : decode cX2_weightForSlower 18 = .ok (.getfield 21, 3) := by decide +kernel
theorem dX2_weightForSlower_21 : decode cX2_weightForSlower 21 = .ok (.iload_n 3, 1) := by decide +kernel
theorem dX2_weightForSlower_22 : decode cX2_weightForSlower 22 = .ok (.iconst 2, 1) := by decide +kernel
theorem dX2_weightForSlower_23 : decode cX2_weightForSlower 23 = .ok (.iadd, 1) := by decide +kernel
theorem dX2_weightForSlower_24 : decode cX2_weightForSlower 24 = .ok (.iaload, 1) := by decide +kernel
theorem dX2_weightForSlower_25 : decode cX2_weightForSlower 25 = .ok (.ifCond .ne 54, 3) := by decide +kernel
theorem dX2_weightForSlower_28 : decode cX2_weightForSlower 28 = .ok (.aload_n 0, 1) := by decide +kernel
theorem dX2_weightForSlower_29 : decode cX2_weightForSlower 29 = .ok (.getfield 21, 3) := by decide +kernel
theorem dX2_weightForSlower_32 : decode cX2_weightForSlower 32 = .ok (.iload_n 3, 1) := by decide +kernel
theorem dX2_weightForSlower_33 : decode cX2_weightForSlower 33 = .ok (.bipush 9, 2) := by decide +kernel
theorem dX2_weightForSlower_35 : decode cX2_weightForSlower 35 = .ok (.iadd, 1) := by decide +kernel
theorem dX2_weightForSlower_36 : decode cX2_weightForSlower 36 = .ok (.iaload, 1) := by decide +kernel
theorem dX2_weightForSlower_37 : decode cX2_weightForSlower 37 = .ok (.iconst 1, 1) := by decide +kernel
theorem dX2_weightForSlower_38 : decode cX2_weightForSlower 38 = .ok (.if_icmp .ne 17, 3) := by decide +kernel
theorem dX2_weightForSlower_41 : decode cX2_weightForSlower 41 = .ok (.iload_n 1, 1) := by decide +kernel
theorem dX2_weightForSlower_42 : decode cX2_weightForSlower 42 = .ok (.aload_n 0, 1) := by decide +kernel
theorem dX2_weightForSlower_43 : decode cX2_weightForSlower 43 = .ok (.getfield 21, 3) := by decide +kernel
theorem dX2_weightForSlower_46 : decode cX2_weightForSlower 46 = .ok (.iload_n 3, 1) := by decide +kernel
theorem dX2_weightForSlower_47 : decode cX2_weightForSlower 47 = .ok (.iconst 1, 1) := by decide +kernel
theorem dX2_weightForSlower_48 : decode cX2_weightForSlower 48 = .ok (.iadd, 1) := by decide +kernel
theorem dX2_weightForSlower_49 : decode cX2_weightForSlower 49 = .ok (.iaload, 1) := by decide +kernel
theorem dX2_weightForSlower_50 : decode cX2_weightForSlower 50 = .ok (.iadd, 1) := by decide +kernel
theorem dX2_weightForSlower_51 : decode cX2_weightForSlower 51 = .ok (.istore_n 1, 1) := by decide +kernel
theorem dX2_weightForSlower_52 : decode cX2_weightForSlower 52 = .ok (.goto 27, 3) := by decide +kernel
theorem dX2_weightForSlower_55 : decode cX2_weightForSlower 55 = .ok (.aload_n 0, 1) := by decide +kernel
theorem dX2_weightForSlower_56 : decode cX2_weightForSlower 56 = .ok (.getfield 21, 3) := by decide +kernel
theorem dX2_weightForSlower_59 : decode cX2_weightForSlower 59 = .ok (.iload_n 3, 1) := by decide +kernel
theorem dX2_weightForSlower_60 : decode cX2_weightForSlower 60 = .ok (.bipush 9, 2) := by decide +kernel
theorem dX2_weightForSlower_62 : decode cX2_weightForSlower 62 = .ok (.iadd, 1) := by decide +kernel
theorem dX2_weightForSlower_63 : decode cX2_weightForSlower 63 = .ok (.iaload, 1) := by decide +kernel
theorem dX2_weightForSlower_64 : decode cX2_weightForSlower 64 = .ok (.iconst 2, 1) := by decide +kernel
theorem dX2_weightForSlower_65 : decode cX2_weightForSlower 65 = .ok (.if_icmp .ne 14, 3) := by decide +kernel
theorem dX2_weightForSlower_68 : decode cX2_weightForSlower 68 = .ok (.iload_n 1, 1) := by decide +kernel
theorem dX2_weightForSlower_69 : decode cX2_weightForSlower 69 = .ok (.aload_n 0, 1) := by decide +kernel
theorem dX2_weightForSlower_70 : decode cX2_weightForSlower 70 = .ok (.getfield 21, 3) := by decide +kernel
theorem dX2_weightForSlower_73 : decode cX2_weightForSlower 73 = .ok (.iload_n 3, 1) := by decide +kernel
theorem dX2_weightForSlower_74 : decode cX2_weightForSlower 74 = .ok (.iconst 1, 1) := by decide +kernel
theorem dX2_weightForSlower_75 : decode cX2_weightForSlower 75 = .ok (.iadd, 1) := by decide +kernel
theorem dX2_weightForSlower_76 : decode cX2_weightForSlower 76 = .ok (.iaload, 1) := by decide +kernel
theorem dX2_weightForSlower_77 : decode cX2_weightForSlower 77 = .ok (.isub, 1) := by decide +kernel
theorem dX2_weightForSlower_78 : decode cX2_weightForSlower 78 = .ok (.istore_n 1, 1) := by decide +kernel
theorem dX2_weightForSlower_79 : decode cX2_weightForSlower 79 = .ok (.iinc 2 1, 3) := by decide +kernel
theorem dX2_weightForSlower_82 : decode cX2_weightForSlower 82 = .ok (.goto (-78), 3) := by decide +kernel
theorem dX2_weightForSlower_85 : decode cX2_weightForSlower 85 = .ok (.iload_n 1, 1) := by decide +kernel
theorem dX2_weightForSlower_86 : decode cX2_weightForSlower 86 = .ok (.ireturn, 1) := by decide +kernel
theorem dX2_hasBoard_0 : decode cX2_hasBoard 0 = .ok (.iload_n 1, 1) := by decide +kernel
theorem dX2_hasBoard_1 : decode cX2_hasBoard 1 = .ok (.iconst 0, 1) := by decide +kernel
theorem dX2_hasBoard_2 : decode cX2_hasBoard 2 = .ok (.aload_n 0, 1) := by decide +kernel
theorem dX2_hasBoard_3 : decode cX2_hasBoard 3 = .ok (.getfield 42, 3) := by decide +kernel
theorem dX2_hasBoard_6 : decode cX2_hasBoard 6 = .ok (.iconst 1, 1) := by decide +kernel
theorem dX2_hasBoard_7 : decode cX2_hasBoard 7 = .ok (.isub, 1) := by decide +kernel
theorem dX2_hasBoard_8 : decode cX2_hasBoard 8 = .ok (.invokestatic 55, 3) := by decide +kernel
theorem dX2_hasBoard_11 : decode cX2_hasBoard 11 = .ok (.ireturn, 1) := by decide +kernel
theorem dX2_isOnBelt_0 : decode cX2_isOnBelt 0 = .ok (.aload_n 0, 1) := by decide +kernel
theorem dX2_isOnBelt_1 : decode cX2_isOnBelt 1 = .ok (.getfield 21, 3) := by decide +kernel
theorem dX2_isOnBelt_4 : decode cX2_isOnBelt 4 = .ok (.iload_n 1, 1) := by decide +kernel
theorem dX2_isOnBelt_5 : decode cX2_isOnBelt 5 = .ok (.bipush 22, 2) := by decide +kernel
theorem dX2_isOnBelt_7 : decode cX2_isOnBelt 7 = .ok (.imul, 1) := by decide +kernel
theorem dX2_isOnBelt_8 : decode cX2_isOnBelt 8 = .ok (.iconst 2, 1) := by decide +kernel
theorem dX2_isOnBelt_9 : decode cX2_isOnBelt 9 = .ok (.iadd, 1) := by decide +kernel
theorem dX2_isOnBelt_10 : decode cX2_isOnBelt 10 = .ok (.iaload, 1) := by decide +kernel
theorem dX2_isOnBelt_11 : decode cX2_isOnBelt 11 = .ok (.ifCond .ne 7, 3) := by decide +kernel
theorem dX2_isOnBelt_14 : decode cX2_isOnBelt 14 = .ok (.iconst 1, 1) := by decide +kernel
theorem dX2_isOnBelt_15 : decode cX2_isOnBelt 15 = .ok (.goto 4, 3) := by decide +kernel
theorem dX2_isOnBelt_18 : decode cX2_isOnBelt 18 = .ok (.iconst 0, 1) := by decide +kernel
theorem dX2_isOnBelt_19 : decode cX2_isOnBelt 19 = .ok (.ireturn, 1) := by decide +kernel
theorem dX2_isStartFree_0 : decode cX2_isStartFree 0 = .ok (.iconst 0, 1) := by decide +kernel
theorem dX2_isStartFree_1 : decode cX2_isStartFree 1 = .ok (.istore_n 1, 1) := by decide +kernel
theorem dX2_isStartFree_2 : decode cX2_isStartFree 2 = .ok (.iload_n 1, 1) := by decide +kernel
theorem dX2_isStartFree_3 : decode cX2_isStartFree 3 = .ok (.aload_n 0, 1) := by decide +kernel
theorem dX2_isStartFree_4 : decode cX2_isStartFree 4 = .ok (.getfield 42, 3) := by decide +kernel
theorem dX2_isStartFree_7 : decode cX2_isStartFree 7 = .ok (.if_icmp .ge 39, 3) := by decide +kernel
theorem dX2_isStartFree_10 : decode cX2_isStartFree 10 = .ok (.aload_n 0, 1) := by decide +kernel
theorem dX2_isStartFree_11 : decode cX2_isStartFree 11 = .ok (.iload_n 1, 1) := by decide +kernel
theorem dX2_isStartFree_12 : decode cX2_isStartFree 12 = .ok (.invokevirtual 91, 3) := by decide +kernel
theorem dX2_isStartFree_15 : decode cX2_isStartFree 15 = .ok (.ifCond .eq 25, 3) := by decide +kernel
theorem dX2_isStartFree_18 : decode cX2_isStartFree 18 = .ok (.aload_n 0, 1) := by decide +kernel
theorem dX2_isStartFree_19 : decode cX2_isStartFree 19 = .ok (.getfield 21, 3) := by decide +kernel
theorem dX2_isStartFree_22 : decode cX2_isStartFree 22 = .ok (.iload_n 1, 1) := by decide +kernel
theorem dX2_isStartFree_23 : decode cX2_isStartFree 23 = .ok (.bipush 22, 2) := by decide +kernel
theorem dX2_isStartFree_25 : decode cX2_isStartFree 25 = .ok (.imul, 1) := by decide +kernel
theorem dX2_isStartFree_26 : decode cX2_isStartFree 26 = .ok (.iconst 3, 1) := by decide +kernel
theorem dX2_isStartFree_27 : decode cX2_isStartFree 27 = .ok (.iadd, 1) := by decide +kernel
theorem dX2_isStartFree_28 : decode cX2_isStartFree 28 = .ok (.iaload, 1) := by decide +kernel
theorem dX2_isStartFree_29 : decode cX2_isStartFree 29 = .ok (.aload_n 0, 1) := by decide +kernel
theorem dX2_isStartFree_30 : decode cX2_isStartFree 30 = .ok (.getfield 18, 3) := by decide +kernel
theorem dX2_isStartFree_33 : decode cX2_isStartFree 33 = .ok (.iconst 1, 1) := by decide +kernel
theorem dX2_isStartFree_34 : decode cX2_isStartFree 34 = .ok (.iaload, 1) := by decide +kernel
theorem dX2_isStartFree_35 : decode cX2_isStartFree 35 = .ok (.if_icmp .ge 5, 3) := by decide +kernel
theorem dX2_isStartFree_38 : decode cX2_isStartFree 38 = .ok (.iconst 0, 1) := by decide +kernel
theorem dX2_isStartFree_39 : decode cX2_isStartFree 39 = .ok (.ireturn, 1) := by decide +kernel
theorem dX2_isStartFree_40 : decode cX2_isStartFree 40 = .ok (.iinc 1 1, 3) := by decide +kernel
theorem dX2_isStartFree_43 : decode cX2_isStartFree 43 = .ok (.goto (-41), 3) := by decide +kernel
theorem dX2_isStartFree_46 : decode cX2_isStartFree 46 = .ok (.iconst 1, 1) := by decide +kernel
theorem dX2_isStartFree_47 : decode cX2_isStartFree 47 = .ok (.ireturn, 1) := by decide +kernel
theorem dX2_beltLength_0 : decode cX2_beltLength 0 = .ok (.aload_n 0, 1) := by decide +kernel
theorem dX2_beltLength_1 : decode cX2_beltLength 1 = .ok (.bipush 6, 2) := by decide +kernel
theorem dX2_beltLength_3 : decode cX2_beltLength 3 = .ok (.invokevirtual 153, 3) := by decide +kernel
theorem dX2_beltLength_6 : decode cX2_beltLength 6 = .ok (.ireturn, 1) := by decide +kernel
theorem dX2_firstCellOf_0 : decode cX2_firstCellOf 0 = .ok (.iconst 0, 1) := by decide +kernel
theorem dX2_firstCellOf_1 : decode cX2_firstCellOf 1 = .ok (.istore_n 2, 1) := by decide +kernel
theorem dX2_firstCellOf_2 : decode cX2_firstCellOf 2 = .ok (.iconst 0, 1) := by decide +kernel
theorem dX2_firstCellOf_3 : decode cX2_firstCellOf 3 = .ok (.istore_n 3, 1) := by decide +kernel
theorem dX2_firstCellOf_4 : decode cX2_firstCellOf 4 = .ok (.iload_n 3, 1) := by decide +kernel
theorem dX2_firstCellOf_5 : decode cX2_firstCellOf 5 = .ok (.iload_n 1, 1) := by decide +kernel
theorem dX2_firstCellOf_6 : decode cX2_firstCellOf 6 = .ok (.if_icmp .ge 28, 3) := by decide +kernel
theorem dX2_firstCellOf_9 : decode cX2_firstCellOf 9 = .ok (.iload_n 3, 1) := by decide +kernel
theorem dX2_firstCellOf_10 : decode cX2_firstCellOf 10 = .ok (.bipush 6, 2) := by decide +kernel
theorem dX2_firstCellOf_12 : decode cX2_firstCellOf 12 = .ok (.if_icmp .ge 22, 3) := by decide +kernel
theorem dX2_firstCellOf_15 : decode cX2_firstCellOf 15 = .ok (.iload_n 2, 1) := by decide +kernel
theorem dX2_firstCellOf_16 : decode cX2_firstCellOf 16 = .ok (.aload_n 0, 1) := by decide +kernel
theorem dX2_firstCellOf_17 : decode cX2_firstCellOf 17 = .ok (.getfield 9, 3) := by decide +kernel
theorem dX2_firstCellOf_20 : decode cX2_firstCellOf 20 = .ok (.iload_n 3, 1) := by decide +kernel
theorem dX2_firstCellOf_21 : decode cX2_firstCellOf 21 = .ok (.iconst 4, 1) := by decide +kernel
theorem dX2_firstCellOf_22 : decode cX2_firstCellOf 22 = .ok (.imul, 1) := by decide +kernel
theorem dX2_firstCellOf_23 : decode cX2_firstCellOf 23 = .ok (.iconst 0, 1) := by decide +kernel
theorem dX2_firstCellOf_24 : decode cX2_firstCellOf 24 = .ok (.iadd, 1) := by decide +kernel
theorem dX2_firstCellOf_25 : decode cX2_firstCellOf 25 = .ok (.iaload, 1) := by decide +kernel
theorem dX2_firstCellOf_26 : decode cX2_firstCellOf 26 = .ok (.iadd, 1) := by decide +kernel
theorem dX2_firstCellOf_27 : decode cX2_firstCellOf 27 = .ok (.istore_n 2, 1) := by decide +kernel
theorem dX2_firstCellOf_28 : decode cX2_firstCellOf 28 = .ok (.iinc 3 1, 3) := by decide +kernel
theorem dX2_firstCellOf_31 : decode cX2_firstCellOf 31 = .ok (.goto (-27), 3) := by decide +kernel
theorem dX2_firstCellOf_34 : decode cX2_firstCellOf 34 = .ok (.iload_n 2, 1) := by decide +kernel
theorem dX2_firstCellOf_35 : decode cX2_firstCellOf 35 = .ok (.ireturn, 1) := by decide +kernel
theorem dX2_zoneAt_0 : decode cX2_zoneAt 0 = .ok (.iconst 0, 1) := by decide +kernel
theorem dX2_zoneAt_1 : decode cX2_zoneAt 1 = .ok (.istore_n 2, 1) := by decide +kernel
theorem dX2_zoneAt_2 : decode cX2_zoneAt 2 = .ok (.iconst 0, 1) := by decide +kernel
theorem dX2_zoneAt_3 : decode cX2_zoneAt 3 = .ok (.istore_n 3, 1) := by decide +kernel
theorem dX2_zoneAt_4 : decode cX2_zoneAt 4 = .ok (.iload_n 3, 1) := by decide +kernel
theorem dX2_zoneAt_5 : decode cX2_zoneAt 5 = .ok (.iconst 5, 1) := by decide +kernel
theorem dX2_zoneAt_6 : decode cX2_zoneAt 6 = .ok (.if_icmp .ge 29, 3) := by decide +kernel
theorem dX2_zoneAt_9 : decode cX2_zoneAt 9 = .ok (.iload_n 2, 1) := by decide +kernel
theorem dX2_zoneAt_10 : decode cX2_zoneAt 10 = .ok (.aload_n 0, 1) := by decide +kernel
theorem dX2_zoneAt_11 : decode cX2_zoneAt 11 = .ok (.getfield 9, 3) := by decide +kernel
theorem dX2_zoneAt_14 : decode cX2_zoneAt 14 = .ok (.iload_n 3, 1) := by decide +kernel
theorem dX2_zoneAt_15 : decode cX2_zoneAt 15 = .ok (.iconst 4, 1) := by decide +kernel
theorem dX2_zoneAt_16 : decode cX2_zoneAt 16 = .ok (.imul, 1) := by decide +kernel
theorem dX2_zoneAt_17 : decode cX2_zoneAt 17 = .ok (.iconst 0, 1) := by decide +kernel
theorem dX2_zoneAt_18 : decode cX2_zoneAt 18 = .ok (.iadd, 1) := by decide +kernel
theorem dX2_zoneAt_19 : decode cX2_zoneAt 19 = .ok (.iaload, 1) := by decide +kernel
theorem dX2_zoneAt_20 : decode cX2_zoneAt 20 = .ok (.iadd, 1) := by decide +kernel
theorem dX2_zoneAt_21 : decode cX2_zoneAt 21 = .ok (.istore_n 2, 1) := by decide +kernel
theorem dX2_zoneAt_22 : decode cX2_zoneAt 22 = .ok (.iload_n 1, 1) := by decide +kernel
theorem dX2_zoneAt_23 : decode cX2_zoneAt 23 = .ok (.iload_n 2, 1) := by decide +kernel
theorem dX2_zoneAt_24 : decode cX2_zoneAt 24 = .ok (.if_icmp .ge 5, 3) := by decide +kernel
theorem dX2_zoneAt_27 : decode cX2_zoneAt 27 = .ok (.iload_n 3, 1) := by decide +kernel
theorem dX2_zoneAt_28 : decode cX2_zoneAt 28 = .ok (.ireturn, 1) := by decide +kernel
theorem dX2_zoneAt_29 : decode cX2_zoneAt 29 = .ok (.iinc 3 1, 3) := by decide +kernel
theorem dX2_zoneAt_32 : decode cX2_zoneAt 32 = .ok (.goto (-28), 3) := by decide +kernel
theorem dX2_zoneAt_35 : decode cX2_zoneAt 35 = .ok (.iconst 5, 1) := by decide +kernel
theorem dX2_zoneAt_36 : decode cX2_zoneAt 36 = .ok (.ireturn, 1) := by decide +kernel
theorem dX2_boardsThatAre_0 : decode cX2_boardsThatAre 0 = .ok (.iconst 0, 1) := by decide +kernel
theorem dX2_boardsThatAre_1 : decode cX2_boardsThatAre 1 = .ok (.istore_n 2, 1) := by decide +kernel
theorem dX2_boardsThatAre_2 : decode cX2_boardsThatAre 2 = .ok (.iconst 0, 1) := by decide +kernel
theorem dX2_boardsThatAre_3 : decode cX2_boardsThatAre 3 = .ok (.istore_n 3, 1) := by decide +kernel
theorem dX2_boardsThatAre_4 : decode cX2_boardsThatAre 4 = .ok (.iload_n 3, 1) := by decide +kernel
theorem dX2_boardsThatAre_5 : decode cX2_boardsThatAre 5 = .ok (.aload_n 0, 1) := by decide +kernel
theorem dX2_boardsThatAre_6 : decode cX2_boardsThatAre 6 = .ok (.getfield 42, 3) := by decide +kernel
theorem dX2_boardsThatAre_9 : decode cX2_boardsThatAre 9 = .ok (.if_icmp .ge 27, 3) := by decide +kernel
theorem dX2_boardsThatAre_12 : decode cX2_boardsThatAre 12 = .ok (.aload_n 0, 1) := by decide +kernel
theorem dX2_boardsThatAre_13 : decode cX2_boardsThatAre 13 = .ok (.getfield 21, 3) := by decide +kernel
theorem dX2_boardsThatAre_16 : decode cX2_boardsThatAre 16 = .ok (.iload_n 3, 1) := by decide +kernel
theorem dX2_boardsThatAre_17 : decode cX2_boardsThatAre 17 = .ok (.bipush 22, 2) := by decide +kernel
theorem dX2_boardsThatAre_19 : decode cX2_boardsThatAre 19 = .ok (.imul, 1) := by decide +kernel
theorem dX2_boardsThatAre_20 : decode cX2_boardsThatAre 20 = .ok (.iconst 2, 1) := by decide +kernel
theorem dX2_boardsThatAre_21 : decode cX2_boardsThatAre 21 = .ok (.iadd, 1) := by decide +kernel
theorem dX2_boardsThatAre_22 : decode cX2_boardsThatAre 22 = .ok (.iaload, 1) := by decide +kernel
theorem dX2_boardsThatAre_23 : decode cX2_boardsThatAre 23 = .ok (.iload_n 1, 1) := by decide +kernel
theorem dX2_boardsThatAre_24 : decode cX2_boardsThatAre 24 = .ok (.if_icmp .ne 6, 3) := by decide +kernel
theorem dX2_boardsThatAre_27 : decode cX2_boardsThatAre 27 = .ok (.iinc 2 1, 3) := by decide +kernel
theorem dX2_boardsThatAre_30 : decode cX2_boardsThatAre 30 = .ok (.iinc 3 1, 3) := by decide +kernel
theorem dX2_boardsThatAre_33 : decode cX2_boardsThatAre 33 = .ok (.goto (-29), 3) := by decide +kernel
theorem dX2_boardsThatAre_36 : decode cX2_boardsThatAre 36 = .ok (.iload_n 2, 1) := by decide +kernel
theorem dX2_boardsThatAre_37 : decode cX2_boardsThatAre 37 = .ok (.ireturn, 1) := by decide +kernel
theorem dX2_boardsLeftFaultless_0 : decode cX2_boardsLeftFaultless 0 = .ok (.iconst 0, 1) := by decide +kernel
theorem dX2_boardsLeftFaultless_1 : decode cX2_boardsLeftFaultless 1 = .ok (.istore_n 1, 1) := by decide +kernel
theorem dX2_boardsLeftFaultless_2 : decode cX2_boardsLeftFaultless 2 = .ok (.iconst 0, 1) := by decide +kernel
theorem dX2_boardsLeftFaultless_3 : decode cX2_boardsLeftFaultless 3 = .ok (.istore_n 2, 1) := by decide +kernel
theorem dX2_boardsLeftFaultless_4 : decode cX2_boardsLeftFaultless 4 = .ok (.iload_n 2, 1) := by decide +kernel
theorem dX2_boardsLeftFaultless_5 : decode cX2_boardsLeftFaultless 5 = .ok (.aload_n 0, 1) := by decide +kernel
theorem dX2_boardsLeftFaultless_6 : decode cX2_boardsLeftFaultless 6 = .ok (.getfield 42, 3) := by decide +kernel
theorem dX2_boardsLeftFaultless_9 : decode cX2_boardsLeftFaultless 9 = .ok (.if_icmp .ge 41, 3) := by decide +kernel
theorem dX2_boardsLeftFaultless_12 : decode cX2_boardsLeftFaultless 12 = .ok (.iload_n 2, 1) := by decide +kernel
theorem dX2_boardsLeftFaultless_13 : decode cX2_boardsLeftFaultless 13 = .ok (.bipush 22, 2) := by decide +kernel
theorem dX2_boardsLeftFaultless_15 : decode cX2_boardsLeftFaultless 15 = .ok (.imul, 1) := by decide +kernel
theorem dX2_boardsLeftFaultless_16 : decode cX2_boardsLeftFaultless 16 = .ok (.istore_n 3, 1) := by decide +kernel
theorem dX2_boardsLeftFaultless_17 : decode cX2_boardsLeftFaultless 17 = .ok (.aload_n 0, 1) := by decide +kernel
theorem dX2_boardsLeftFaultless_18 : decode cX2_boardsLeftFaultless 18 = .ok (.getfield 21, 3) := by decide +kernel
theorem dX2_boardsLeftFaultless_21 : decode cX2_boardsLeftFaultless 21 = .ok (.iload_n 3, 1) := by decide +kernel
theorem dX2_boardsLeftFaultless_22 : decode cX2_boardsLeftFaultless 22 = .ok (.iconst 2, 1) := by decide +kernel
theorem dX2_boardsLeftFaultless_23 : decode cX2_boardsLeftFaultless 23 = .ok (.iadd, 1) := by decide +kernel
theorem dX2_boardsLeftFaultless_24 : decode cX2_boardsLeftFaultless 24 = .ok (.iaload, 1) := by decide +kernel
theorem dX2_boardsLeftFaultless_25 : decode cX2_boardsLeftFaultless 25 = .ok (.iconst 1, 1) := by decide +kernel
theorem dX2_boardsLeftFaultless_26 : decode cX2_boardsLeftFaultless 26 = .ok (.if_icmp .ne 18, 3) := by decide +kernel
theorem dX2_boardsLeftFaultless_29 : decode cX2_boardsLeftFaultless 29 = .ok (.aload_n 0, 1) := by decide +kernel
theorem dX2_boardsLeftFaultless_30 : decode cX2_boardsLeftFaultless 30 = .ok (.getfield 21, 3) := by decide +kernel
theorem dX2_boardsLeftFaultless_33 : decode cX2_boardsLeftFaultless 33 = .ok (.iload_n 3, 1) := by decide +kernel
theorem dX2_boardsLeftFaultless_34 : decode cX2_boardsLeftFaultless 34 = .ok (.bipush 8, 2) := by decide +kernel
theorem dX2_boardsLeftFaultless_36 : decode cX2_boardsLeftFaultless 36 = .ok (.iadd, 1) := by decide +kernel
theorem dX2_boardsLeftFaultless_37 : decode cX2_boardsLeftFaultless 37 = .ok (.iaload, 1) := by decide +kernel
theorem dX2_boardsLeftFaultless_38 : decode cX2_boardsLeftFaultless 38 = .ok (.ifCond .ne 6, 3) := by decide +kernel
theorem dX2_boardsLeftFaultless_41 : decode cX2_boardsLeftFaultless 41 = .ok (.iinc 1 1, 3) := by decide +kernel
theorem dX2_boardsLeftFaultless_44 : decode cX2_boardsLeftFaultless 44 = .ok (.iinc 2 1, 3) := by decide +kernel
theorem dX2_boardsLeftFaultless_47 : decode cX2_boardsLeftFaultless 47 = .ok (.goto (-43), 3) := by decide +kernel
theorem dX2_boardsLeftFaultless_50 : decode cX2_boardsLeftFaultless 50 = .ok (.iload_n 1, 1) := by decide +kernel
theorem dX2_boardsLeftFaultless_51 : decode cX2_boardsLeftFaultless 51 = .ok (.ireturn, 1) := by decide +kernel
theorem dX2_boardsIn_0 : decode cX2_boardsIn 0 = .ok (.iconst 0, 1) := by decide +kernel
theorem dX2_boardsIn_1 : decode cX2_boardsIn 1 = .ok (.istore_n 2, 1) := by decide +kernel
theorem dX2_boardsIn_2 : decode cX2_boardsIn 2 = .ok (.iconst 0, 1) := by decide +kernel
theorem dX2_boardsIn_3 : decode cX2_boardsIn 3 = .ok (.istore_n 3, 1) := by decide +kernel
theorem dX2_boardsIn_4 : decode cX2_boardsIn 4 = .ok (.iload_n 3, 1) := by decide +kernel
theorem dX2_boardsIn_5 : decode cX2_boardsIn 5 = .ok (.aload_n 0, 1) := by decide +kernel
theorem dX2_boardsIn_6 : decode cX2_boardsIn 6 = .ok (.getfield 42, 3) := by decide +kernel
theorem dX2_boardsIn_9 : decode cX2_boardsIn 9 = .ok (.if_icmp .ge 36, 3) := by decide +kernel
theorem dX2_boardsIn_12 : decode cX2_boardsIn 12 = .ok (.aload_n 0, 1) := by decide +kernel
theorem dX2_boardsIn_13 : decode cX2_boardsIn 13 = .ok (.iload_n 3, 1) := by decide +kernel
theorem dX2_boardsIn_14 : decode cX2_boardsIn 14 = .ok (.invokevirtual 91, 3) := by decide +kernel
theorem dX2_boardsIn_17 : decode cX2_boardsIn 17 = .ok (.ifCond .eq 22, 3) := by decide +kernel
theorem dX2_boardsIn_20 : decode cX2_boardsIn 20 = .ok (.aload_n 0, 1) := by decide +kernel
theorem dX2_boardsIn_21 : decode cX2_boardsIn 21 = .ok (.getfield 21, 3) := by decide +kernel
theorem dX2_boardsIn_24 : decode cX2_boardsIn 24 = .ok (.iload_n 3, 1) := by decide +kernel
theorem dX2_boardsIn_25 : decode cX2_boardsIn 25 = .ok (.bipush 22, 2) := by decide +kernel
theorem dX2_boardsIn_27 : decode cX2_boardsIn 27 = .ok (.imul, 1) := by decide +kernel
theorem dX2_boardsIn_28 : decode cX2_boardsIn 28 = .ok (.bipush 11, 2) := by decide +kernel
theorem dX2_boardsIn_30 : decode cX2_boardsIn 30 = .ok (.iadd, 1) := by decide +kernel
theorem dX2_boardsIn_31 : decode cX2_boardsIn 31 = .ok (.iaload, 1) := by decide +kernel
theorem dX2_boardsIn_32 : decode cX2_boardsIn 32 = .ok (.iload_n 1, 1) := by decide +kernel
theorem dX2_boardsIn_33 : decode cX2_boardsIn 33 = .ok (.if_icmp .ne 6, 3) := by decide +kernel
theorem dX2_boardsIn_36 : decode cX2_boardsIn 36 = .ok (.iinc 2 1, 3) := by decide +kernel
theorem dX2_boardsIn_39 : decode cX2_boardsIn 39 = .ok (.iinc 3 1, 3) := by decide +kernel
theorem dX2_boardsIn_42 : decode cX2_boardsIn 42 = .ok (.goto (-38), 3) := by decide +kernel
theorem dX2_boardsIn_45 : decode cX2_boardsIn 45 = .ok (.iload_n 2, 1) := by decide +kernel
theorem dX2_boardsIn_46 : decode cX2_boardsIn 46 = .ok (.ireturn, 1) := by decide +kernel
theorem dX2_weightIn_0 : decode cX2_weightIn 0 = .ok (.iconst 0, 1) := by decide +kernel
theorem dX2_weightIn_1 : decode cX2_weightIn 1 = .ok (.istore_n 2, 1) := by decide +kernel
theorem dX2_weightIn_2 : decode cX2_weightIn 2 = .ok (.iconst 0, 1) := by decide +kernel
theorem dX2_weightIn_3 : decode cX2_weightIn 3 = .ok (.istore_n 3, 1) := by decide +kernel
theorem dX2_weightIn_4 : decode cX2_weightIn 4 = .ok (.iload_n 3, 1) := by decide +kernel
theorem dX2_weightIn_5 : decode cX2_weightIn 5 = .ok (.aload_n 0, 1) := by decide +kernel
theorem dX2_weightIn_6 : decode cX2_weightIn 6 = .ok (.getfield 42, 3) := by decide +kernel
theorem dX2_weightIn_9 : decode cX2_weightIn 9 = .ok (.if_icmp .ge 47, 3) := by decide +kernel
theorem dX2_weightIn_12 : decode cX2_weightIn 12 = .ok (.aload_n 0, 1) := by decide +kernel
theorem dX2_weightIn_13 : decode cX2_weightIn 13 = .ok (.iload_n 3, 1) := by decide +kernel
theorem dX2_weightIn_14 : decode cX2_weightIn 14 = .ok (.invokevirtual 91, 3) := by decide +kernel
theorem dX2_weightIn_17 : decode cX2_weightIn 17 = .ok (.ifCond .eq 33, 3) := by decide +kernel
theorem dX2_weightIn_20 : decode cX2_weightIn 20 = .ok (.aload_n 0, 1) := by decide +kernel
theorem dX2_weightIn_21 : decode cX2_weightIn 21 = .ok (.getfield 21, 3) := by decide +kernel
theorem dX2_weightIn_24 : decode cX2_weightIn 24 = .ok (.iload_n 3, 1) := by decide +kernel
theorem dX2_weightIn_25 : decode cX2_weightIn 25 = .ok (.bipush 22, 2) := by decide +kernel
theorem dX2_weightIn_27 : decode cX2_weightIn 27 = .ok (.imul, 1) := by decide +kernel
theorem dX2_weightIn_28 : decode cX2_weightIn 28 = .ok (.bipush 11, 2) := by decide +kernel
theorem dX2_weightIn_30 : decode cX2_weightIn 30 = .ok (.iadd, 1) := by decide +kernel
theorem dX2_weightIn_31 : decode cX2_weightIn 31 = .ok (.iaload, 1) := by decide +kernel
theorem dX2_weightIn_32 : decode cX2_weightIn 32 = .ok (.iload_n 1, 1) := by decide +kernel
theorem dX2_weightIn_33 : decode cX2_weightIn 33 = .ok (.if_icmp .ne 17, 3) := by decide +kernel
theorem dX2_weightIn_36 : decode cX2_weightIn 36 = .ok (.iload_n 2, 1) := by decide +kernel
theorem dX2_weightIn_37 : decode cX2_weightIn 37 = .ok (.aload_n 0, 1) := by decide +kernel
theorem dX2_weightIn_38 : decode cX2_weightIn 38 = .ok (.getfield 21, 3) := by decide +kernel
theorem dX2_weightIn_41 : decode cX2_weightIn 41 = .ok (.iload_n 3, 1) := by decide +kernel
theorem dX2_weightIn_42 : decode cX2_weightIn 42 = .ok (.bipush 22, 2) := by decide +kernel
theorem dX2_weightIn_44 : decode cX2_weightIn 44 = .ok (.imul, 1) := by decide +kernel
theorem dX2_weightIn_45 : decode cX2_weightIn 45 = .ok (.iconst 1, 1) := by decide +kernel
theorem dX2_weightIn_46 : decode cX2_weightIn 46 = .ok (.iadd, 1) := by decide +kernel
theorem dX2_weightIn_47 : decode cX2_weightIn 47 = .ok (.iaload, 1) := by decide +kernel
theorem dX2_weightIn_48 : decode cX2_weightIn 48 = .ok (.iadd, 1) := by decide +kernel
theorem dX2_weightIn_49 : decode cX2_weightIn 49 = .ok (.istore_n 2, 1) := by decide +kernel
theorem dX2_weightIn_50 : decode cX2_weightIn 50 = .ok (.iinc 3 1, 3) := by decide +kernel
theorem dX2_weightIn_53 : decode cX2_weightIn 53 = .ok (.goto (-49), 3) := by decide +kernel
theorem dX2_weightIn_56 : decode cX2_weightIn 56 = .ok (.iload_n 2, 1) := by decide +kernel
theorem dX2_weightIn_57 : decode cX2_weightIn 57 = .ok (.ireturn, 1) := by decide +kernel
theorem dX2_boardsWithFault_0 : decode cX2_boardsWithFault 0 = .ok (.iconst 0, 1) := by decide +kernel
theorem dX2_boardsWithFault_1 : decode cX2_boardsWithFault 1 = .ok (.istore_n 3, 1) := by decide +kernel
theorem dX2_boardsWithFault_2 : decode cX2_boardsWithFault 2 = .ok (.iconst 0, 1) := by decide +kernel
theorem dX2_boardsWithFault_3 : decode cX2_boardsWithFault 3 = .ok (.istore 4, 2) := by decide +kernel
theorem dX2_boardsWithFault_5 : decode cX2_boardsWithFault 5 = .ok (.iload 4, 2) := by decide +kernel
theorem dX2_boardsWithFault_7 : decode cX2_boardsWithFault 7 = .ok (.aload_n 0, 1) := by decide +kernel
theorem dX2_boardsWithFault_8 : decode cX2_boardsWithFault 8 = .ok (.getfield 42, 3) := by decide +kernel
theorem dX2_boardsWithFault_11 : decode cX2_boardsWithFault 11 = .ok (.if_icmp .ge 31, 3) := by decide +kernel
theorem dX2_boardsWithFault_14 : decode cX2_boardsWithFault 14 = .ok (.aload_n 0, 1) := by decide +kernel
theorem dX2_boardsWithFault_15 : decode cX2_boardsWithFault 15 = .ok (.getfield 21, 3) := by decide +kernel
theorem dX2_boardsWithFault_18 : decode cX2_boardsWithFault 18 = .ok (.iload 4, 2) := by decide +kernel
theorem dX2_boardsWithFault_20 : decode cX2_boardsWithFault 20 = .ok (.bipush 22, 2) := by decide +kernel
theorem dX2_boardsWithFault_22 : decode cX2_boardsWithFault 22 = .ok (.imul, 1) := by decide +kernel
theorem dX2_boardsWithFault_23 : decode cX2_boardsWithFault 23 = .ok (.bipush 12, 2) := by decide +kernel
theorem dX2_boardsWithFault_25 : decode cX2_boardsWithFault 25 = .ok (.iadd, 1) := by decide +kernel
theorem dX2_boardsWithFault_26 : decode cX2_boardsWithFault 26 = .ok (.iload_n 1, 1) := by decide +kernel
theorem dX2_boardsWithFault_27 : decode cX2_boardsWithFault 27 = .ok (.iadd, 1) := by decide +kernel
theorem dX2_boardsWithFault_28 : decode cX2_boardsWithFault 28 = .ok (.iaload, 1) := by decide +kernel
theorem dX2_boardsWithFault_29 : decode cX2_boardsWithFault 29 = .ok (.iload_n 2, 1) := by decide +kernel
theorem dX2_boardsWithFault_30 : decode cX2_boardsWithFault 30 = .ok (.if_icmp .ne 6, 3) := by decide +kernel
theorem dX2_boardsWithFault_33 : decode cX2_boardsWithFault 33 = .ok (.iinc 3 1, 3) := by decide +kernel
theorem dX2_boardsWithFault_36 : decode cX2_boardsWithFault 36 = .ok (.iinc 4 1, 3) := by decide +kernel
theorem dX2_boardsWithFault_39 : decode cX2_boardsWithFault 39 = .ok (.goto (-34), 3) := by decide +kernel
theorem dX2_boardsWithFault_42 : decode cX2_boardsWithFault 42 = .ok (.iload_n 3, 1) := by decide +kernel
theorem dX2_boardsWithFault_43 : decode cX2_boardsWithFault 43 = .ok (.ireturn, 1) := by decide +kernel
theorem dX2_setOfFaultCells_0 : decode cX2_setOfFaultCells 0 = .ok (.lconst 0, 1) := by decide +kernel
theorem dX2_setOfFaultCells_1 : decode cX2_setOfFaultCells 1 = .ok (.lstore_n 1, 1) := by decide +kernel
theorem dX2_setOfFaultCells_2 : decode cX2_setOfFaultCells 2 = .ok (.iconst 0, 1) := by decide +kernel
theorem dX2_setOfFaultCells_3 : decode cX2_setOfFaultCells 3 = .ok (.istore_n 3, 1) := by decide +kernel
theorem dX2_setOfFaultCells_4 : decode cX2_setOfFaultCells 4 = .ok (.iload_n 3, 1) := by decide +kernel
theorem dX2_setOfFaultCells_5 : decode cX2_setOfFaultCells 5 = .ok (.aload_n 0, 1) := by decide +kernel
theorem dX2_setOfFaultCells_6 : decode cX2_setOfFaultCells 6 = .ok (.getfield 42, 3) := by decide +kernel
theorem dX2_setOfFaultCells_9 : decode cX2_setOfFaultCells 9 = .ok (.if_icmp .ge 56, 3) := by decide +kernel
theorem dX2_setOfFaultCells_12 : decode cX2_setOfFaultCells 12 = .ok (.iconst 0, 1) := by decide +kernel
theorem dX2_setOfFaultCells_13 : decode cX2_setOfFaultCells 13 = .ok (.istore 4, 2) := by decide +kernel
theorem dX2_setOfFaultCells_15 : decode cX2_setOfFaultCells 15 = .ok (.iload 4, 2) := by decide +kernel
theorem dX2_setOfFaultCells_17 : decode cX2_setOfFaultCells 17 = .ok (.iconst 5, 1) := by decide +kernel
theorem dX2_setOfFaultCells_18 : decode cX2_setOfFaultCells 18 = .ok (.if_icmp .ge 41, 3) := by decide +kernel
theorem dX2_setOfFaultCells_21 : decode cX2_setOfFaultCells 21 = .ok (.aload_n 0, 1) := by decide +kernel
theorem dX2_setOfFaultCells_22 : decode cX2_setOfFaultCells 22 = .ok (.getfield 21, 3) := by decide +kernel
theorem dX2_setOfFaultCells_25 : decode cX2_setOfFaultCells 25 = .ok (.iload_n 3, 1) := by decide +kernel
theorem dX2_setOfFaultCells_26 : decode cX2_setOfFaultCells 26 = .ok (.bipush 22, 2) := by decide +kernel
theorem dX2_setOfFaultCells_28 : decode cX2_setOfFaultCells 28 = .ok (.imul, 1) := by decide +kernel
theorem dX2_setOfFaultCells_29 : decode cX2_setOfFaultCells 29 = .ok (.bipush 12, 2) := by decide +kernel
theorem dX2_setOfFaultCells_31 : decode cX2_setOfFaultCells 31 = .ok (.iadd, 1) := by decide +kernel
theorem dX2_setOfFaultCells_32 : decode cX2_setOfFaultCells 32 = .ok (.iload 4, 2) := by decide +kernel
theorem dX2_setOfFaultCells_34 : decode cX2_setOfFaultCells 34 = .ok (.iadd, 1) := by decide +kernel
theorem dX2_setOfFaultCells_35 : decode cX2_setOfFaultCells 35 = .ok (.iaload, 1) := by decide +kernel
theorem dX2_setOfFaultCells_36 : decode cX2_setOfFaultCells 36 = .ok (.istore 5, 2) := by decide +kernel
theorem dX2_setOfFaultCells_38 : decode cX2_setOfFaultCells 38 = .ok (.iload 5, 2) := by decide +kernel
theorem dX2_setOfFaultCells_40 : decode cX2_setOfFaultCells 40 = .ok (.sipush (-1009), 3) := by decide +kernel
theorem dX2_setOfFaultCells_43 : decode cX2_setOfFaultCells 43 = .ok (.if_icmp .eq 10, 3) := by decide +kernel
theorem dX2_setOfFaultCells_46 : decode cX2_setOfFaultCells 46 = .ok (.lload_n 1, 1) := by decide +kernel
theorem dX2_setOfFaultCells_47 : decode cX2_setOfFaultCells 47 = .ok (.lconst 1, 1) := by decide +kernel
theorem dX2_setOfFaultCells_48 : decode cX2_setOfFaultCells 48 = .ok (.iload 5, 2) := by decide +kernel
theorem dX2_setOfFaultCells_50 : decode cX2_setOfFaultCells 50 = .ok (.lshl, 1) := by decide +kernel
theorem dX2_setOfFaultCells_51 : decode cX2_setOfFaultCells 51 = .ok (.lor, 1) := by decide +kernel
theorem dX2_setOfFaultCells_52 : decode cX2_setOfFaultCells 52 = .ok (.lstore_n 1, 1) := by decide +kernel
theorem dX2_setOfFaultCells_53 : decode cX2_setOfFaultCells 53 = .ok (.iinc 4 1, 3) := by decide +kernel
theorem dX2_setOfFaultCells_56 : decode cX2_setOfFaultCells 56 = .ok (.goto (-41), 3) := by decide +kernel
theorem dX2_setOfFaultCells_59 : decode cX2_setOfFaultCells 59 = .ok (.iinc 3 1, 3) := by decide +kernel
theorem dX2_setOfFaultCells_62 : decode cX2_setOfFaultCells 62 = .ok (.goto (-58), 3) := by decide +kernel
theorem dX2_setOfFaultCells_65 : decode cX2_setOfFaultCells 65 = .ok (.lload_n 1, 1) := by decide +kernel
theorem dX2_setOfFaultCells_66 : decode cX2_setOfFaultCells 66 = .ok (.lreturn, 1) := by decide +kernel
theorem dX5_init_0 : decode cX5_init 0 = .ok (.aload_n 0, 1) := by decide +kernel
theorem dX5_init_1 : decode cX5_init 1 = .ok (.invokespecial 1, 3) := by decide +kernel
theorem dX5_init_4 : decode cX5_init 4 = .ok (.aload_n 0, 1) := by decide +kernel
theorem dX5_init_5 : decode cX5_init 5 = .ok (.sipush 13445, 3) := by decide +kernel
theorem dX5_init_8 : decode cX5_init 8 = .ok (.newarray .int, 2) := by decide +kernel
theorem dX5_init_10 : decode cX5_init 10 = .ok (.putfield 7, 3) := by decide +kernel
theorem dX5_init_13 : decode cX5_init 13 = .ok (.aload_n 0, 1) := by decide +kernel
theorem dX5_init_14 : decode cX5_init 14 = .ok (.bipush 100, 2) := by decide +kernel
theorem dX5_init_16 : decode cX5_init 16 = .ok (.newarray .int, 2) := by decide +kernel
theorem dX5_init_18 : decode cX5_init 18 = .ok (.putfield 13, 3) := by decide +kernel
theorem dX5_init_21 : decode cX5_init 21 = .ok (.iconst 0, 1) := by decide +kernel
theorem dX5_init_22 : decode cX5_init 22 = .ok (.istore_n 1, 1) := by decide +kernel
theorem dX5_init_23 : decode cX5_init 23 = .ok (.iload_n 1, 1) := by decide +kernel
theorem dX5_init_24 : decode cX5_init 24 = .ok (.bipush 6, 2) := by decide +kernel
theorem dX5_init_26 : decode cX5_init 26 = .ok (.if_icmp .ge 109, 3) := by decide +kernel
theorem dX5_init_29 : decode cX5_init 29 = .ok (.iload_n 1, 1) := by decide +kernel
theorem dX5_init_30 : decode cX5_init 30 = .ok (.ifCond .ne 8, 3) := by decide +kernel
theorem dX5_init_33 : decode cX5_init 33 = .ok (.bipush 120, 2) := by decide +kernel
theorem dX5_init_35 : decode cX5_init 35 = .ok (.goto 49, 3) := by decide +kernel
theorem dX5_init_38 : decode cX5_init 38 = .ok (.iload_n 1, 1) := by decide +kernel
theorem dX5_init_39 : decode cX5_init 39 = .ok (.iconst 1, 1) := by decide +kernel
theorem dX5_init_40 : decode cX5_init 40 = .ok (.if_icmp .ne 9, 3) := by decide +kernel
theorem dX5_init_43 : decode cX5_init 43 = .ok (.sipush 160, 3) := by decide +kernel
theorem dX5_init_46 : decode cX5_init 46 = .ok (.goto 38, 3) := by decide +kernel
theorem dX5_init_49 : decode cX5_init 49 = .ok (.iload_n 1, 1) := by decide +kernel
theorem dX5_init_50 : decode cX5_init 50 = .ok (.iconst 2, 1) := by decide +kernel
theorem dX5_init_51 : decode cX5_init 51 = .ok (.if_icmp .ne 9, 3) := by decide +kernel
theorem dX5_init_54 : decode cX5_init 54 = .ok (.sipush 180, 3) := by decide +kernel
theorem dX5_init_57 : decode cX5_init 57 = .ok (.goto 27, 3) := by decide +kernel
theorem dX5_init_60 : decode cX5_init 60 = .ok (.iload_n 1, 1) := by decide +kernel
theorem dX5_init_61 : decode cX5_init 61 = .ok (.iconst 3, 1) := by decide +kernel
theorem dX5_init_62 : decode cX5_init 62 = .ok (.if_icmp .ne 9, 3) := by decide +kernel
theorem dX5_init_65 : decode cX5_init 65 = .ok (.sipush 240, 3) := by decide +kernel
theorem dX5_init_68 : decode cX5_init 68 = .ok (.goto 16, 3) := by decide +kernel
theorem dX5_init_71 : decode cX5_init 71 = .ok (.iload_n 1, 1) := by decide +kernel
theorem dX5_init_72 : decode cX5_init 72 = .ok (.iconst 4, 1) := by decide +kernel
theorem dX5_init_73 : decode cX5_init 73 = .ok (.if_icmp .ne 9, 3) := by decide +kernel
theorem dX5_init_76 : decode cX5_init 76 = .ok (.sipush 230, 3) := by decide +kernel
theorem dX5_init_79 : decode cX5_init 79 = .ok (.goto 5, 3) := by decide +kernel
theorem dX5_init_82 : decode cX5_init 82 = .ok (.bipush 60, 2) := by decide +kernel
theorem dX5_init_84 : decode cX5_init 84 = .ok (.istore_n 2, 1) := by decide +kernel
theorem dX5_init_85 : decode cX5_init 85 = .ok (.aload_n 0, 1) := by decide +kernel
theorem dX5_init_86 : decode cX5_init 86 = .ok (.getfield 7, 3) := by decide +kernel
theorem dX5_init_89 : decode cX5_init 89 = .ok (.iload_n 1, 1) := by decide +kernel
theorem dX5_init_90 : decode cX5_init 90 = .ok (.iconst 0, 1) := by decide +kernel
theorem dX5_init_91 : decode cX5_init 91 = .ok (.invokestatic 16, 3) := by decide +kernel
theorem dX5_init_94 : decode cX5_init 94 = .ok (.iconst 4, 1) := by decide +kernel
theorem dX5_init_95 : decode cX5_init 95 = .ok (.iastore, 1) := by decide +kernel
theorem dX5_init_96 : decode cX5_init 96 = .ok (.aload_n 0, 1) := by decide +kernel
theorem dX5_init_97 : decode cX5_init 97 = .ok (.getfield 7, 3) := by decide +kernel
theorem dX5_init_100 : decode cX5_init 100 = .ok (.iload_n 1, 1) := by decide +kernel
theorem dX5_init_101 : decode cX5_init 101 = .ok (.iconst 1, 1) := by decide +kernel
theorem dX5_init_102 : decode cX5_init 102 = .ok (.invokestatic 16, 3) := by decide +kernel
theorem dX5_init_105 : decode cX5_init 105 = .ok (.iload_n 2, 1) := by decide +kernel
theorem dX5_init_106 : decode cX5_init 106 = .ok (.iastore, 1) := by decide +kernel
theorem dX5_init_107 : decode cX5_init 107 = .ok (.aload_n 0, 1) := by decide +kernel
theorem dX5_init_108 : decode cX5_init 108 = .ok (.getfield 7, 3) := by decide +kernel
theorem dX5_init_111 : decode cX5_init 111 = .ok (.iload_n 1, 1) := by decide +kernel
theorem dX5_init_112 : decode cX5_init 112 = .ok (.iconst 2, 1) := by decide +kernel
theorem dX5_init_113 : decode cX5_init 113 = .ok (.invokestatic 16, 3) := by decide +kernel
theorem dX5_init_116 : decode cX5_init 116 = .ok (.iconst 5, 1) := by decide +kernel
theorem dX5_init_117 : decode cX5_init 117 = .ok (.iastore, 1) := by decide +kernel
theorem dX5_init_118 : decode cX5_init 118 = .ok (.aload_n 0, 1) := by decide +kernel
theorem dX5_init_119 : decode cX5_init 119 = .ok (.getfield 7, 3) := by decide +kernel
theorem dX5_init_122 : decode cX5_init 122 = .ok (.iload_n 1, 1) := by decide +kernel
theorem dX5_init_123 : decode cX5_init 123 = .ok (.iconst 3, 1) := by decide +kernel
theorem dX5_init_124 : decode cX5_init 124 = .ok (.invokestatic 16, 3) := by decide +kernel
theorem dX5_init_127 : decode cX5_init 127 = .ok (.iload_n 2, 1) := by decide +kernel
theorem dX5_init_128 : decode cX5_init 128 = .ok (.iastore, 1) := by decide +kernel
theorem dX5_init_129 : decode cX5_init 129 = .ok (.iinc 1 1, 3) := by decide +kernel
theorem dX5_init_132 : decode cX5_init 132 = .ok (.goto (-109), 3) := by decide +kernel
theorem dX5_init_135 : decode cX5_init 135 = .ok (.iconst 0, 1) := by decide +kernel
theorem dX5_init_136 : decode cX5_init 136 = .ok (.istore_n 1, 1) := by decide +kernel
theorem dX5_init_137 : decode cX5_init 137 = .ok (.iload_n 1, 1) := by decide +kernel
theorem dX5_init_138 : decode cX5_init 138 = .ok (.iconst 4, 1) := by decide +kernel
theorem dX5_init_139 : decode cX5_init 139 = .ok (.if_icmp .ge 83, 3) := by decide +kernel
theorem dX5_init_142 : decode cX5_init 142 = .ok (.aload_n 0, 1) := by decide +kernel
theorem dX5_init_143 : decode cX5_init 143 = .ok (.getfield 7, 3) := by decide +kernel
theorem dX5_init_146 : decode cX5_init 146 = .ok (.iload_n 1, 1) := by decide +kernel
theorem dX5_init_147 : decode cX5_init 147 = .ok (.iconst 0, 1) := by decide +kernel
theorem dX5_init_148 : decode cX5_init 148 = .ok (.invokestatic 20, 3) := by decide +kernel
theorem dX5_init_151 : decode cX5_init 151 = .ok (.bipush 40, 2) := by decide +kernel
theorem dX5_init_153 : decode cX5_init 153 = .ok (.iastore, 1) := by decide +kernel
theorem dX5_init_154 : decode cX5_init 154 = .ok (.aload_n 0, 1) := by decide +kernel
theorem dX5_init_155 : decode cX5_init 155 = .ok (.getfield 7, 3) := by decide +kernel
theorem dX5_init_158 : decode cX5_init 158 = .ok (.iload_n 1, 1) := by decide +kernel
theorem dX5_init_159 : decode cX5_init 159 = .ok (.iconst 1, 1) := by decide +kernel
theorem dX5_init_160 : decode cX5_init 160 = .ok (.invokestatic 20, 3) := by decide +kernel
theorem dX5_init_163 : decode cX5_init 163 = .ok (.sipush 180, 3) := by decide +kernel
theorem dX5_init_166 : decode cX5_init 166 = .ok (.iastore, 1) := by decide +kernel
theorem dX5_init_167 : decode cX5_init 167 = .ok (.aload_n 0, 1) := by decide +kernel
theorem dX5_init_168 : decode cX5_init 168 = .ok (.getfield 7, 3) := by decide +kernel
theorem dX5_init_171 : decode cX5_init 171 = .ok (.iload_n 1, 1) := by decide +kernel
theorem dX5_init_172 : decode cX5_init 172 = .ok (.iconst 2, 1) := by decide +kernel
theorem dX5_init_173 : decode cX5_init 173 = .ok (.invokestatic 20, 3) := by decide +kernel
theorem dX5_init_176 : decode cX5_init 176 = .ok (.iconst 2, 1) := by decide +kernel
theorem dX5_init_177 : decode cX5_init 177 = .ok (.iastore, 1) := by decide +kernel
theorem dX5_init_178 : decode cX5_init 178 = .ok (.aload_n 0, 1) := by decide +kernel
theorem dX5_init_179 : decode cX5_init 179 = .ok (.getfield 7, 3) := by decide +kernel
theorem dX5_init_182 : decode cX5_init 182 = .ok (.iload_n 1, 1) := by decide +kernel
theorem dX5_init_183 : decode cX5_init 183 = .ok (.iconst 3, 1) := by decide +kernel
theorem dX5_init_184 : decode cX5_init 184 = .ok (.invokestatic 20, 3) := by decide +kernel
theorem dX5_init_187 : decode cX5_init 187 = .ok (.bipush 6, 2) := by decide +kernel
theorem dX5_init_189 : decode cX5_init 189 = .ok (.iastore, 1) := by decide +kernel
theorem dX5_init_190 : decode cX5_init 190 = .ok (.aload_n 0, 1) := by decide +kernel
theorem dX5_init_191 : decode cX5_init 191 = .ok (.getfield 7, 3) := by decide +kernel
theorem dX5_init_194 : decode cX5_init 194 = .ok (.iload_n 1, 1) := by decide +kernel
theorem dX5_init_195 : decode cX5_init 195 = .ok (.iconst 4, 1) := by decide +kernel
theorem dX5_init_196 : decode cX5_init 196 = .ok (.invokestatic 20, 3) := by decide +kernel
theorem dX5_init_199 : decode cX5_init 199 = .ok (.sipush 190, 3) := by decide +kernel
theorem dX5_init_202 : decode cX5_init 202 = .ok (.iastore, 1) := by decide +kernel
theorem dX5_init_203 : decode cX5_init 203 = .ok (.aload_n 0, 1) := by decide +kernel
theorem dX5_init_204 : decode cX5_init 204 = .ok (.getfield 7, 3) := by decide +kernel
theorem dX5_init_207 : decode cX5_init 207 = .ok (.iload_n 1, 1) := by decide +kernel
theorem dX5_init_208 : decode cX5_init 208 = .ok (.iconst 5, 1) := by decide +kernel
theorem dX5_init_209 : decode cX5_init 209 = .ok (.invokestatic 20, 3) := by decide +kernel
theorem dX5_init_212 : decode cX5_init 212 = .ok (.sipush 240, 3) := by decide +kernel
theorem dX5_init_215 : decode cX5_init 215 = .ok (.iastore, 1) := by decide +kernel
theorem dX5_init_216 : decode cX5_init 216 = .ok (.iinc 1 1, 3) := by decide +kernel
theorem dX5_init_219 : decode cX5_init 219 = .ok (.goto (-82), 3) := by decide +kernel
theorem dX5_init_222 : decode cX5_init 222 = .ok (.aload_n 0, 1) := by decide +kernel
theorem dX5_init_223 : decode cX5_init 223 = .ok (.getfield 7, 3) := by decide +kernel
theorem dX5_init_226 : decode cX5_init 226 = .ok (.bipush 48, 2) := by decide +kernel
theorem dX5_init_228 : decode cX5_init 228 = .ok (.iconst 2, 1) := by decide +kernel
theorem dX5_init_229 : decode cX5_init 229 = .ok (.iastore, 1) := by decide +kernel
theorem dX5_init_230 : decode cX5_init 230 = .ok (.aload_n 0, 1) := by decide +kernel
theorem dX5_init_231 : decode cX5_init 231 = .ok (.getfield 7, 3) := by decide +kernel
theorem dX5_init_234 : decode cX5_init 234 = .ok (.bipush 49, 2) := by decide +kernel
theorem dX5_init_236 : decode cX5_init 236 = .ok (.iconst 3, 1) := by decide +kernel
theorem dX5_init_237 : decode cX5_init 237 = .ok (.iastore, 1) := by decide +kernel
theorem dX5_init_238 : decode cX5_init 238 = .ok (.aload_n 0, 1) := by decide +kernel
theorem dX5_init_239 : decode cX5_init 239 = .ok (.getfield 7, 3) := by decide +kernel
theorem dX5_init_242 : decode cX5_init 242 = .ok (.bipush 50, 2) := by decide +kernel
theorem dX5_init_244 : decode cX5_init 244 = .ok (.bipush 6, 2) := by decide +kernel
theorem dX5_init_246 : decode cX5_init 246 = .ok (.iastore, 1) := by decide +kernel
theorem dX5_init_247 : decode cX5_init 247 = .ok (.aload_n 0, 1) := by decide +kernel
theorem dX5_init_248 : decode cX5_init 248 = .ok (.getfield 7, 3) := by decide +kernel
theorem dX5_init_251 : decode cX5_init 251 = .ok (.bipush 51, 2) := by decide +kernel
theorem dX5_init_253 : decode cX5_init 253 = .ok (.iconst 1, 1) := by decide +kernel
theorem dX5_init_254 : decode cX5_init 254 = .ok (.iastore, 1) := by decide +kernel
theorem dX5_init_255 : decode cX5_init 255 = .ok (.return_, 1) := by decide +kernel
theorem dX5_in_0 : decode cX5_in 0 = .ok (.iload_n 0, 1) := by decide +kernel
theorem dX5_in_1 : decode cX5_in 1 = .ok (.iload_n 1, 1) := by decide +kernel
theorem dX5_in_2 : decode cX5_in 2 = .ok (.if_icmp .lt 12, 3) := by decide +kernel
theorem dX5_in_5 : decode cX5_in 5 = .ok (.iload_n 0, 1) := by decide +kernel
theorem dX5_in_6 : decode cX5_in 6 = .ok (.iload_n 2, 1) := by decide +kernel
theorem dX5_in_7 : decode cX5_in 7 = .ok (.if_icmp .gt 7, 3) := by decide +kernel
theorem dX5_in_10 : decode cX5_in 10 = .ok (.iconst 1, 1) := by decide +kernel
theorem dX5_in_11 : decode cX5_in 11 = .ok (.goto 4, 3) := by decide +kernel
theorem dX5_in_14 : decode cX5_in 14 = .ok (.iconst 0, 1) := by decide +kernel
theorem dX5_in_15 : decode cX5_in 15 = .ok (.ireturn, 1) := by decide +kernel
theorem dX5_ofZone_0 : decode cX5_ofZone 0 = .ok (.iconst 0, 1) := by decide +kernel
theorem dX5_ofZone_1 : decode cX5_ofZone 1 = .ok (.iconst 4, 1) := by decide +kernel
theorem dX5_ofZone_2 : decode cX5_ofZone 2 = .ok (.iload_n 0, 1) := by decide +kernel
theorem dX5_ofZone_3 : decode cX5_ofZone 3 = .ok (.imul, 1) := by decide +kernel
theorem dX5_ofZone_4 : decode cX5_ofZone 4 = .ok (.iadd, 1) := by decide +kernel
theorem dX5_ofZone_5 : decode cX5_ofZone 5 = .ok (.iload_n 1, 1) := by decide +kernel
theorem dX5_ofZone_6 : decode cX5_ofZone 6 = .ok (.iadd, 1) := by decide +kernel
theorem dX5_ofZone_7 : decode cX5_ofZone 7 = .ok (.ireturn, 1) := by decide +kernel
theorem dX5_ofCurve_0 : decode cX5_ofCurve 0 = .ok (.bipush 24, 2) := by decide +kernel
theorem dX5_ofCurve_2 : decode cX5_ofCurve 2 = .ok (.bipush 6, 2) := by decide +kernel
theorem dX5_ofCurve_4 : decode cX5_ofCurve 4 = .ok (.iload_n 0, 1) := by decide +kernel
theorem dX5_ofCurve_5 : decode cX5_ofCurve 5 = .ok (.imul, 1) := by decide +kernel
theorem dX5_ofCurve_6 : decode cX5_ofCurve 6 = .ok (.iadd, 1) := by decide +kernel
theorem dX5_ofCurve_7 : decode cX5_ofCurve 7 = .ok (.iload_n 1, 1) := by decide +kernel
theorem dX5_ofCurve_8 : decode cX5_ofCurve 8 = .ok (.iadd, 1) := by decide +kernel
theorem dX5_ofCurve_9 : decode cX5_ofCurve 9 = .ok (.ireturn, 1) := by decide +kernel
theorem dX5_of_0 : decode cX5_of 0 = .ok (.bipush 56, 2) := by decide +kernel
theorem dX5_of_2 : decode cX5_of 2 = .ok (.bipush 21, 2) := by decide +kernel
theorem dX5_of_4 : decode cX5_of 4 = .ok (.iload_n 0, 1) := by decide +kernel
theorem dX5_of_5 : decode cX5_of 5 = .ok (.imul, 1) := by decide +kernel
theorem dX5_of_6 : decode cX5_of 6 = .ok (.iadd, 1) := by decide +kernel
theorem dX5_of_7 : decode cX5_of 7 = .ok (.iload_n 1, 1) := by decide +kernel
theorem dX5_of_8 : decode cX5_of 8 = .ok (.iadd, 1) := by decide +kernel
theorem dX5_of_9 : decode cX5_of 9 = .ok (.ireturn, 1) := by decide +kernel
theorem dX5_isZone_0 : decode cX5_isZone 0 = .ok (.iload_n 0, 1) := by decide +kernel
theorem dX5_isZone_1 : decode cX5_isZone 1 = .ok (.iconst 0, 1) := by decide +kernel
theorem dX5_isZone_2 : decode cX5_isZone 2 = .ok (.iconst 5, 1) := by decide +kernel
theorem dX5_isZone_3 : decode cX5_isZone 3 = .ok (.invokestatic 23, 3) := by decide +kernel
theorem dX5_isZone_6 : decode cX5_isZone 6 = .ok (.ireturn, 1) := by decide +kernel
theorem dX5_isCurve_0 : decode cX5_isCurve 0 = .ok (.iload_n 0, 1) := by decide +kernel
theorem dX5_isCurve_1 : decode cX5_isCurve 1 = .ok (.iconst 0, 1) := by decide +kernel
theorem dX5_isCurve_2 : decode cX5_isCurve 2 = .ok (.iconst 3, 1) := by decide +kernel
theorem dX5_isCurve_3 : decode cX5_isCurve 3 = .ok (.invokestatic 23, 3) := by decide +kernel
theorem dX5_isCurve_6 : decode cX5_isCurve 6 = .ok (.ireturn, 1) := by decide +kernel
theorem dX5_isBoard_0 : decode cX5_isBoard 0 = .ok (.iload_n 1, 1) := by decide +kernel
theorem dX5_isBoard_1 : decode cX5_isBoard 1 = .ok (.iconst 0, 1) := by decide +kernel
theorem dX5_isBoard_2 : decode cX5_isBoard 2 = .ok (.aload_n 0, 1) := by decide +kernel
theorem dX5_isBoard_3 : decode cX5_isBoard 3 = .ok (.getfield 7, 3) := by decide +kernel
theorem dX5_isBoard_6 : decode cX5_isBoard 6 = .ok (.bipush 53, 2) := by decide +kernel
theorem dX5_isBoard_8 : decode cX5_isBoard 8 = .ok (.iaload, 1) := by decide +kernel
theorem dX5_isBoard_9 : decode cX5_isBoard 9 = .ok (.iconst 1, 1) := by decide +kernel
theorem dX5_isBoard_10 : decode cX5_isBoard 10 = .ok (.isub, 1) := by decide +kernel
theorem dX5_isBoard_11 : decode cX5_isBoard 11 = .ok (.invokestatic 23, 3) := by decide +kernel
theorem dX5_isBoard_14 : decode cX5_isBoard 14 = .ok (.ireturn, 1) := by decide +kernel
theorem dX5_isOn_0 : decode cX5_isOn 0 = .ok (.aload_n 0, 1) := by decide +kernel
theorem dX5_isOn_1 : decode cX5_isOn 1 = .ok (.getfield 7, 3) := by decide +kernel
theorem dX5_isOn_4 : decode cX5_isOn 4 = .ok (.iload_n 1, 1) := by decide +kernel
theorem dX5_isOn_5 : decode cX5_isOn 5 = .ok (.iconst 2, 1) := by decide +kernel
theorem dX5_isOn_6 : decode cX5_isOn 6 = .ok (.invokestatic 27, 3) := by decide +kernel
theorem dX5_isOn_9 : decode cX5_isOn 9 = .ok (.iaload, 1) := by decide +kernel
theorem dX5_isOn_10 : decode cX5_isOn 10 = .ok (.ifCond .ne 7, 3) := by decide +kernel
theorem dX5_isOn_13 : decode cX5_isOn 13 = .ok (.iconst 1, 1) := by decide +kernel
theorem dX5_isOn_14 : decode cX5_isOn 14 = .ok (.goto 4, 3) := by decide +kernel
theorem dX5_isOn_17 : decode cX5_isOn 17 = .ok (.iconst 0, 1) := by decide +kernel
theorem dX5_isOn_18 : decode cX5_isOn 18 = .ok (.ireturn, 1) := by decide +kernel
theorem dX5_copy_0 : decode cX5_copy 0 = .ok (.iconst 0, 1) := by decide +kernel
theorem dX5_copy_1 : decode cX5_copy 1 = .ok (.istore 4, 2) := by decide +kernel
theorem dX5_copy_3 : decode cX5_copy 3 = .ok (.iload 4, 2) := by decide +kernel
theorem dX5_copy_5 : decode cX5_copy 5 = .ok (.iload_n 3, 1) := by decide +kernel
theorem dX5_copy_6 : decode cX5_copy 6 = .ok (.if_icmp .ge 27, 3) := by decide +kernel
theorem dX5_copy_9 : decode cX5_copy 9 = .ok (.aload_n 0, 1) := by decide +kernel
theorem dX5_copy_10 : decode cX5_copy 10 = .ok (.getfield 7, 3) := by decide +kernel
theorem dX5_copy_13 : decode cX5_copy 13 = .ok (.iload_n 2, 1) := by decide +kernel
theorem dX5_copy_14 : decode cX5_copy 14 = .ok (.iload 4, 2) := by decide +kernel
theorem dX5_copy_16 : decode cX5_copy 16 = .ok (.iadd, 1) := by decide +kernel
theorem dX5_copy_17 : decode cX5_copy 17 = .ok (.aload_n 0, 1) := by decide +kernel
theorem dX5_copy_18 : decode cX5_copy 18 = .ok (.getfield 7, 3) := by decide +kernel
theorem dX5_copy_21 : decode cX5_copy 21 = .ok (.iload_n 1, 1) := by decide +kernel
theorem dX5_copy_22 : decode cX5_copy 22 = .ok (.iload 4, 2) := by decide +kernel
theorem dX5_copy_24 : decode cX5_copy 24 = .ok (.iadd, 1) := by decide +kernel
theorem dX5_copy_25 : decode cX5_copy 25 = .ok (.iaload, 1) := by decide +kernel
theorem dX5_copy_26 : decode cX5_copy 26 = .ok (.iastore, 1) := by decide +kernel
theorem dX5_copy_27 : decode cX5_copy 27 = .ok (.iinc 4 1, 3) := by decide +kernel
theorem dX5_copy_30 : decode cX5_copy 30 = .ok (.goto (-27), 3) := by decide +kernel
theorem dX5_copy_33 : decode cX5_copy 33 = .ok (.return_, 1) := by decide +kernel
theorem dX5_record_0 : decode cX5_record 0 = .ok (.aload_n 0, 1) := by decide +kernel
theorem dX5_record_1 : decode cX5_record 1 = .ok (.getfield 30, 3) := by decide +kernel
theorem dX5_record_4 : decode cX5_record 4 = .ok (.iconst 5, 1) := by decide +kernel
theorem dX5_record_5 : decode cX5_record 5 = .ok (.if_icmp .ne 47, 3) := by decide +kernel
theorem dX5_record_8 : decode cX5_record 8 = .ok (.iconst 1, 1) := by decide +kernel
theorem dX5_record_9 : decode cX5_record 9 = .ok (.istore_n 1, 1) := by decide +kernel
theorem dX5_record_10 : decode cX5_record 10 = .ok (.iload_n 1, 1) := by decide +kernel
theorem dX5_record_11 : decode cX5_record 11 = .ok (.iconst 5, 1) := by decide +kernel
theorem dX5_record_12 : decode cX5_record 12 = .ok (.if_icmp .ge 30, 3) := by decide +kernel
theorem dX5_record_15 : decode cX5_record 15 = .ok (.aload_n 0, 1) := by decide +kernel
theorem dX5_record_16 : decode cX5_record 16 = .ok (.sipush 2123, 3) := by decide +kernel
theorem dX5_record_19 : decode cX5_record 19 = .ok (.sipush 2123, 3) := by decide +kernel
theorem dX5_record_22 : decode cX5_record 22 = .ok (.iload_n 1, 1) := by decide +kernel
theorem dX5_record_23 : decode cX5_record 23 = .ok (.imul, 1) := by decide +kernel
theorem dX5_record_24 : decode cX5_record 24 = .ok (.iadd, 1) := by decide +kernel
theorem dX5_record_25 : decode cX5_record 25 = .ok (.sipush 2123, 3) := by decide +kernel
theorem dX5_record_28 : decode cX5_record 28 = .ok (.iload_n 1, 1) := by decide +kernel
theorem dX5_record_29 : decode cX5_record 29 = .ok (.imul, 1) := by decide +kernel
theorem dX5_record_30 : decode cX5_record 30 = .ok (.sipush 2123, 3) := by decide +kernel
theorem dX5_record_33 : decode cX5_record 33 = .ok (.invokevirtual 34, 3) := by decide +kernel
theorem dX5_record_36 : decode cX5_record 36 = .ok (.iinc 1 1, 3) := by decide +kernel
theorem dX5_record_39 : decode cX5_record 39 = .ok (.goto (-29), 3) := by decide +kernel
theorem dX5_record_42 : decode cX5_record 42 = .ok (.aload_n 0, 1) := by decide +kernel
theorem dX5_record_43 : decode cX5_record 43 = .ok (.dup, 1) := by decide +kernel
theorem dX5_record_44 : decode cX5_record 44 = .ok (.getfield 30, 3) := by decide +kernel
theorem dX5_record_47 : decode cX5_record 47 = .ok (.iconst 1, 1) := by decide +kernel
theorem dX5_record_48 : decode cX5_record 48 = .ok (.isub, 1) := by decide +kernel
theorem dX5_record_49 : decode cX5_record 49 = .ok (.putfield 30, 3) := by decide +kernel
theorem dX5_record_52 : decode cX5_record 52 = .ok (.aload_n 0, 1) := by decide +kernel
theorem dX5_record_53 : decode cX5_record 53 = .ok (.iconst 0, 1) := by decide +kernel
theorem dX5_record_54 : decode cX5_record 54 = .ok (.sipush 2123, 3) := by decide +kernel
theorem dX5_record_57 : decode cX5_record 57 = .ok (.sipush 2123, 3) := by decide +kernel
theorem dX5_record_60 : decode cX5_record 60 = .ok (.aload_n 0, 1) := by decide +kernel
theorem dX5_record_61 : decode cX5_record 61 = .ok (.getfield 30, 3) := by decide +kernel
theorem dX5_record_64 : decode cX5_record 64 = .ok (.imul, 1) := by decide +kernel
theorem dX5_record_65 : decode cX5_record 65 = .ok (.iadd, 1) := by decide +kernel
theorem dX5_record_66 : decode cX5_record 66 = .ok (.sipush 2123, 3) := by decide +kernel
theorem dX5_record_69 : decode cX5_record 69 = .ok (.invokevirtual 34, 3) := by decide +kernel
theorem dX5_record_72 : decode cX5_record 72 = .ok (.aload_n 0, 1) := by decide +kernel
theorem dX5_record_73 : decode cX5_record 73 = .ok (.dup, 1) := by decide +kernel
theorem dX5_record_74 : decode cX5_record 74 = .ok (.getfield 30, 3) := by decide +kernel
theorem dX5_record_77 : decode cX5_record 77 = .ok (.iconst 1, 1) := by decide +kernel
theorem dX5_record_78 : decode cX5_record 78 = .ok (.iadd, 1) := by decide +kernel
theorem dX5_record_79 : decode cX5_record 79 = .ok (.putfield 30, 3) := by decide +kernel
theorem dX5_record_82 : decode cX5_record 82 = .ok (.return_, 1) := by decide +kernel
theorem dX5_undo_0 : decode cX5_undo 0 = .ok (.aload_n 0, 1) := by decide +kernel
theorem dX5_undo_1 : decode cX5_undo 1 = .ok (.getfield 30, 3) := by decide +kernel
theorem dX5_undo_4 : decode cX5_undo 4 = .ok (.ifCond .ne 7, 3) := by decide +kernel
theorem dX5_undo_7 : decode cX5_undo 7 = .ok (.sipush (-1002), 3) := by decide +kernel
theorem dX5_undo_10 : decode cX5_undo 10 = .ok (.ireturn, 1) := by decide +kernel
theorem dX5_undo_11 : decode cX5_undo 11 = .ok (.aload_n 0, 1) := by decide +kernel
theorem dX5_undo_12 : decode cX5_undo 12 = .ok (.dup, 1) := by decide +kernel
theorem dX5_undo_13 : decode cX5_undo 13 = .ok (.getfield 30, 3) := by decide +kernel
theorem dX5_undo_16 : decode cX5_undo 16 = .ok (.iconst 1, 1) := by decide +kernel
theorem dX5_undo_17 : decode cX5_undo 17 = .ok (.isub, 1) := by decide +kernel
theorem dX5_undo_18 : decode cX5_undo 18 = .ok (.putfield 30, 3) := by decide +kernel
theorem dX5_undo_21 : decode cX5_undo 21 = .ok (.aload_n 0, 1) := by decide +kernel
theorem dX5_undo_22 : decode cX5_undo 22 = .ok (.sipush 2123, 3) := by decide +kernel
theorem dX5_undo_25 : decode cX5_undo 25 = .ok (.sipush 2123, 3) := by decide +kernel
theorem dX5_undo_28 : decode cX5_undo 28 = .ok (.aload_n 0, 1) := by decide +kernel
theorem dX5_undo_29 : decode cX5_undo 29 = .ok (.getfield 30, 3) := by decide +kernel
theorem dX5_undo_32 : decode cX5_undo 32 = .ok (.imul, 1) := by decide +kernel
theorem dX5_undo_33 : decode cX5_undo 33 = .ok (.iadd, 1) := by decide +kernel
theorem dX5_undo_34 : decode cX5_undo 34 = .ok (.iconst 0, 1) := by decide +kernel
theorem dX5_undo_35 : decode cX5_undo 35 = .ok (.sipush 2123, 3) := by decide +kernel
theorem dX5_undo_38 : decode cX5_undo 38 = .ok (.invokevirtual 34, 3) := by decide +kernel
theorem dX5_undo_41 : decode cX5_undo 41 = .ok (.aload_n 0, 1) := by decide +kernel
theorem dX5_undo_42 : decode cX5_undo 42 = .ok (.getfield 30, 3) := by decide +kernel
theorem dX5_undo_45 : decode cX5_undo 45 = .ok (.ireturn, 1) := by decide +kernel
theorem dX5_take_0 : decode cX5_take 0 = .ok (.iload_n 1, 1) := by decide +kernel
theorem dX5_take_1 : decode cX5_take 1 = .ok (.iconst 0, 1) := by decide +kernel
theorem dX5_take_2 : decode cX5_take 2 = .ok (.iconst 1, 1) := by decide +kernel
theorem dX5_take_3 : decode cX5_take 3 = .ok (.invokestatic 23, 3) := by decide +kernel
theorem dX5_take_6 : decode cX5_take 6 = .ok (.ifCond .ne 7, 3) := by decide +kernel
theorem dX5_take_9 : decode cX5_take 9 = .ok (.sipush (-1001), 3) := by decide +kernel
theorem dX5_take_12 : decode cX5_take 12 = .ok (.ireturn, 1) := by decide +kernel
theorem dX5_take_13 : decode cX5_take 13 = .ok (.aload_n 0, 1) := by decide +kernel
theorem dX5_take_14 : decode cX5_take 14 = .ok (.invokevirtual 38, 3) := by decide +kernel
theorem dX5_take_17 : decode cX5_take 17 = .ok (.aload_n 0, 1) := by decide +kernel
theorem dX5_take_18 : decode cX5_take 18 = .ok (.iconst 0, 1) := by decide +kernel
theorem dX5_take_19 : decode cX5_take 19 = .ok (.sipush 707, 3) := by decide +kernel
theorem dX5_take_22 : decode cX5_take 22 = .ok (.sipush 707, 3) := by decide +kernel
theorem dX5_take_25 : decode cX5_take 25 = .ok (.iload_n 1, 1) := by decide +kernel
theorem dX5_take_26 : decode cX5_take 26 = .ok (.imul, 1) := by decide +kernel
theorem dX5_take_27 : decode cX5_take 27 = .ok (.iadd, 1) := by decide +kernel
theorem dX5_take_28 : decode cX5_take 28 = .ok (.sipush 707, 3) := by decide +kernel
theorem dX5_take_31 : decode cX5_take 31 = .ok (.invokevirtual 34, 3) := by decide +kernel
theorem dX5_take_34 : decode cX5_take 34 = .ok (.aload_n 0, 1) := by decide +kernel
theorem dX5_take_35 : decode cX5_take 35 = .ok (.getfield 7, 3) := by decide +kernel
theorem dX5_take_38 : decode cX5_take 38 = .ok (.sipush 2121, 3) := by decide +kernel
theorem dX5_take_41 : decode cX5_take 41 = .ok (.iload_n 1, 1) := by decide +kernel
theorem dX5_take_42 : decode cX5_take 42 = .ok (.iadd, 1) := by decide +kernel
end
section
theorem dX5_take_43 : decode cX5_take 43 = .ok (.iconst 1, 1) := by decide +kernel
theorem dX5_take_44 : decode cX5_take 44 = .ok (.iastore, 1) := by decide +kernel
theorem dX5_take_45 : decode cX5_take 45 = .ok (.aload_n 0, 1) := by decide +kernel
theorem dX5_take_46 : decode cX5_take 46 = .ok (.getfield 7, 3) := by decide +kernel
theorem dX5_take_49 : decode cX5_take 49 = .ok (.bipush 52, 2) := by decide +kernel
theorem dX5_take_51 : decode cX5_take 51 = .ok (.iaload, 1) := by decide +kernel
theorem dX5_take_52 : decode cX5_take 52 = .ok (.ireturn, 1) := by decide +kernel
theorem dX5_restore_0 : decode cX5_restore 0 = .ok (.iload_n 1, 1) := by decide +kernel
theorem dX5_restore_1 : decode cX5_restore 1 = .ok (.iconst 0, 1) := by decide +kernel
theorem dX5_restore_2 : decode cX5_restore 2 = .ok (.iconst 1, 1) := by decide +kernel
theorem dX5_restore_3 : decode cX5_restore 3 = .ok (.invokestatic 23, 3) := by decide +kernel
theorem dX5_restore_6 : decode cX5_restore 6 = .ok (.ifCond .ne 7, 3) := by decide +kernel
theorem dX5_restore_9 : decode cX5_restore 9 = .ok (.sipush (-1001), 3) := by decide +kernel
theorem dX5_restore_12 : decode cX5_restore 12 = .ok (.ireturn, 1) := by decide +kernel
theorem dX5_restore_13 : decode cX5_restore 13 = .ok (.aload_n 0, 1) := by decide +kernel
theorem dX5_restore_14 : decode cX5_restore 14 = .ok (.getfield 7, 3) := by decide +kernel
theorem dX5_restore_17 : decode cX5_restore 17 = .ok (.sipush 2121, 3) := by decide +kernel
theorem dX5_restore_20 : decode cX5_restore 20 = .ok (.iload_n 1, 1) := by decide +kernel
theorem dX5_restore_21 : decode cX5_restore 21 = .ok (.iadd, 1) := by decide +kernel
theorem dX5_restore_22 : decode cX5_restore 22 = .ok (.iaload, 1) := by decide +kernel
theorem dX5_restore_23 : decode cX5_restore 23 = .ok (.ifCond .ne 7, 3) := by decide +kernel
theorem dX5_restore_26 : decode cX5_restore 26 = .ok (.sipush (-1002), 3) := by decide +kernel
theorem dX5_restore_29 : decode cX5_restore 29 = .ok (.ireturn, 1) := by decide +kernel
theorem dX5_restore_30 : decode cX5_restore 30 = .ok (.aload_n 0, 1) := by decide +kernel
theorem dX5_restore_31 : decode cX5_restore 31 = .ok (.invokevirtual 38, 3) := by decide +kernel
theorem dX5_restore_34 : decode cX5_restore 34 = .ok (.aload_n 0, 1) := by decide +kernel
theorem dX5_restore_35 : decode cX5_restore 35 = .ok (.sipush 707, 3) := by decide +kernel
theorem dX5_restore_38 : decode cX5_restore 38 = .ok (.sipush 707, 3) := by decide +kernel
theorem dX5_restore_41 : decode cX5_restore 41 = .ok (.iload_n 1, 1) := by decide +kernel
theorem dX5_restore_42 : decode cX5_restore 42 = .ok (.imul, 1) := by decide +kernel
theorem dX5_restore_43 : decode cX5_restore 43 = .ok (.iadd, 1) := by decide +kernel
theorem dX5_restore_44 : decode cX5_restore 44 = .ok (.iconst 0, 1) := by decide +kernel
theorem dX5_restore_45 : decode cX5_restore 45 = .ok (.sipush 707, 3) := by decide +kernel
theorem dX5_restore_48 : decode cX5_restore 48 = .ok (.invokevirtual 34, 3) := by decide +kernel
theorem dX5_restore_51 : decode cX5_restore 51 = .ok (.aload_n 0, 1) := by decide +kernel
theorem dX5_restore_52 : decode cX5_restore 52 = .ok (.getfield 7, 3) := by decide +kernel
theorem dX5_restore_55 : decode cX5_restore 55 = .ok (.bipush 52, 2) := by decide +kernel
theorem dX5_restore_57 : decode cX5_restore 57 = .ok (.iaload, 1) := by decide +kernel
theorem dX5_restore_58 : decode cX5_restore 58 = .ok (.ireturn, 1) := by decide +kernel
theorem dX5_belt_0 : decode cX5_belt 0 = .ok (.iconst 0, 1) := by decide +kernel
theorem dX5_belt_1 : decode cX5_belt 1 = .ok (.istore_n 1, 1) := by decide +kernel
theorem dX5_belt_2 : decode cX5_belt 2 = .ok (.iconst 0, 1) := by decide +kernel
theorem dX5_belt_3 : decode cX5_belt 3 = .ok (.istore_n 2, 1) := by decide +kernel
theorem dX5_belt_4 : decode cX5_belt 4 = .ok (.iload_n 2, 1) := by decide +kernel
theorem dX5_belt_5 : decode cX5_belt 5 = .ok (.bipush 6, 2) := by decide +kernel
theorem dX5_belt_7 : decode cX5_belt 7 = .ok (.if_icmp .ge 22, 3) := by decide +kernel
theorem dX5_belt_10 : decode cX5_belt 10 = .ok (.iload_n 1, 1) := by decide +kernel
theorem dX5_belt_11 : decode cX5_belt 11 = .ok (.aload_n 0, 1) := by decide +kernel
theorem dX5_belt_12 : decode cX5_belt 12 = .ok (.getfield 7, 3) := by decide +kernel
theorem dX5_belt_15 : decode cX5_belt 15 = .ok (.iload_n 2, 1) := by decide +kernel
theorem dX5_belt_16 : decode cX5_belt 16 = .ok (.iconst 0, 1) := by decide +kernel
theorem dX5_belt_17 : decode cX5_belt 17 = .ok (.invokestatic 16, 3) := by decide +kernel
theorem dX5_belt_20 : decode cX5_belt 20 = .ok (.iaload, 1) := by decide +kernel
theorem dX5_belt_21 : decode cX5_belt 21 = .ok (.iadd, 1) := by decide +kernel
theorem dX5_belt_22 : decode cX5_belt 22 = .ok (.istore_n 1, 1) := by decide +kernel
theorem dX5_belt_23 : decode cX5_belt 23 = .ok (.iinc 2 1, 3) := by decide +kernel
theorem dX5_belt_26 : decode cX5_belt 26 = .ok (.goto (-22), 3) := by decide +kernel
theorem dX5_belt_29 : decode cX5_belt 29 = .ok (.iload_n 1, 1) := by decide +kernel
theorem dX5_belt_30 : decode cX5_belt 30 = .ok (.ireturn, 1) := by decide +kernel
theorem dX5_zoneOf_0 : decode cX5_zoneOf 0 = .ok (.iconst 0, 1) := by decide +kernel
theorem dX5_zoneOf_1 : decode cX5_zoneOf 1 = .ok (.istore_n 2, 1) := by decide +kernel
theorem dX5_zoneOf_2 : decode cX5_zoneOf 2 = .ok (.iload_n 1, 1) := by decide +kernel
theorem dX5_zoneOf_3 : decode cX5_zoneOf 3 = .ok (.istore_n 3, 1) := by decide +kernel
theorem dX5_zoneOf_4 : decode cX5_zoneOf 4 = .ok (.iload_n 3, 1) := by decide +kernel
theorem dX5_zoneOf_5 : decode cX5_zoneOf 5 = .ok (.aload_n 0, 1) := by decide +kernel
theorem dX5_zoneOf_6 : decode cX5_zoneOf 6 = .ok (.getfield 7, 3) := by decide +kernel
theorem dX5_zoneOf_9 : decode cX5_zoneOf 9 = .ok (.iload_n 2, 1) := by decide +kernel
theorem dX5_zoneOf_10 : decode cX5_zoneOf 10 = .ok (.iconst 0, 1) := by decide +kernel
theorem dX5_zoneOf_11 : decode cX5_zoneOf 11 = .ok (.invokestatic 16, 3) := by decide +kernel
theorem dX5_zoneOf_14 : decode cX5_zoneOf 14 = .ok (.iaload, 1) := by decide +kernel
theorem dX5_zoneOf_15 : decode cX5_zoneOf 15 = .ok (.if_icmp .lt 22, 3) := by decide +kernel
theorem dX5_zoneOf_18 : decode cX5_zoneOf 18 = .ok (.iload_n 3, 1) := by decide +kernel
theorem dX5_zoneOf_19 : decode cX5_zoneOf 19 = .ok (.aload_n 0, 1) := by decide +kernel
theorem dX5_zoneOf_20 : decode cX5_zoneOf 20 = .ok (.getfield 7, 3) := by decide +kernel
theorem dX5_zoneOf_23 : decode cX5_zoneOf 23 = .ok (.iload_n 2, 1) := by decide +kernel
theorem dX5_zoneOf_24 : decode cX5_zoneOf 24 = .ok (.iconst 0, 1) := by decide +kernel
theorem dX5_zoneOf_25 : decode cX5_zoneOf 25 = .ok (.invokestatic 16, 3) := by decide +kernel
theorem dX5_zoneOf_28 : decode cX5_zoneOf 28 = .ok (.iaload, 1) := by decide +kernel
theorem dX5_zoneOf_29 : decode cX5_zoneOf 29 = .ok (.isub, 1) := by decide +kernel
theorem dX5_zoneOf_30 : decode cX5_zoneOf 30 = .ok (.istore_n 3, 1) := by decide +kernel
theorem dX5_zoneOf_31 : decode cX5_zoneOf 31 = .ok (.iinc 2 1, 3) := by decide +kernel
theorem dX5_zoneOf_34 : decode cX5_zoneOf 34 = .ok (.goto (-30), 3) := by decide +kernel
theorem dX5_zoneOf_37 : decode cX5_zoneOf 37 = .ok (.iload_n 2, 1) := by decide +kernel
theorem dX5_zoneOf_38 : decode cX5_zoneOf 38 = .ok (.ireturn, 1) := by decide +kernel
theorem dX5_many_0 : decode cX5_many 0 = .ok (.iconst 0, 1) := by decide +kernel
theorem dX5_many_1 : decode cX5_many 1 = .ok (.istore_n 2, 1) := by decide +kernel
theorem dX5_many_2 : decode cX5_many 2 = .ok (.iconst 0, 1) := by decide +kernel
theorem dX5_many_3 : decode cX5_many 3 = .ok (.istore_n 3, 1) := by decide +kernel
theorem dX5_many_4 : decode cX5_many 4 = .ok (.iload_n 3, 1) := by decide +kernel
theorem dX5_many_5 : decode cX5_many 5 = .ok (.aload_n 0, 1) := by decide +kernel
theorem dX5_many_6 : decode cX5_many 6 = .ok (.getfield 7, 3) := by decide +kernel
theorem dX5_many_9 : decode cX5_many 9 = .ok (.bipush 53, 2) := by decide +kernel
theorem dX5_many_11 : decode cX5_many 11 = .ok (.iaload, 1) := by decide +kernel
theorem dX5_many_12 : decode cX5_many 12 = .ok (.if_icmp .ge 31, 3) := by decide +kernel
theorem dX5_many_15 : decode cX5_many 15 = .ok (.iload_n 2, 1) := by decide +kernel
theorem dX5_many_16 : decode cX5_many 16 = .ok (.aload_n 0, 1) := by decide +kernel
theorem dX5_many_17 : decode cX5_many 17 = .ok (.getfield 7, 3) := by decide +kernel
theorem dX5_many_20 : decode cX5_many 20 = .ok (.iload_n 3, 1) := by decide +kernel
theorem dX5_many_21 : decode cX5_many 21 = .ok (.iconst 2, 1) := by decide +kernel
theorem dX5_many_22 : decode cX5_many 22 = .ok (.invokestatic 27, 3) := by decide +kernel
theorem dX5_many_25 : decode cX5_many 25 = .ok (.iaload, 1) := by decide +kernel
theorem dX5_many_26 : decode cX5_many 26 = .ok (.iload_n 1, 1) := by decide +kernel
theorem dX5_many_27 : decode cX5_many 27 = .ok (.if_icmp .ne 7, 3) := by decide +kernel
theorem dX5_many_30 : decode cX5_many 30 = .ok (.iconst 1, 1) := by decide +kernel
theorem dX5_many_31 : decode cX5_many 31 = .ok (.goto 4, 3) := by decide +kernel
theorem dX5_many_34 : decode cX5_many 34 = .ok (.iconst 0, 1) := by decide +kernel
theorem dX5_many_35 : decode cX5_many 35 = .ok (.iadd, 1) := by decide +kernel
theorem dX5_many_36 : decode cX5_many 36 = .ok (.istore_n 2, 1) := by decide +kernel
theorem dX5_many_37 : decode cX5_many 37 = .ok (.iinc 3 1, 3) := by decide +kernel
theorem dX5_many_40 : decode cX5_many 40 = .ok (.goto (-36), 3) := by decide +kernel
theorem dX5_many_43 : decode cX5_many 43 = .ok (.iload_n 2, 1) := by decide +kernel
theorem dX5_many_44 : decode cX5_many 44 = .ok (.ireturn, 1) := by decide +kernel
theorem dX5_setZone_0 : decode cX5_setZone 0 = .ok (.iload_n 1, 1) := by decide +kernel
theorem dX5_setZone_1 : decode cX5_setZone 1 = .ok (.invokestatic 41, 3) := by decide +kernel
theorem dX5_setZone_4 : decode cX5_setZone 4 = .ok (.ifCond .eq 36, 3) := by decide +kernel
theorem dX5_setZone_7 : decode cX5_setZone 7 = .ok (.iload_n 2, 1) := by decide +kernel
theorem dX5_setZone_8 : decode cX5_setZone 8 = .ok (.iconst 2, 1) := by decide +kernel
theorem dX5_setZone_9 : decode cX5_setZone 9 = .ok (.bipush 8, 2) := by decide +kernel
theorem dX5_setZone_11 : decode cX5_setZone 11 = .ok (.invokestatic 23, 3) := by decide +kernel
theorem dX5_setZone_14 : decode cX5_setZone 14 = .ok (.ifCond .eq 26, 3) := by decide +kernel
theorem dX5_setZone_17 : decode cX5_setZone 17 = .ok (.iload_n 3, 1) := by decide +kernel
theorem dX5_setZone_18 : decode cX5_setZone 18 = .ok (.bipush 20, 2) := by decide +kernel
theorem dX5_setZone_20 : decode cX5_setZone 20 = .ok (.sipush 300, 3) := by decide +kernel
theorem dX5_setZone_23 : decode cX5_setZone 23 = .ok (.invokestatic 23, 3) := by decide +kernel
theorem dX5_setZone_26 : decode cX5_setZone 26 = .ok (.ifCond .eq 14, 3) := by decide +kernel
theorem dX5_setZone_29 : decode cX5_setZone 29 = .ok (.iload 4, 2) := by decide +kernel
theorem dX5_setZone_31 : decode cX5_setZone 31 = .ok (.iconst 1, 1) := by decide +kernel
theorem dX5_setZone_32 : decode cX5_setZone 32 = .ok (.bipush 20, 2) := by decide +kernel
theorem dX5_setZone_34 : decode cX5_setZone 34 = .ok (.invokestatic 23, 3) := by decide +kernel
theorem dX5_setZone_37 : decode cX5_setZone 37 = .ok (.ifCond .ne 7, 3) := by decide +kernel
theorem dX5_setZone_40 : decode cX5_setZone 40 = .ok (.sipush (-1001), 3) := by decide +kernel
theorem dX5_setZone_43 : decode cX5_setZone 43 = .ok (.ireturn, 1) := by decide +kernel
theorem dX5_setZone_44 : decode cX5_setZone 44 = .ok (.aload_n 0, 1) := by decide +kernel
theorem dX5_setZone_45 : decode cX5_setZone 45 = .ok (.iconst 0, 1) := by decide +kernel
theorem dX5_setZone_46 : decode cX5_setZone 46 = .ok (.invokevirtual 45, 3) := by decide +kernel
theorem dX5_setZone_49 : decode cX5_setZone 49 = .ok (.ifCond .le 7, 3) := by decide +kernel
theorem dX5_setZone_52 : decode cX5_setZone 52 = .ok (.sipush (-1002), 3) := by decide +kernel
theorem dX5_setZone_55 : decode cX5_setZone 55 = .ok (.ireturn, 1) := by decide +kernel
theorem dX5_setZone_56 : decode cX5_setZone 56 = .ok (.aload_n 0, 1) := by decide +kernel
theorem dX5_setZone_57 : decode cX5_setZone 57 = .ok (.invokevirtual 38, 3) := by decide +kernel
theorem dX5_setZone_60 : decode cX5_setZone 60 = .ok (.aload_n 0, 1) := by decide +kernel
theorem dX5_setZone_61 : decode cX5_setZone 61 = .ok (.getfield 7, 3) := by decide +kernel
theorem dX5_setZone_64 : decode cX5_setZone 64 = .ok (.iload_n 1, 1) := by decide +kernel
theorem dX5_setZone_65 : decode cX5_setZone 65 = .ok (.iconst 0, 1) := by decide +kernel
theorem dX5_setZone_66 : decode cX5_setZone 66 = .ok (.invokestatic 16, 3) := by decide +kernel
theorem dX5_setZone_69 : decode cX5_setZone 69 = .ok (.iload_n 2, 1) := by decide +kernel
theorem dX5_setZone_70 : decode cX5_setZone 70 = .ok (.iastore, 1) := by decide +kernel
theorem dX5_setZone_71 : decode cX5_setZone 71 = .ok (.aload_n 0, 1) := by decide +kernel
theorem dX5_setZone_72 : decode cX5_setZone 72 = .ok (.getfield 7, 3) := by decide +kernel
theorem dX5_setZone_75 : decode cX5_setZone 75 = .ok (.iload_n 1, 1) := by decide +kernel
theorem dX5_setZone_76 : decode cX5_setZone 76 = .ok (.iconst 1, 1) := by decide +kernel
theorem dX5_setZone_77 : decode cX5_setZone 77 = .ok (.invokestatic 16, 3) := by decide +kernel
theorem dX5_setZone_80 : decode cX5_setZone 80 = .ok (.iload_n 3, 1) := by decide +kernel
theorem dX5_setZone_81 : decode cX5_setZone 81 = .ok (.iastore, 1) := by decide +kernel
theorem dX5_setZone_82 : decode cX5_setZone 82 = .ok (.aload_n 0, 1) := by decide +kernel
theorem dX5_setZone_83 : decode cX5_setZone 83 = .ok (.getfield 7, 3) := by decide +kernel
theorem dX5_setZone_86 : decode cX5_setZone 86 = .ok (.iload_n 1, 1) := by decide +kernel
theorem dX5_setZone_87 : decode cX5_setZone 87 = .ok (.iconst 2, 1) := by decide +kernel
theorem dX5_setZone_88 : decode cX5_setZone 88 = .ok (.invokestatic 16, 3) := by decide +kernel
theorem dX5_setZone_91 : decode cX5_setZone 91 = .ok (.iload 4, 2) := by decide +kernel
theorem dX5_setZone_93 : decode cX5_setZone 93 = .ok (.iastore, 1) := by decide +kernel
theorem dX5_setZone_94 : decode cX5_setZone 94 = .ok (.aload_n 0, 1) := by decide +kernel
theorem dX5_setZone_95 : decode cX5_setZone 95 = .ok (.getfield 7, 3) := by decide +kernel
theorem dX5_setZone_98 : decode cX5_setZone 98 = .ok (.iload_n 1, 1) := by decide +kernel
theorem dX5_setZone_99 : decode cX5_setZone 99 = .ok (.iconst 3, 1) := by decide +kernel
theorem dX5_setZone_100 : decode cX5_setZone 100 = .ok (.invokestatic 16, 3) := by decide +kernel
theorem dX5_setZone_103 : decode cX5_setZone 103 = .ok (.iload_n 3, 1) := by decide +kernel
theorem dX5_setZone_104 : decode cX5_setZone 104 = .ok (.iastore, 1) := by decide +kernel
theorem dX5_setZone_105 : decode cX5_setZone 105 = .ok (.aload_n 0, 1) := by decide +kernel
theorem dX5_setZone_106 : decode cX5_setZone 106 = .ok (.invokevirtual 49, 3) := by decide +kernel
theorem dX5_setZone_109 : decode cX5_setZone 109 = .ok (.ireturn, 1) := by decide +kernel
theorem dX5_put_0 : decode cX5_put 0 = .ok (.iload_n 1, 1) := by decide +kernel
theorem dX5_put_1 : decode cX5_put 1 = .ok (.ifCond .ne 7, 3) := by decide +kernel
theorem dX5_put_4 : decode cX5_put 4 = .ok (.sipush (-1001), 3) := by decide +kernel
theorem dX5_put_7 : decode cX5_put 7 = .ok (.ireturn, 1) := by decide +kernel
theorem dX5_put_8 : decode cX5_put 8 = .ok (.aload_n 0, 1) := by decide +kernel
theorem dX5_put_9 : decode cX5_put 9 = .ok (.invokevirtual 38, 3) := by decide +kernel
theorem dX5_put_12 : decode cX5_put 12 = .ok (.aload_n 0, 1) := by decide +kernel
theorem dX5_put_13 : decode cX5_put 13 = .ok (.getfield 7, 3) := by decide +kernel
theorem dX5_put_16 : decode cX5_put 16 = .ok (.iload_n 2, 1) := by decide +kernel
theorem dX5_put_17 : decode cX5_put 17 = .ok (.iaload, 1) := by decide +kernel
theorem dX5_put_18 : decode cX5_put 18 = .ok (.istore 4, 2) := by decide +kernel
theorem dX5_put_20 : decode cX5_put 20 = .ok (.aload_n 0, 1) := by decide +kernel
theorem dX5_put_21 : decode cX5_put 21 = .ok (.getfield 7, 3) := by decide +kernel
theorem dX5_put_24 : decode cX5_put 24 = .ok (.iload_n 2, 1) := by decide +kernel
theorem dX5_put_25 : decode cX5_put 25 = .ok (.iload_n 3, 1) := by decide +kernel
theorem dX5_put_26 : decode cX5_put 26 = .ok (.iastore, 1) := by decide +kernel
theorem dX5_put_27 : decode cX5_put 27 = .ok (.iload 4, 2) := by decide +kernel
theorem dX5_put_29 : decode cX5_put 29 = .ok (.ireturn, 1) := by decide +kernel
theorem dX5_isCurveNumber_0 : decode cX5_isCurveNumber 0 = .ok (.iload_n 0, 1) := by decide +kernel
theorem dX5_isCurveNumber_1 : decode cX5_isCurveNumber 1 = .ok (.tableswitch 47 0 3 #[31, 47, 39, 39], 31) := by decide +kernel
theorem dX5_isCurveNumber_32 : decode cX5_isCurveNumber 32 = .ok (.iload_n 1, 1) := by decide +kernel
theorem dX5_isCurveNumber_33 : decode cX5_isCurveNumber 33 = .ok (.iconst 1, 1) := by decide +kernel
theorem dX5_isCurveNumber_34 : decode cX5_isCurveNumber 34 = .ok (.bipush 99, 2) := by decide +kernel
theorem dX5_isCurveNumber_36 : decode cX5_isCurveNumber 36 = .ok (.invokestatic 23, 3) := by decide +kernel
theorem dX5_isCurveNumber_39 : decode cX5_isCurveNumber 39 = .ok (.ireturn, 1) := by decide +kernel
theorem dX5_isCurveNumber_40 : decode cX5_isCurveNumber 40 = .ok (.iload_n 1, 1) := by decide +kernel
theorem dX5_isCurveNumber_41 : decode cX5_isCurveNumber 41 = .ok (.iconst 0, 1) := by decide +kernel
theorem dX5_isCurveNumber_42 : decode cX5_isCurveNumber 42 = .ok (.bipush 99, 2) := by decide +kernel
theorem dX5_isCurveNumber_44 : decode cX5_isCurveNumber 44 = .ok (.invokestatic 23, 3) := by decide +kernel
theorem dX5_isCurveNumber_47 : decode cX5_isCurveNumber 47 = .ok (.ireturn, 1) := by decide +kernel
theorem dX5_isCurveNumber_48 : decode cX5_isCurveNumber 48 = .ok (.iload_n 0, 1) := by decide +kernel
theorem dX5_isCurveNumber_49 : decode cX5_isCurveNumber 49 = .ok (.iconst 1, 1) := by decide +kernel
theorem dX5_isCurveNumber_50 : decode cX5_isCurveNumber 50 = .ok (.iconst 5, 1) := by decide +kernel
theorem dX5_isCurveNumber_51 : decode cX5_isCurveNumber 51 = .ok (.invokestatic 23, 3) := by decide +kernel
theorem dX5_isCurveNumber_54 : decode cX5_isCurveNumber 54 = .ok (.ifCond .eq 19, 3) := by decide +kernel
theorem dX5_isCurveNumber_57 : decode cX5_isCurveNumber 57 = .ok (.iload_n 1, 1) := by decide +kernel
theorem dX5_isCurveNumber_58 : decode cX5_isCurveNumber 58 = .ok (.bipush 20, 2) := by decide +kernel
theorem dX5_isCurveNumber_60 : decode cX5_isCurveNumber 60 = .ok (.sipush 300, 3) := by decide +kernel
theorem dX5_isCurveNumber_63 : decode cX5_isCurveNumber 63 = .ok (.invokestatic 23, 3) := by decide +kernel
theorem dX5_isCurveNumber_66 : decode cX5_isCurveNumber 66 = .ok (.ifCond .eq 7, 3) := by decide +kernel
theorem dX5_isCurveNumber_69 : decode cX5_isCurveNumber 69 = .ok (.iconst 1, 1) := by decide +kernel
theorem dX5_isCurveNumber_70 : decode cX5_isCurveNumber 70 = .ok (.goto 4, 3) := by decide +kernel
theorem dX5_isCurveNumber_73 : decode cX5_isCurveNumber 73 = .ok (.iconst 0, 1) := by decide +kernel
theorem dX5_isCurveNumber_74 : decode cX5_isCurveNumber 74 = .ok (.ireturn, 1) := by decide +kernel
theorem dX5_setCurve_0 : decode cX5_setCurve 0 = .ok (.iload_n 1, 1) := by decide +kernel
theorem dX5_setCurve_1 : decode cX5_setCurve 1 = .ok (.invokestatic 53, 3) := by decide +kernel
theorem dX5_setCurve_4 : decode cX5_setCurve 4 = .ok (.ifCond .eq 15, 3) := by decide +kernel
theorem dX5_setCurve_7 : decode cX5_setCurve 7 = .ok (.iload_n 2, 1) := by decide +kernel
theorem dX5_setCurve_8 : decode cX5_setCurve 8 = .ok (.iload_n 3, 1) := by decide +kernel
theorem dX5_setCurve_9 : decode cX5_setCurve 9 = .ok (.invokestatic 56, 3) := by decide +kernel
theorem dX5_setCurve_12 : decode cX5_setCurve 12 = .ok (.ifCond .eq 7, 3) := by decide +kernel
theorem dX5_setCurve_15 : decode cX5_setCurve 15 = .ok (.iconst 1, 1) := by decide +kernel
theorem dX5_setCurve_16 : decode cX5_setCurve 16 = .ok (.goto 4, 3) := by decide +kernel
theorem dX5_setCurve_19 : decode cX5_setCurve 19 = .ok (.iconst 0, 1) := by decide +kernel
theorem dX5_setCurve_20 : decode cX5_setCurve 20 = .ok (.istore 4, 2) := by decide +kernel
theorem dX5_setCurve_22 : decode cX5_setCurve 22 = .ok (.aload_n 0, 1) := by decide +kernel
theorem dX5_setCurve_23 : decode cX5_setCurve 23 = .ok (.iload 4, 2) := by decide +kernel
theorem dX5_setCurve_25 : decode cX5_setCurve 25 = .ok (.iload 4, 2) := by decide +kernel
theorem dX5_setCurve_27 : decode cX5_setCurve 27 = .ok (.ifCond .eq 11, 3) := by decide +kernel
theorem dX5_setCurve_30 : decode cX5_setCurve 30 = .ok (.iload_n 1, 1) := by decide +kernel
theorem dX5_setCurve_31 : decode cX5_setCurve 31 = .ok (.iload_n 2, 1) := by decide +kernel
theorem dX5_setCurve_32 : decode cX5_setCurve 32 = .ok (.invokestatic 20, 3) := by decide +kernel
theorem dX5_setCurve_35 : decode cX5_setCurve 35 = .ok (.goto 4, 3) := by decide +kernel
theorem dX5_setCurve_38 : decode cX5_setCurve 38 = .ok (.iconst 0, 1) := by decide +kernel
theorem dX5_setCurve_39 : decode cX5_setCurve 39 = .ok (.iload_n 3, 1) := by decide +kernel
theorem dX5_setCurve_40 : decode cX5_setCurve 40 = .ok (.invokevirtual 60, 3) := by decide +kernel
theorem dX5_setCurve_43 : decode cX5_setCurve 43 = .ok (.ireturn, 1) := by decide +kernel
theorem dX5_isBeltNumber_0 : decode cX5_isBeltNumber 0 = .ok (.iload_n 0, 1) := by decide +kernel
theorem dX5_isBeltNumber_1 : decode cX5_isBeltNumber 1 = .ok (.ifCond .ne 12, 3) := by decide +kernel
theorem dX5_isBeltNumber_4 : decode cX5_isBeltNumber 4 = .ok (.iload_n 1, 1) := by decide +kernel
theorem dX5_isBeltNumber_5 : decode cX5_isBeltNumber 5 = .ok (.iconst 1, 1) := by decide +kernel
theorem dX5_isBeltNumber_6 : decode cX5_isBeltNumber 6 = .ok (.iconst 3, 1) := by decide +kernel
theorem dX5_isBeltNumber_7 : decode cX5_isBeltNumber 7 = .ok (.invokestatic 23, 3) := by decide +kernel
theorem dX5_isBeltNumber_10 : decode cX5_isBeltNumber 10 = .ok (.goto 53, 3) := by decide +kernel
theorem dX5_isBeltNumber_13 : decode cX5_isBeltNumber 13 = .ok (.iload_n 0, 1) := by decide +kernel
theorem dX5_isBeltNumber_14 : decode cX5_isBeltNumber 14 = .ok (.iconst 1, 1) := by decide +kernel
theorem dX5_isBeltNumber_15 : decode cX5_isBeltNumber 15 = .ok (.if_icmp .ne 13, 3) := by decide +kernel
theorem dX5_isBeltNumber_18 : decode cX5_isBeltNumber 18 = .ok (.iload_n 1, 1) := by decide +kernel
theorem dX5_isBeltNumber_19 : decode cX5_isBeltNumber 19 = .ok (.iconst 1, 1) := by decide +kernel
theorem dX5_isBeltNumber_20 : decode cX5_isBeltNumber 20 = .ok (.bipush 20, 2) := by decide +kernel
theorem dX5_isBeltNumber_22 : decode cX5_isBeltNumber 22 = .ok (.invokestatic 23, 3) := by decide +kernel
theorem dX5_isBeltNumber_25 : decode cX5_isBeltNumber 25 = .ok (.goto 38, 3) := by decide +kernel
theorem dX5_isBeltNumber_28 : decode cX5_isBeltNumber 28 = .ok (.iload_n 0, 1) := by decide +kernel
theorem dX5_isBeltNumber_29 : decode cX5_isBeltNumber 29 = .ok (.iconst 2, 1) := by decide +kernel
theorem dX5_isBeltNumber_30 : decode cX5_isBeltNumber 30 = .ok (.if_icmp .ne 13, 3) := by decide +kernel
theorem dX5_isBeltNumber_33 : decode cX5_isBeltNumber 33 = .ok (.iload_n 1, 1) := by decide +kernel
theorem dX5_isBeltNumber_34 : decode cX5_isBeltNumber 34 = .ok (.iconst 0, 1) := by decide +kernel
theorem dX5_isBeltNumber_35 : decode cX5_isBeltNumber 35 = .ok (.bipush 99, 2) := by decide +kernel
theorem dX5_isBeltNumber_37 : decode cX5_isBeltNumber 37 = .ok (.invokestatic 23, 3) := by decide +kernel
theorem dX5_isBeltNumber_40 : decode cX5_isBeltNumber 40 = .ok (.goto 23, 3) := by decide +kernel
theorem dX5_isBeltNumber_43 : decode cX5_isBeltNumber 43 = .ok (.iload_n 0, 1) := by decide +kernel
theorem dX5_isBeltNumber_44 : decode cX5_isBeltNumber 44 = .ok (.iconst 3, 1) := by decide +kernel
theorem dX5_isBeltNumber_45 : decode cX5_isBeltNumber 45 = .ok (.if_icmp .ne 17, 3) := by decide +kernel
theorem dX5_isBeltNumber_48 : decode cX5_isBeltNumber 48 = .ok (.iload_n 1, 1) := by decide +kernel
theorem dX5_isBeltNumber_49 : decode cX5_isBeltNumber 49 = .ok (.iconst 0, 1) := by decide +kernel
theorem dX5_isBeltNumber_50 : decode cX5_isBeltNumber 50 = .ok (.bipush 9, 2) := by decide +kernel
theorem dX5_isBeltNumber_52 : decode cX5_isBeltNumber 52 = .ok (.invokestatic 23, 3) := by decide +kernel
theorem dX5_isBeltNumber_55 : decode cX5_isBeltNumber 55 = .ok (.ifCond .eq 7, 3) := by decide +kernel
theorem dX5_isBeltNumber_58 : decode cX5_isBeltNumber 58 = .ok (.iconst 1, 1) := by decide +kernel
theorem dX5_isBeltNumber_59 : decode cX5_isBeltNumber 59 = .ok (.goto 4, 3) := by decide +kernel
theorem dX5_isBeltNumber_62 : decode cX5_isBeltNumber 62 = .ok (.iconst 0, 1) := by decide +kernel
theorem dX5_isBeltNumber_63 : decode cX5_isBeltNumber 63 = .ok (.ireturn, 1) := by decide +kernel
theorem dX5_set_0 : decode cX5_set 0 = .ok (.iload_n 1, 1) := by decide +kernel
theorem dX5_set_1 : decode cX5_set 1 = .ok (.iload_n 2, 1) := by decide +kernel
theorem dX5_set_2 : decode cX5_set 2 = .ok (.invokestatic 64, 3) := by decide +kernel
theorem dX5_set_5 : decode cX5_set 5 = .ok (.istore_n 3, 1) := by decide +kernel
theorem dX5_set_6 : decode cX5_set 6 = .ok (.aload_n 0, 1) := by decide +kernel
theorem dX5_set_7 : decode cX5_set 7 = .ok (.iload_n 3, 1) := by decide +kernel
theorem dX5_set_8 : decode cX5_set 8 = .ok (.iload_n 3, 1) := by decide +kernel
theorem dX5_set_9 : decode cX5_set 9 = .ok (.ifCond .eq 10, 3) := by decide +kernel
theorem dX5_set_12 : decode cX5_set 12 = .ok (.bipush 48, 2) := by decide +kernel
theorem dX5_set_14 : decode cX5_set 14 = .ok (.iload_n 1, 1) := by decide +kernel
theorem dX5_set_15 : decode cX5_set 15 = .ok (.iadd, 1) := by decide +kernel
theorem dX5_set_16 : decode cX5_set 16 = .ok (.goto 4, 3) := by decide +kernel
theorem dX5_set_19 : decode cX5_set 19 = .ok (.iconst 0, 1) := by decide +kernel
theorem dX5_set_20 : decode cX5_set 20 = .ok (.iload_n 2, 1) := by decide +kernel
theorem dX5_set_21 : decode cX5_set 21 = .ok (.invokevirtual 60, 3) := by decide +kernel
theorem dX5_set_24 : decode cX5_set 24 = .ok (.ireturn, 1) := by decide +kernel
theorem dX5_lay_0 : decode cX5_lay 0 = .ok (.iconst 0, 1) := by decide +kernel
theorem dX5_lay_1 : decode cX5_lay 1 = .ok (.istore 4, 2) := by decide +kernel
theorem dX5_lay_3 : decode cX5_lay 3 = .ok (.iload 4, 2) := by decide +kernel
theorem dX5_lay_5 : decode cX5_lay 5 = .ok (.bipush 21, 2) := by decide +kernel
theorem dX5_lay_7 : decode cX5_lay 7 = .ok (.if_icmp .ge 21, 3) := by decide +kernel
theorem dX5_lay_10 : decode cX5_lay 10 = .ok (.aload_n 0, 1) := by decide +kernel
theorem dX5_lay_11 : decode cX5_lay 11 = .ok (.getfield 7, 3) := by decide +kernel
theorem dX5_lay_14 : decode cX5_lay 14 = .ok (.iload_n 1, 1) := by decide +kernel
theorem dX5_lay_15 : decode cX5_lay 15 = .ok (.iload 4, 2) := by decide +kernel
theorem dX5_lay_17 : decode cX5_lay 17 = .ok (.invokestatic 27, 3) := by decide +kernel
theorem dX5_lay_20 : decode cX5_lay 20 = .ok (.iconst 0, 1) := by decide +kernel
theorem dX5_lay_21 : decode cX5_lay 21 = .ok (.iastore, 1) := by decide +kernel
theorem dX5_lay_22 : decode cX5_lay 22 = .ok (.iinc 4 1, 3) := by decide +kernel
theorem dX5_lay_25 : decode cX5_lay 25 = .ok (.goto (-22), 3) := by decide +kernel
theorem dX5_lay_28 : decode cX5_lay 28 = .ok (.aload_n 0, 1) := by decide +kernel
theorem dX5_lay_29 : decode cX5_lay 29 = .ok (.getfield 7, 3) := by decide +kernel
theorem dX5_lay_32 : decode cX5_lay 32 = .ok (.iload_n 1, 1) := by decide +kernel
theorem dX5_lay_33 : decode cX5_lay 33 = .ok (.iconst 0, 1) := by decide +kernel
theorem dX5_lay_34 : decode cX5_lay 34 = .ok (.invokestatic 27, 3) := by decide +kernel
theorem dX5_lay_37 : decode cX5_lay 37 = .ok (.iload_n 2, 1) := by decide +kernel
theorem dX5_lay_38 : decode cX5_lay 38 = .ok (.iastore, 1) := by decide +kernel
theorem dX5_lay_39 : decode cX5_lay 39 = .ok (.aload_n 0, 1) := by decide +kernel
theorem dX5_lay_40 : decode cX5_lay 40 = .ok (.getfield 7, 3) := by decide +kernel
theorem dX5_lay_43 : decode cX5_lay 43 = .ok (.iload_n 1, 1) := by decide +kernel
theorem dX5_lay_44 : decode cX5_lay 44 = .ok (.iconst 1, 1) := by decide +kernel
theorem dX5_lay_45 : decode cX5_lay 45 = .ok (.invokestatic 27, 3) := by decide +kernel
theorem dX5_lay_48 : decode cX5_lay 48 = .ok (.iload_n 3, 1) := by decide +kernel
theorem dX5_lay_49 : decode cX5_lay 49 = .ok (.iastore, 1) := by decide +kernel
theorem dX5_lay_50 : decode cX5_lay 50 = .ok (.aload_n 0, 1) := by decide +kernel
theorem dX5_lay_51 : decode cX5_lay 51 = .ok (.getfield 7, 3) := by decide +kernel
theorem dX5_lay_54 : decode cX5_lay 54 = .ok (.iload_n 1, 1) := by decide +kernel
theorem dX5_lay_55 : decode cX5_lay 55 = .ok (.iconst 4, 1) := by decide +kernel
theorem dX5_lay_56 : decode cX5_lay 56 = .ok (.invokestatic 27, 3) := by decide +kernel
theorem dX5_lay_59 : decode cX5_lay 59 = .ok (.bipush 20, 2) := by decide +kernel
theorem dX5_lay_61 : decode cX5_lay 61 = .ok (.iastore, 1) := by decide +kernel
theorem dX5_lay_62 : decode cX5_lay 62 = .ok (.aload_n 0, 1) := by decide +kernel
theorem dX5_lay_63 : decode cX5_lay 63 = .ok (.getfield 7, 3) := by decide +kernel
theorem dX5_lay_66 : decode cX5_lay 66 = .ok (.iload_n 1, 1) := by decide +kernel
theorem dX5_lay_67 : decode cX5_lay 67 = .ok (.bipush 6, 2) := by decide +kernel
theorem dX5_lay_69 : decode cX5_lay 69 = .ok (.invokestatic 27, 3) := by decide +kernel
theorem dX5_lay_72 : decode cX5_lay 72 = .ok (.bipush 20, 2) := by decide +kernel
theorem dX5_lay_74 : decode cX5_lay 74 = .ok (.iastore, 1) := by decide +kernel
theorem dX5_lay_75 : decode cX5_lay 75 = .ok (.aload_n 0, 1) := by decide +kernel
theorem dX5_lay_76 : decode cX5_lay 76 = .ok (.getfield 7, 3) := by decide +kernel
theorem dX5_lay_79 : decode cX5_lay 79 = .ok (.iload_n 1, 1) := by decide +kernel
theorem dX5_lay_80 : decode cX5_lay 80 = .ok (.bipush 10, 2) := by decide +kernel
theorem dX5_lay_82 : decode cX5_lay 82 = .ok (.invokestatic 27, 3) := by decide +kernel
theorem dX5_lay_85 : decode cX5_lay 85 = .ok (.sipush (-1009), 3) := by decide +kernel
theorem dX5_lay_88 : decode cX5_lay 88 = .ok (.iastore, 1) := by decide +kernel
theorem dX5_lay_89 : decode cX5_lay 89 = .ok (.return_, 1) := by decide +kernel
theorem dX5_hasRoom_0 : decode cX5_hasRoom 0 = .ok (.iconst 0, 1) := by decide +kernel
theorem dX5_hasRoom_1 : decode cX5_hasRoom 1 = .ok (.istore_n 1, 1) := by decide +kernel
theorem dX5_hasRoom_2 : decode cX5_hasRoom 2 = .ok (.iload_n 1, 1) := by decide +kernel
theorem dX5_hasRoom_3 : decode cX5_hasRoom 3 = .ok (.aload_n 0, 1) := by decide +kernel
theorem dX5_hasRoom_4 : decode cX5_hasRoom 4 = .ok (.getfield 7, 3) := by decide +kernel
theorem dX5_hasRoom_7 : decode cX5_hasRoom 7 = .ok (.bipush 53, 2) := by decide +kernel
theorem dX5_hasRoom_9 : decode cX5_hasRoom 9 = .ok (.iaload, 1) := by decide +kernel
theorem dX5_hasRoom_10 : decode cX5_hasRoom 10 = .ok (.if_icmp .ge 39, 3) := by decide +kernel
theorem dX5_hasRoom_13 : decode cX5_hasRoom 13 = .ok (.aload_n 0, 1) := by decide +kernel
theorem dX5_hasRoom_14 : decode cX5_hasRoom 14 = .ok (.iload_n 1, 1) := by decide +kernel
theorem dX5_hasRoom_15 : decode cX5_hasRoom 15 = .ok (.invokevirtual 67, 3) := by decide +kernel
theorem dX5_hasRoom_18 : decode cX5_hasRoom 18 = .ok (.ifCond .eq 25, 3) := by decide +kernel
theorem dX5_hasRoom_21 : decode cX5_hasRoom 21 = .ok (.aload_n 0, 1) := by decide +kernel
theorem dX5_hasRoom_22 : decode cX5_hasRoom 22 = .ok (.getfield 7, 3) := by decide +kernel
theorem dX5_hasRoom_25 : decode cX5_hasRoom 25 = .ok (.iload_n 1, 1) := by decide +kernel
theorem dX5_hasRoom_26 : decode cX5_hasRoom 26 = .ok (.iconst 3, 1) := by decide +kernel
theorem dX5_hasRoom_27 : decode cX5_hasRoom 27 = .ok (.invokestatic 27, 3) := by decide +kernel
theorem dX5_hasRoom_30 : decode cX5_hasRoom 30 = .ok (.iaload, 1) := by decide +kernel
theorem dX5_hasRoom_31 : decode cX5_hasRoom 31 = .ok (.aload_n 0, 1) := by decide +kernel
theorem dX5_hasRoom_32 : decode cX5_hasRoom 32 = .ok (.getfield 7, 3) := by decide +kernel
theorem dX5_hasRoom_35 : decode cX5_hasRoom 35 = .ok (.bipush 49, 2) := by decide +kernel
theorem dX5_hasRoom_37 : decode cX5_hasRoom 37 = .ok (.iaload, 1) := by decide +kernel
theorem dX5_hasRoom_38 : decode cX5_hasRoom 38 = .ok (.if_icmp .ge 5, 3) := by decide +kernel
theorem dX5_hasRoom_41 : decode cX5_hasRoom 41 = .ok (.iconst 0, 1) := by decide +kernel
theorem dX5_hasRoom_42 : decode cX5_hasRoom 42 = .ok (.ireturn, 1) := by decide +kernel
theorem dX5_hasRoom_43 : decode cX5_hasRoom 43 = .ok (.iinc 1 1, 3) := by decide +kernel
theorem dX5_hasRoom_46 : decode cX5_hasRoom 46 = .ok (.goto (-44), 3) := by decide +kernel
theorem dX5_hasRoom_49 : decode cX5_hasRoom 49 = .ok (.iconst 1, 1) := by decide +kernel
theorem dX5_hasRoom_50 : decode cX5_hasRoom 50 = .ok (.ireturn, 1) := by decide +kernel
theorem dX5_noLoad_0 : decode cX5_noLoad 0 = .ok (.iload_n 1, 1) := by decide +kernel
theorem dX5_noLoad_1 : decode cX5_noLoad 1 = .ok (.invokestatic 53, 3) := by decide +kernel
theorem dX5_noLoad_4 : decode cX5_noLoad 4 = .ok (.ifCond .eq 13, 3) := by decide +kernel
theorem dX5_noLoad_7 : decode cX5_noLoad 7 = .ok (.iload_n 2, 1) := by decide +kernel
theorem dX5_noLoad_8 : decode cX5_noLoad 8 = .ok (.iconst 1, 1) := by decide +kernel
theorem dX5_noLoad_9 : decode cX5_noLoad 9 = .ok (.bipush 9, 2) := by decide +kernel
theorem dX5_noLoad_11 : decode cX5_noLoad 11 = .ok (.invokestatic 23, 3) := by decide +kernel
theorem dX5_noLoad_14 : decode cX5_noLoad 14 = .ok (.ifCond .ne 7, 3) := by decide +kernel
theorem dX5_noLoad_17 : decode cX5_noLoad 17 = .ok (.sipush (-1001), 3) := by decide +kernel
theorem dX5_noLoad_20 : decode cX5_noLoad 20 = .ok (.ireturn, 1) := by decide +kernel
theorem dX5_noLoad_21 : decode cX5_noLoad 21 = .ok (.aload_n 0, 1) := by decide +kernel
theorem dX5_noLoad_22 : decode cX5_noLoad 22 = .ok (.invokevirtual 70, 3) := by decide +kernel
theorem dX5_noLoad_25 : decode cX5_noLoad 25 = .ok (.ifCond .ne 9, 3) := by decide +kernel
theorem dX5_noLoad_28 : decode cX5_noLoad 28 = .ok (.sipush (-1002), 3) := by decide +kernel
theorem dX5_noLoad_31 : decode cX5_noLoad 31 = .ok (.goto 22, 3) := by decide +kernel
theorem dX5_noLoad_34 : decode cX5_noLoad 34 = .ok (.aload_n 0, 1) := by decide +kernel
theorem dX5_noLoad_35 : decode cX5_noLoad 35 = .ok (.getfield 7, 3) := by decide +kernel
theorem dX5_noLoad_38 : decode cX5_noLoad 38 = .ok (.bipush 53, 2) := by decide +kernel
theorem dX5_noLoad_40 : decode cX5_noLoad 40 = .ok (.iaload, 1) := by decide +kernel
theorem dX5_noLoad_41 : decode cX5_noLoad 41 = .ok (.bipush 30, 2) := by decide +kernel
theorem dX5_noLoad_43 : decode cX5_noLoad 43 = .ok (.if_icmp .ne 9, 3) := by decide +kernel
theorem dX5_noLoad_46 : decode cX5_noLoad 46 = .ok (.sipush (-1003), 3) := by decide +kernel
theorem dX5_noLoad_49 : decode cX5_noLoad 49 = .ok (.goto 4, 3) := by decide +kernel
theorem dX5_noLoad_52 : decode cX5_noLoad 52 = .ok (.iconst 0, 1) := by decide +kernel
theorem dX5_noLoad_53 : decode cX5_noLoad 53 = .ok (.ireturn, 1) := by decide +kernel
theorem dX5_doLoad_0 : decode cX5_doLoad 0 = .ok (.aload_n 0, 1) := by decide +kernel
theorem dX5_doLoad_1 : decode cX5_doLoad 1 = .ok (.aload_n 0, 1) := by decide +kernel
theorem dX5_doLoad_2 : decode cX5_doLoad 2 = .ok (.getfield 7, 3) := by decide +kernel
theorem dX5_doLoad_5 : decode cX5_doLoad 5 = .ok (.bipush 53, 2) := by decide +kernel
theorem dX5_doLoad_7 : decode cX5_doLoad 7 = .ok (.iaload, 1) := by decide +kernel
theorem dX5_doLoad_8 : decode cX5_doLoad 8 = .ok (.iload_n 1, 1) := by decide +kernel
theorem dX5_doLoad_9 : decode cX5_doLoad 9 = .ok (.iload_n 2, 1) := by decide +kernel
theorem dX5_doLoad_10 : decode cX5_doLoad 10 = .ok (.invokevirtual 74, 3) := by decide +kernel
theorem dX5_doLoad_13 : decode cX5_doLoad 13 = .ok (.aload_n 0, 1) := by decide +kernel
theorem dX5_doLoad_14 : decode cX5_doLoad 14 = .ok (.getfield 7, 3) := by decide +kernel
theorem dX5_doLoad_17 : decode cX5_doLoad 17 = .ok (.bipush 53, 2) := by decide +kernel
theorem dX5_doLoad_19 : decode cX5_doLoad 19 = .ok (.dup2, 1) := by decide +kernel
theorem dX5_doLoad_20 : decode cX5_doLoad 20 = .ok (.iaload, 1) := by decide +kernel
theorem dX5_doLoad_21 : decode cX5_doLoad 21 = .ok (.iconst 1, 1) := by decide +kernel
theorem dX5_doLoad_22 : decode cX5_doLoad 22 = .ok (.iadd, 1) := by decide +kernel
theorem dX5_doLoad_23 : decode cX5_doLoad 23 = .ok (.iastore, 1) := by decide +kernel
theorem dX5_doLoad_24 : decode cX5_doLoad 24 = .ok (.aload_n 0, 1) := by decide +kernel
theorem dX5_doLoad_25 : decode cX5_doLoad 25 = .ok (.getfield 7, 3) := by decide +kernel
theorem dX5_doLoad_28 : decode cX5_doLoad 28 = .ok (.bipush 53, 2) := by decide +kernel
theorem dX5_doLoad_30 : decode cX5_doLoad 30 = .ok (.iaload, 1) := by decide +kernel
theorem dX5_doLoad_31 : decode cX5_doLoad 31 = .ok (.iconst 1, 1) := by decide +kernel
theorem dX5_doLoad_32 : decode cX5_doLoad 32 = .ok (.isub, 1) := by decide +kernel
theorem dX5_doLoad_33 : decode cX5_doLoad 33 = .ok (.ireturn, 1) := by decide +kernel
theorem dX5_load_0 : decode cX5_load 0 = .ok (.aload_n 0, 1) := by decide +kernel
theorem dX5_load_1 : decode cX5_load 1 = .ok (.iload_n 1, 1) := by decide +kernel
theorem dX5_load_2 : decode cX5_load 2 = .ok (.iload_n 2, 1) := by decide +kernel
theorem dX5_load_3 : decode cX5_load 3 = .ok (.invokevirtual 77, 3) := by decide +kernel
theorem dX5_load_6 : decode cX5_load 6 = .ok (.istore_n 3, 1) := by decide +kernel
theorem dX5_load_7 : decode cX5_load 7 = .ok (.iload_n 3, 1) := by decide +kernel
theorem dX5_load_8 : decode cX5_load 8 = .ok (.ifCond .eq 5, 3) := by decide +kernel
theorem dX5_load_11 : decode cX5_load 11 = .ok (.iload_n 3, 1) := by decide +kernel
theorem dX5_load_12 : decode cX5_load 12 = .ok (.ireturn, 1) := by decide +kernel
theorem dX5_load_13 : decode cX5_load 13 = .ok (.aload_n 0, 1) := by decide +kernel
theorem dX5_load_14 : decode cX5_load 14 = .ok (.invokevirtual 38, 3) := by decide +kernel
theorem dX5_load_17 : decode cX5_load 17 = .ok (.aload_n 0, 1) := by decide +kernel
theorem dX5_load_18 : decode cX5_load 18 = .ok (.iload_n 1, 1) := by decide +kernel
theorem dX5_load_19 : decode cX5_load 19 = .ok (.iload_n 2, 1) := by decide +kernel
theorem dX5_load_20 : decode cX5_load 20 = .ok (.invokevirtual 80, 3) := by decide +kernel
theorem dX5_load_23 : decode cX5_load 23 = .ok (.ireturn, 1) := by decide +kernel
theorem dX5_noTakeOff_0 : decode cX5_noTakeOff 0 = .ok (.aload_n 0, 1) := by decide +kernel
theorem dX5_noTakeOff_1 : decode cX5_noTakeOff 1 = .ok (.iload_n 1, 1) := by decide +kernel
theorem dX5_noTakeOff_2 : decode cX5_noTakeOff 2 = .ok (.invokevirtual 83, 3) := by decide +kernel
theorem dX5_noTakeOff_5 : decode cX5_noTakeOff 5 = .ok (.ifCond .ne 9, 3) := by decide +kernel
theorem dX5_noTakeOff_8 : decode cX5_noTakeOff 8 = .ok (.sipush (-1001), 3) := by decide +kernel
theorem dX5_noTakeOff_11 : decode cX5_noTakeOff 11 = .ok (.goto 18, 3) := by decide +kernel
theorem dX5_noTakeOff_14 : decode cX5_noTakeOff 14 = .ok (.aload_n 0, 1) := by decide +kernel
theorem dX5_noTakeOff_15 : decode cX5_noTakeOff 15 = .ok (.iload_n 1, 1) := by decide +kernel
theorem dX5_noTakeOff_16 : decode cX5_noTakeOff 16 = .ok (.invokevirtual 67, 3) := by decide +kernel
theorem dX5_noTakeOff_19 : decode cX5_noTakeOff 19 = .ok (.ifCond .eq 7, 3) := by decide +kernel
theorem dX5_noTakeOff_22 : decode cX5_noTakeOff 22 = .ok (.iconst 0, 1) := by decide +kernel
theorem dX5_noTakeOff_23 : decode cX5_noTakeOff 23 = .ok (.goto 6, 3) := by decide +kernel
theorem dX5_noTakeOff_26 : decode cX5_noTakeOff 26 = .ok (.sipush (-1002), 3) := by decide +kernel
theorem dX5_noTakeOff_29 : decode cX5_noTakeOff 29 = .ok (.ireturn, 1) := by decide +kernel
theorem dX5_takeOff_0 : decode cX5_takeOff 0 = .ok (.aload_n 0, 1) := by decide +kernel
theorem dX5_takeOff_1 : decode cX5_takeOff 1 = .ok (.iload_n 1, 1) := by decide +kernel
theorem dX5_takeOff_2 : decode cX5_takeOff 2 = .ok (.invokevirtual 86, 3) := by decide +kernel
theorem dX5_takeOff_5 : decode cX5_takeOff 5 = .ok (.istore_n 2, 1) := by decide +kernel
theorem dX5_takeOff_6 : decode cX5_takeOff 6 = .ok (.iload_n 2, 1) := by decide +kernel
theorem dX5_takeOff_7 : decode cX5_takeOff 7 = .ok (.ifCond .eq 5, 3) := by decide +kernel
theorem dX5_takeOff_10 : decode cX5_takeOff 10 = .ok (.iload_n 2, 1) := by decide +kernel
theorem dX5_takeOff_11 : decode cX5_takeOff 11 = .ok (.ireturn, 1) := by decide +kernel
theorem dX5_takeOff_12 : decode cX5_takeOff 12 = .ok (.aload_n 0, 1) := by decide +kernel
theorem dX5_takeOff_13 : decode cX5_takeOff 13 = .ok (.invokevirtual 38, 3) := by decide +kernel
theorem dX5_takeOff_16 : decode cX5_takeOff 16 = .ok (.aload_n 0, 1) := by decide +kernel
theorem dX5_takeOff_17 : decode cX5_takeOff 17 = .ok (.getfield 7, 3) := by decide +kernel
theorem dX5_takeOff_20 : decode cX5_takeOff 20 = .ok (.iload_n 1, 1) := by decide +kernel
theorem dX5_takeOff_21 : decode cX5_takeOff 21 = .ok (.iconst 2, 1) := by decide +kernel
theorem dX5_takeOff_22 : decode cX5_takeOff 22 = .ok (.invokestatic 27, 3) := by decide +kernel
theorem dX5_takeOff_25 : decode cX5_takeOff 25 = .ok (.iconst 2, 1) := by decide +kernel
theorem dX5_takeOff_26 : decode cX5_takeOff 26 = .ok (.iastore, 1) := by decide +kernel
theorem dX5_takeOff_27 : decode cX5_takeOff 27 = .ok (.aload_n 0, 1) := by decide +kernel
theorem dX5_takeOff_28 : decode cX5_takeOff 28 = .ok (.getfield 7, 3) := by decide +kernel
theorem dX5_takeOff_31 : decode cX5_takeOff 31 = .ok (.iload_n 1, 1) := by decide +kernel
theorem dX5_takeOff_32 : decode cX5_takeOff 32 = .ok (.iconst 3, 1) := by decide +kernel
theorem dX5_takeOff_33 : decode cX5_takeOff 33 = .ok (.invokestatic 27, 3) := by decide +kernel
theorem dX5_takeOff_36 : decode cX5_takeOff 36 = .ok (.iaload, 1) := by decide +kernel
theorem dX5_takeOff_37 : decode cX5_takeOff 37 = .ok (.ireturn, 1) := by decide +kernel
theorem dX5_faultIf_0 : decode cX5_faultIf 0 = .ok (.iload_n 1, 1) := by decide +kernel
theorem dX5_faultIf_1 : decode cX5_faultIf 1 = .ok (.ifCond .eq 73, 3) := by decide +kernel
theorem dX5_faultIf_4 : decode cX5_faultIf 4 = .ok (.aload_n 0, 1) := by decide +kernel
theorem dX5_faultIf_5 : decode cX5_faultIf 5 = .ok (.getfield 7, 3) := by decide +kernel
theorem dX5_faultIf_8 : decode cX5_faultIf 8 = .ok (.iload_n 2, 1) := by decide +kernel
theorem dX5_faultIf_9 : decode cX5_faultIf 9 = .ok (.bipush 8, 2) := by decide +kernel
theorem dX5_faultIf_11 : decode cX5_faultIf 11 = .ok (.invokestatic 27, 3) := by decide +kernel
theorem dX5_faultIf_14 : decode cX5_faultIf 14 = .ok (.iaload, 1) := by decide +kernel
theorem dX5_faultIf_15 : decode cX5_faultIf 15 = .ok (.iload_n 3, 1) := by decide +kernel
theorem dX5_faultIf_16 : decode cX5_faultIf 16 = .ok (.ishr, 1) := by decide +kernel
theorem dX5_faultIf_17 : decode cX5_faultIf 17 = .ok (.iconst 1, 1) := by decide +kernel
theorem dX5_faultIf_18 : decode cX5_faultIf 18 = .ok (.iand, 1) := by decide +kernel
theorem dX5_faultIf_19 : decode cX5_faultIf 19 = .ok (.ifCond .ne 55, 3) := by decide +kernel
theorem dX5_faultIf_22 : decode cX5_faultIf 22 = .ok (.aload_n 0, 1) := by decide +kernel
theorem dX5_faultIf_23 : decode cX5_faultIf 23 = .ok (.getfield 7, 3) := by decide +kernel
theorem dX5_faultIf_26 : decode cX5_faultIf 26 = .ok (.iload_n 2, 1) := by decide +kernel
theorem dX5_faultIf_27 : decode cX5_faultIf 27 = .ok (.bipush 8, 2) := by decide +kernel
theorem dX5_faultIf_29 : decode cX5_faultIf 29 = .ok (.invokestatic 27, 3) := by decide +kernel
theorem dX5_faultIf_32 : decode cX5_faultIf 32 = .ok (.dup2, 1) := by decide +kernel
theorem dX5_faultIf_33 : decode cX5_faultIf 33 = .ok (.iaload, 1) := by decide +kernel
theorem dX5_faultIf_34 : decode cX5_faultIf 34 = .ok (.iconst 1, 1) := by decide +kernel
theorem dX5_faultIf_35 : decode cX5_faultIf 35 = .ok (.iload_n 3, 1) := by decide +kernel
theorem dX5_faultIf_36 : decode cX5_faultIf 36 = .ok (.ishl, 1) := by decide +kernel
theorem dX5_faultIf_37 : decode cX5_faultIf 37 = .ok (.ior, 1) := by decide +kernel
theorem dX5_faultIf_38 : decode cX5_faultIf 38 = .ok (.iastore, 1) := by decide +kernel
theorem dX5_faultIf_39 : decode cX5_faultIf 39 = .ok (.aload_n 0, 1) := by decide +kernel
theorem dX5_faultIf_40 : decode cX5_faultIf 40 = .ok (.getfield 7, 3) := by decide +kernel
theorem dX5_faultIf_43 : decode cX5_faultIf 43 = .ok (.iload_n 2, 1) := by decide +kernel
theorem dX5_faultIf_44 : decode cX5_faultIf 44 = .ok (.bipush 11, 2) := by decide +kernel
theorem dX5_faultIf_46 : decode cX5_faultIf 46 = .ok (.iload_n 3, 1) := by decide +kernel
theorem dX5_faultIf_47 : decode cX5_faultIf 47 = .ok (.iadd, 1) := by decide +kernel
theorem dX5_faultIf_48 : decode cX5_faultIf 48 = .ok (.invokestatic 27, 3) := by decide +kernel
theorem dX5_faultIf_51 : decode cX5_faultIf 51 = .ok (.iload 4, 2) := by decide +kernel
theorem dX5_faultIf_53 : decode cX5_faultIf 53 = .ok (.iastore, 1) := by decide +kernel
theorem dX5_faultIf_54 : decode cX5_faultIf 54 = .ok (.aload_n 0, 1) := by decide +kernel
theorem dX5_faultIf_55 : decode cX5_faultIf 55 = .ok (.getfield 7, 3) := by decide +kernel
theorem dX5_faultIf_58 : decode cX5_faultIf 58 = .ok (.iload_n 2, 1) := by decide +kernel
theorem dX5_faultIf_59 : decode cX5_faultIf 59 = .ok (.bipush 16, 2) := by decide +kernel
theorem dX5_faultIf_61 : decode cX5_faultIf 61 = .ok (.iload_n 3, 1) := by decide +kernel
theorem dX5_faultIf_62 : decode cX5_faultIf 62 = .ok (.iadd, 1) := by decide +kernel
theorem dX5_faultIf_63 : decode cX5_faultIf 63 = .ok (.invokestatic 27, 3) := by decide +kernel
theorem dX5_faultIf_66 : decode cX5_faultIf 66 = .ok (.aload_n 0, 1) := by decide +kernel
theorem dX5_faultIf_67 : decode cX5_faultIf 67 = .ok (.getfield 7, 3) := by decide +kernel
theorem dX5_faultIf_70 : decode cX5_faultIf 70 = .ok (.bipush 52, 2) := by decide +kernel
theorem dX5_faultIf_72 : decode cX5_faultIf 72 = .ok (.iaload, 1) := by decide +kernel
theorem dX5_faultIf_73 : decode cX5_faultIf 73 = .ok (.iastore, 1) := by decide +kernel
theorem dX5_faultIf_74 : decode cX5_faultIf 74 = .ok (.return_, 1) := by decide +kernel
theorem dX5_curveOf_0 : decode cX5_curveOf 0 = .ok (.aload_n 0, 1) := by decide +kernel
theorem dX5_curveOf_1 : decode cX5_curveOf 1 = .ok (.getfield 7, 3) := by decide +kernel
theorem dX5_curveOf_4 : decode cX5_curveOf 4 = .ok (.aload_n 0, 1) := by decide +kernel
theorem dX5_curveOf_5 : decode cX5_curveOf 5 = .ok (.getfield 7, 3) := by decide +kernel
theorem dX5_curveOf_8 : decode cX5_curveOf 8 = .ok (.iload_n 1, 1) := by decide +kernel
theorem dX5_curveOf_9 : decode cX5_curveOf 9 = .ok (.iconst 0, 1) := by decide +kernel
theorem dX5_curveOf_10 : decode cX5_curveOf 10 = .ok (.invokestatic 27, 3) := by decide +kernel
theorem dX5_curveOf_13 : decode cX5_curveOf 13 = .ok (.iaload, 1) := by decide +kernel
theorem dX5_curveOf_14 : decode cX5_curveOf 14 = .ok (.iload_n 2, 1) := by decide +kernel
theorem dX5_curveOf_15 : decode cX5_curveOf 15 = .ok (.invokestatic 20, 3) := by decide +kernel
theorem dX5_curveOf_18 : decode cX5_curveOf 18 = .ok (.iaload, 1) := by decide +kernel
theorem dX5_curveOf_19 : decode cX5_curveOf 19 = .ok (.ireturn, 1) := by decide +kernel
theorem dX5_goOn_0 : decode cX5_goOn 0 = .ok (.aload_n 0, 1) := by decide +kernel
theorem dX5_goOn_1 : decode cX5_goOn 1 = .ok (.invokevirtual 49, 3) := by decide +kernel
theorem dX5_goOn_4 : decode cX5_goOn 4 = .ok (.istore_n 2, 1) := by decide +kernel
theorem dX5_goOn_5 : decode cX5_goOn 5 = .ok (.aload_n 0, 1) := by decide +kernel
theorem dX5_goOn_6 : decode cX5_goOn 6 = .ok (.getfield 7, 3) := by decide +kernel
theorem dX5_goOn_9 : decode cX5_goOn 9 = .ok (.iload_n 1, 1) := by decide +kernel
theorem dX5_goOn_10 : decode cX5_goOn 10 = .ok (.iconst 3, 1) := by decide +kernel
theorem dX5_goOn_11 : decode cX5_goOn 11 = .ok (.invokestatic 27, 3) := by decide +kernel
theorem dX5_goOn_14 : decode cX5_goOn 14 = .ok (.dup2, 1) := by decide +kernel
theorem dX5_goOn_15 : decode cX5_goOn 15 = .ok (.iaload, 1) := by decide +kernel
theorem dX5_goOn_16 : decode cX5_goOn 16 = .ok (.aload_n 0, 1) := by decide +kernel
theorem dX5_goOn_17 : decode cX5_goOn 17 = .ok (.getfield 7, 3) := by decide +kernel
theorem dX5_goOn_20 : decode cX5_goOn 20 = .ok (.bipush 48, 2) := by decide +kernel
theorem dX5_goOn_22 : decode cX5_goOn 22 = .ok (.iaload, 1) := by decide +kernel
theorem dX5_goOn_23 : decode cX5_goOn 23 = .ok (.iadd, 1) := by decide +kernel
theorem dX5_goOn_24 : decode cX5_goOn 24 = .ok (.iastore, 1) := by decide +kernel
theorem dX5_goOn_25 : decode cX5_goOn 25 = .ok (.aload_n 0, 1) := by decide +kernel
theorem dX5_goOn_26 : decode cX5_goOn 26 = .ok (.getfield 7, 3) := by decide +kernel
theorem dX5_goOn_29 : decode cX5_goOn 29 = .ok (.iload_n 1, 1) := by decide +kernel
theorem dX5_goOn_30 : decode cX5_goOn 30 = .ok (.iconst 3, 1) := by decide +kernel
theorem dX5_goOn_31 : decode cX5_goOn 31 = .ok (.invokestatic 27, 3) := by decide +kernel
theorem dX5_goOn_34 : decode cX5_goOn 34 = .ok (.iaload, 1) := by decide +kernel
theorem dX5_goOn_35 : decode cX5_goOn 35 = .ok (.iload_n 2, 1) := by decide +kernel
theorem dX5_goOn_36 : decode cX5_goOn 36 = .ok (.if_icmp .lt 96, 3) := by decide +kernel
theorem dX5_goOn_39 : decode cX5_goOn 39 = .ok (.aload_n 0, 1) := by decide +kernel
theorem dX5_goOn_40 : decode cX5_goOn 40 = .ok (.getfield 7, 3) := by decide +kernel
theorem dX5_goOn_43 : decode cX5_goOn 43 = .ok (.iload_n 1, 1) := by decide +kernel
theorem dX5_goOn_44 : decode cX5_goOn 44 = .ok (.iconst 2, 1) := by decide +kernel
theorem dX5_goOn_45 : decode cX5_goOn 45 = .ok (.invokestatic 27, 3) := by decide +kernel
theorem dX5_goOn_48 : decode cX5_goOn 48 = .ok (.iconst 1, 1) := by decide +kernel
theorem dX5_goOn_49 : decode cX5_goOn 49 = .ok (.iastore, 1) := by decide +kernel
theorem dX5_goOn_50 : decode cX5_goOn 50 = .ok (.aload_n 0, 1) := by decide +kernel
theorem dX5_goOn_51 : decode cX5_goOn 51 = .ok (.getfield 7, 3) := by decide +kernel
theorem dX5_goOn_54 : decode cX5_goOn 54 = .ok (.iload_n 1, 1) := by decide +kernel
theorem dX5_goOn_55 : decode cX5_goOn 55 = .ok (.bipush 10, 2) := by decide +kernel
theorem dX5_goOn_57 : decode cX5_goOn 57 = .ok (.invokestatic 27, 3) := by decide +kernel
theorem dX5_goOn_60 : decode cX5_goOn 60 = .ok (.aload_n 0, 1) := by decide +kernel
theorem dX5_goOn_61 : decode cX5_goOn 61 = .ok (.getfield 7, 3) := by decide +kernel
theorem dX5_goOn_64 : decode cX5_goOn 64 = .ok (.bipush 52, 2) := by decide +kernel
theorem dX5_goOn_66 : decode cX5_goOn 66 = .ok (.iaload, 1) := by decide +kernel
theorem dX5_goOn_67 : decode cX5_goOn 67 = .ok (.iastore, 1) := by decide +kernel
theorem dX5_goOn_68 : decode cX5_goOn 68 = .ok (.aload_n 0, 1) := by decide +kernel
theorem dX5_goOn_69 : decode cX5_goOn 69 = .ok (.aload_n 0, 1) := by decide +kernel
theorem dX5_goOn_70 : decode cX5_goOn 70 = .ok (.getfield 7, 3) := by decide +kernel
theorem dX5_goOn_73 : decode cX5_goOn 73 = .ok (.iload_n 1, 1) := by decide +kernel
theorem dX5_goOn_74 : decode cX5_goOn 74 = .ok (.bipush 7, 2) := by decide +kernel
theorem dX5_goOn_76 : decode cX5_goOn 76 = .ok (.invokestatic 27, 3) := by decide +kernel
theorem dX5_goOn_79 : decode cX5_goOn 79 = .ok (.iaload, 1) := by decide +kernel
theorem dX5_goOn_80 : decode cX5_goOn 80 = .ok (.aload_n 0, 1) := by decide +kernel
theorem dX5_goOn_81 : decode cX5_goOn 81 = .ok (.iload_n 1, 1) := by decide +kernel
theorem dX5_goOn_82 : decode cX5_goOn 82 = .ok (.iconst 2, 1) := by decide +kernel
theorem dX5_goOn_83 : decode cX5_goOn 83 = .ok (.invokevirtual 89, 3) := by decide +kernel
theorem dX5_goOn_86 : decode cX5_goOn 86 = .ok (.if_icmp .ge 7, 3) := by decide +kernel
theorem dX5_goOn_89 : decode cX5_goOn 89 = .ok (.iconst 1, 1) := by decide +kernel
theorem dX5_goOn_90 : decode cX5_goOn 90 = .ok (.goto 4, 3) := by decide +kernel
theorem dX5_goOn_93 : decode cX5_goOn 93 = .ok (.iconst 0, 1) := by decide +kernel
theorem dX5_goOn_94 : decode cX5_goOn 94 = .ok (.iload_n 1, 1) := by decide +kernel
theorem dX5_goOn_95 : decode cX5_goOn 95 = .ok (.iconst 3, 1) := by decide +kernel
theorem dX5_goOn_96 : decode cX5_goOn 96 = .ok (.iload_n 2, 1) := by decide +kernel
theorem dX5_goOn_97 : decode cX5_goOn 97 = .ok (.invokevirtual 92, 3) := by decide +kernel
theorem dX5_goOn_100 : decode cX5_goOn 100 = .ok (.aload_n 0, 1) := by decide +kernel
theorem dX5_goOn_101 : decode cX5_goOn 101 = .ok (.aload_n 0, 1) := by decide +kernel
theorem dX5_goOn_102 : decode cX5_goOn 102 = .ok (.getfield 7, 3) := by decide +kernel
theorem dX5_goOn_105 : decode cX5_goOn 105 = .ok (.iload_n 1, 1) := by decide +kernel
theorem dX5_goOn_106 : decode cX5_goOn 106 = .ok (.bipush 6, 2) := by decide +kernel
theorem dX5_goOn_108 : decode cX5_goOn 108 = .ok (.invokestatic 27, 3) := by decide +kernel
theorem dX5_goOn_111 : decode cX5_goOn 111 = .ok (.iaload, 1) := by decide +kernel
theorem dX5_goOn_112 : decode cX5_goOn 112 = .ok (.aload_n 0, 1) := by decide +kernel
theorem dX5_goOn_113 : decode cX5_goOn 113 = .ok (.iload_n 1, 1) := by decide +kernel
theorem dX5_goOn_114 : decode cX5_goOn 114 = .ok (.iconst 4, 1) := by decide +kernel
theorem dX5_goOn_115 : decode cX5_goOn 115 = .ok (.invokevirtual 89, 3) := by decide +kernel
theorem dX5_goOn_118 : decode cX5_goOn 118 = .ok (.if_icmp .ge 7, 3) := by decide +kernel
theorem dX5_goOn_121 : decode cX5_goOn 121 = .ok (.iconst 1, 1) := by decide +kernel
theorem dX5_goOn_122 : decode cX5_goOn 122 = .ok (.goto 4, 3) := by decide +kernel
theorem dX5_goOn_125 : decode cX5_goOn 125 = .ok (.iconst 0, 1) := by decide +kernel
theorem dX5_goOn_126 : decode cX5_goOn 126 = .ok (.iload_n 1, 1) := by decide +kernel
theorem dX5_goOn_127 : decode cX5_goOn 127 = .ok (.iconst 4, 1) := by decide +kernel
theorem dX5_goOn_128 : decode cX5_goOn 128 = .ok (.iload_n 2, 1) := by decide +kernel
theorem dX5_goOn_129 : decode cX5_goOn 129 = .ok (.invokevirtual 92, 3) := by decide +kernel
theorem dX5_goOn_132 : decode cX5_goOn 132 = .ok (.return_, 1) := by decide +kernel
theorem dX5_weightsIn_0 : decode cX5_weightsIn 0 = .ok (.iconst 0, 1) := by decide +kernel
theorem dX5_weightsIn_1 : decode cX5_weightsIn 1 = .ok (.istore_n 2, 1) := by decide +kernel
theorem dX5_weightsIn_2 : decode cX5_weightsIn 2 = .ok (.iconst 0, 1) := by decide +kernel
theorem dX5_weightsIn_3 : decode cX5_weightsIn 3 = .ok (.istore_n 3, 1) := by decide +kernel
theorem dX5_weightsIn_4 : decode cX5_weightsIn 4 = .ok (.iload_n 3, 1) := by decide +kernel
theorem dX5_weightsIn_5 : decode cX5_weightsIn 5 = .ok (.aload_n 0, 1) := by decide +kernel
theorem dX5_weightsIn_6 : decode cX5_weightsIn 6 = .ok (.getfield 7, 3) := by decide +kernel
theorem dX5_weightsIn_9 : decode cX5_weightsIn 9 = .ok (.bipush 53, 2) := by decide +kernel
theorem dX5_weightsIn_11 : decode cX5_weightsIn 11 = .ok (.iaload, 1) := by decide +kernel
theorem dX5_weightsIn_12 : decode cX5_weightsIn 12 = .ok (.if_icmp .ge 52, 3) := by decide +kernel
theorem dX5_weightsIn_15 : decode cX5_weightsIn 15 = .ok (.iload_n 2, 1) := by decide +kernel
theorem dX5_weightsIn_16 : decode cX5_weightsIn 16 = .ok (.aload_n 0, 1) := by decide +kernel
theorem dX5_weightsIn_17 : decode cX5_weightsIn 17 = .ok (.iload_n 3, 1) := by decide +kernel
theorem dX5_weightsIn_18 : decode cX5_weightsIn 18 = .ok (.invokevirtual 67, 3) := by decide +kernel
theorem dX5_weightsIn_21 : decode cX5_weightsIn 21 = .ok (.ifCond .eq 34, 3) := by decide +kernel
theorem dX5_weightsIn_24 : decode cX5_weightsIn 24 = .ok (.aload_n 0, 1) := by decide +kernel
theorem dX5_weightsIn_25 : decode cX5_weightsIn 25 = .ok (.aload_n 0, 1) := by decide +kernel
theorem dX5_weightsIn_26 : decode cX5_weightsIn 26 = .ok (.getfield 7, 3) := by decide +kernel
theorem dX5_weightsIn_29 : decode cX5_weightsIn 29 = .ok (.iload_n 3, 1) := by decide +kernel
theorem dX5_weightsIn_30 : decode cX5_weightsIn 30 = .ok (.iconst 3, 1) := by decide +kernel
theorem dX5_weightsIn_31 : decode cX5_weightsIn 31 = .ok (.invokestatic 27, 3) := by decide +kernel
theorem dX5_weightsIn_34 : decode cX5_weightsIn 34 = .ok (.iaload, 1) := by decide +kernel
theorem dX5_weightsIn_35 : decode cX5_weightsIn 35 = .ok (.invokevirtual 96, 3) := by decide +kernel
theorem dX5_weightsIn_38 : decode cX5_weightsIn 38 = .ok (.iload_n 1, 1) := by decide +kernel
theorem dX5_weightsIn_39 : decode cX5_weightsIn 39 = .ok (.if_icmp .ne 16, 3) := by decide +kernel
theorem dX5_weightsIn_42 : decode cX5_weightsIn 42 = .ok (.aload_n 0, 1) := by decide +kernel
theorem dX5_weightsIn_43 : decode cX5_weightsIn 43 = .ok (.getfield 7, 3) := by decide +kernel
theorem dX5_weightsIn_46 : decode cX5_weightsIn 46 = .ok (.iload_n 3, 1) := by decide +kernel
theorem dX5_weightsIn_47 : decode cX5_weightsIn 47 = .ok (.iconst 1, 1) := by decide +kernel
theorem dX5_weightsIn_48 : decode cX5_weightsIn 48 = .ok (.invokestatic 27, 3) := by decide +kernel
theorem dX5_weightsIn_51 : decode cX5_weightsIn 51 = .ok (.iaload, 1) := by decide +kernel
theorem dX5_weightsIn_52 : decode cX5_weightsIn 52 = .ok (.goto 4, 3) := by decide +kernel
theorem dX5_weightsIn_55 : decode cX5_weightsIn 55 = .ok (.iconst 0, 1) := by decide +kernel
theorem dX5_weightsIn_56 : decode cX5_weightsIn 56 = .ok (.iadd, 1) := by decide +kernel
theorem dX5_weightsIn_57 : decode cX5_weightsIn 57 = .ok (.istore_n 2, 1) := by decide +kernel
theorem dX5_weightsIn_58 : decode cX5_weightsIn 58 = .ok (.iinc 3 1, 3) := by decide +kernel
theorem dX5_weightsIn_61 : decode cX5_weightsIn 61 = .ok (.goto (-57), 3) := by decide +kernel
theorem dX5_weightsIn_64 : decode cX5_weightsIn 64 = .ok (.iload_n 2, 1) := by decide +kernel
theorem dX5_weightsIn_65 : decode cX5_weightsIn 65 = .ok (.ireturn, 1) := by decide +kernel
theorem dX5_heat_0 : decode cX5_heat 0 = .ok (.aload_n 0, 1) := by decide +kernel
theorem dX5_heat_1 : decode cX5_heat 1 = .ok (.getfield 7, 3) := by decide +kernel
theorem dX5_heat_4 : decode cX5_heat 4 = .ok (.iload_n 1, 1) := by decide +kernel
theorem dX5_heat_5 : decode cX5_heat 5 = .ok (.iconst 3, 1) := by decide +kernel
theorem dX5_heat_6 : decode cX5_heat 6 = .ok (.invokestatic 16, 3) := by decide +kernel
theorem dX5_heat_9 : decode cX5_heat 9 = .ok (.iaload, 1) := by decide +kernel
theorem dX5_heat_10 : decode cX5_heat 10 = .ok (.aload_n 0, 1) := by decide +kernel
theorem dX5_heat_11 : decode cX5_heat 11 = .ok (.getfield 7, 3) := by decide +kernel
theorem dX5_heat_14 : decode cX5_heat 14 = .ok (.bipush 51, 2) := by decide +kernel
theorem dX5_heat_16 : decode cX5_heat 16 = .ok (.iaload, 1) := by decide +kernel
theorem dX5_heat_17 : decode cX5_heat 17 = .ok (.aload_n 0, 1) := by decide +kernel
theorem dX5_heat_18 : decode cX5_heat 18 = .ok (.iload_n 1, 1) := by decide +kernel
theorem dX5_heat_19 : decode cX5_heat 19 = .ok (.invokevirtual 99, 3) := by decide +kernel
theorem dX5_heat_22 : decode cX5_heat 22 = .ok (.imul, 1) := by decide +kernel
theorem dX5_heat_23 : decode cX5_heat 23 = .ok (.iconst 5, 1) := by decide +kernel
theorem dX5_heat_24 : decode cX5_heat 24 = .ok (.idiv, 1) := by decide +kernel
theorem dX5_heat_25 : decode cX5_heat 25 = .ok (.isub, 1) := by decide +kernel
theorem dX5_heat_26 : decode cX5_heat 26 = .ok (.istore_n 2, 1) := by decide +kernel
theorem dX5_heat_27 : decode cX5_heat 27 = .ok (.aload_n 0, 1) := by decide +kernel
theorem dX5_heat_28 : decode cX5_heat 28 = .ok (.getfield 7, 3) := by decide +kernel
theorem dX5_heat_31 : decode cX5_heat 31 = .ok (.iload_n 1, 1) := by decide +kernel
theorem dX5_heat_32 : decode cX5_heat 32 = .ok (.iconst 1, 1) := by decide +kernel
theorem dX5_heat_33 : decode cX5_heat 33 = .ok (.invokestatic 16, 3) := by decide +kernel
theorem dX5_heat_36 : decode cX5_heat 36 = .ok (.iaload, 1) := by decide +kernel
theorem dX5_heat_37 : decode cX5_heat 37 = .ok (.istore_n 3, 1) := by decide +kernel
theorem dX5_heat_38 : decode cX5_heat 38 = .ok (.aload_n 0, 1) := by decide +kernel
theorem dX5_heat_39 : decode cX5_heat 39 = .ok (.getfield 7, 3) := by decide +kernel
theorem dX5_heat_42 : decode cX5_heat 42 = .ok (.iload_n 1, 1) := by decide +kernel
theorem dX5_heat_43 : decode cX5_heat 43 = .ok (.iconst 2, 1) := by decide +kernel
theorem dX5_heat_44 : decode cX5_heat 44 = .ok (.invokestatic 16, 3) := by decide +kernel
theorem dX5_heat_47 : decode cX5_heat 47 = .ok (.iaload, 1) := by decide +kernel
theorem dX5_heat_48 : decode cX5_heat 48 = .ok (.istore 4, 2) := by decide +kernel
theorem dX5_heat_50 : decode cX5_heat 50 = .ok (.iload_n 2, 1) := by decide +kernel
theorem dX5_heat_51 : decode cX5_heat 51 = .ok (.bipush 20, 2) := by decide +kernel
theorem dX5_heat_53 : decode cX5_heat 53 = .ok (.if_icmp .ge 8, 3) := by decide +kernel
theorem dX5_heat_56 : decode cX5_heat 56 = .ok (.bipush 20, 2) := by decide +kernel
theorem dX5_heat_58 : decode cX5_heat 58 = .ok (.goto 4, 3) := by decide +kernel
theorem dX5_heat_61 : decode cX5_heat 61 = .ok (.iload_n 2, 1) := by decide +kernel
theorem dX5_heat_62 : decode cX5_heat 62 = .ok (.istore_n 2, 1) := by decide +kernel
theorem dX5_heat_63 : decode cX5_heat 63 = .ok (.iload_n 2, 1) := by decide +kernel
theorem dX5_heat_64 : decode cX5_heat 64 = .ok (.iload_n 3, 1) := by decide +kernel
theorem dX5_heat_65 : decode cX5_heat 65 = .ok (.if_icmp .ge 23, 3) := by decide +kernel
theorem dX5_heat_68 : decode cX5_heat 68 = .ok (.iload_n 2, 1) := by decide +kernel
theorem dX5_heat_69 : decode cX5_heat 69 = .ok (.iload 4, 2) := by decide +kernel
theorem dX5_heat_71 : decode cX5_heat 71 = .ok (.iadd, 1) := by decide +kernel
theorem dX5_heat_72 : decode cX5_heat 72 = .ok (.iload_n 3, 1) := by decide +kernel
theorem dX5_heat_73 : decode cX5_heat 73 = .ok (.if_icmp .ge 10, 3) := by decide +kernel
theorem dX5_heat_76 : decode cX5_heat 76 = .ok (.iload_n 2, 1) := by decide +kernel
theorem dX5_heat_77 : decode cX5_heat 77 = .ok (.iload 4, 2) := by decide +kernel
theorem dX5_heat_79 : decode cX5_heat 79 = .ok (.iadd, 1) := by decide +kernel
theorem dX5_heat_80 : decode cX5_heat 80 = .ok (.goto 4, 3) := by decide +kernel
theorem dX5_heat_83 : decode cX5_heat 83 = .ok (.iload_n 3, 1) := by decide +kernel
theorem dX5_heat_84 : decode cX5_heat 84 = .ok (.istore_n 2, 1) := by decide +kernel
theorem dX5_heat_85 : decode cX5_heat 85 = .ok (.goto 20, 3) := by decide +kernel
theorem dX5_heat_88 : decode cX5_heat 88 = .ok (.iload_n 2, 1) := by decide +kernel
theorem dX5_heat_89 : decode cX5_heat 89 = .ok (.iload 4, 2) := by decide +kernel
theorem dX5_heat_91 : decode cX5_heat 91 = .ok (.isub, 1) := by decide +kernel
theorem dX5_heat_92 : decode cX5_heat 92 = .ok (.iload_n 3, 1) := by decide +kernel
theorem dX5_heat_93 : decode cX5_heat 93 = .ok (.if_icmp .le 10, 3) := by decide +kernel
theorem dX5_heat_96 : decode cX5_heat 96 = .ok (.iload_n 2, 1) := by decide +kernel
theorem dX5_heat_97 : decode cX5_heat 97 = .ok (.iload 4, 2) := by decide +kernel
theorem dX5_heat_99 : decode cX5_heat 99 = .ok (.isub, 1) := by decide +kernel
theorem dX5_heat_100 : decode cX5_heat 100 = .ok (.goto 4, 3) := by decide +kernel
theorem dX5_heat_103 : decode cX5_heat 103 = .ok (.iload_n 3, 1) := by decide +kernel
theorem dX5_heat_104 : decode cX5_heat 104 = .ok (.istore_n 2, 1) := by decide +kernel
theorem dX5_heat_105 : decode cX5_heat 105 = .ok (.aload_n 0, 1) := by decide +kernel
theorem dX5_heat_106 : decode cX5_heat 106 = .ok (.getfield 7, 3) := by decide +kernel
theorem dX5_heat_109 : decode cX5_heat 109 = .ok (.iload_n 1, 1) := by decide +kernel
theorem dX5_heat_110 : decode cX5_heat 110 = .ok (.iconst 3, 1) := by decide +kernel
theorem dX5_heat_111 : decode cX5_heat 111 = .ok (.invokestatic 16, 3) := by decide +kernel
theorem dX5_heat_114 : decode cX5_heat 114 = .ok (.iload_n 2, 1) := by decide +kernel
theorem dX5_heat_115 : decode cX5_heat 115 = .ok (.iastore, 1) := by decide +kernel
theorem dX5_heat_116 : decode cX5_heat 116 = .ok (.return_, 1) := by decide +kernel
theorem dX5_warmUp_0 : decode cX5_warmUp 0 = .ok (.aload_n 0, 1) := by decide +kernel
theorem dX5_warmUp_1 : decode cX5_warmUp 1 = .ok (.getfield 7, 3) := by decide +kernel
theorem dX5_warmUp_4 : decode cX5_warmUp 4 = .ok (.iload_n 1, 1) := by decide +kernel
theorem dX5_warmUp_5 : decode cX5_warmUp 5 = .ok (.iconst 3, 1) := by decide +kernel
theorem dX5_warmUp_6 : decode cX5_warmUp 6 = .ok (.invokestatic 27, 3) := by decide +kernel
theorem dX5_warmUp_9 : decode cX5_warmUp 9 = .ok (.iaload, 1) := by decide +kernel
theorem dX5_warmUp_10 : decode cX5_warmUp 10 = .ok (.istore_n 2, 1) := by decide +kernel
theorem dX5_warmUp_11 : decode cX5_warmUp 11 = .ok (.aload_n 0, 1) := by decide +kernel
theorem dX5_warmUp_12 : decode cX5_warmUp 12 = .ok (.getfield 7, 3) := by decide +kernel
theorem dX5_warmUp_15 : decode cX5_warmUp 15 = .ok (.aload_n 0, 1) := by decide +kernel
theorem dX5_warmUp_16 : decode cX5_warmUp 16 = .ok (.iload_n 2, 1) := by decide +kernel
theorem dX5_warmUp_17 : decode cX5_warmUp 17 = .ok (.invokevirtual 96, 3) := by decide +kernel
theorem dX5_warmUp_20 : decode cX5_warmUp 20 = .ok (.iconst 3, 1) := by decide +kernel
theorem dX5_warmUp_21 : decode cX5_warmUp 21 = .ok (.invokestatic 16, 3) := by decide +kernel
theorem dX5_warmUp_24 : decode cX5_warmUp 24 = .ok (.iaload, 1) := by decide +kernel
theorem dX5_warmUp_25 : decode cX5_warmUp 25 = .ok (.aload_n 0, 1) := by decide +kernel
theorem dX5_warmUp_26 : decode cX5_warmUp 26 = .ok (.getfield 7, 3) := by decide +kernel
theorem dX5_warmUp_29 : decode cX5_warmUp 29 = .ok (.iload_n 1, 1) := by decide +kernel
theorem dX5_warmUp_30 : decode cX5_warmUp 30 = .ok (.iconst 4, 1) := by decide +kernel
theorem dX5_warmUp_31 : decode cX5_warmUp 31 = .ok (.invokestatic 27, 3) := by decide +kernel
theorem dX5_warmUp_34 : decode cX5_warmUp 34 = .ok (.iaload, 1) := by decide +kernel
theorem dX5_warmUp_35 : decode cX5_warmUp 35 = .ok (.isub, 1) := by decide +kernel
theorem dX5_warmUp_36 : decode cX5_warmUp 36 = .ok (.aload_n 0, 1) := by decide +kernel
theorem dX5_warmUp_37 : decode cX5_warmUp 37 = .ok (.getfield 7, 3) := by decide +kernel
theorem dX5_warmUp_40 : decode cX5_warmUp 40 = .ok (.iload_n 1, 1) := by decide +kernel
theorem dX5_warmUp_41 : decode cX5_warmUp 41 = .ok (.iconst 1, 1) := by decide +kernel
theorem dX5_warmUp_42 : decode cX5_warmUp 42 = .ok (.invokestatic 27, 3) := by decide +kernel
theorem dX5_warmUp_45 : decode cX5_warmUp 45 = .ok (.iaload, 1) := by decide +kernel
theorem dX5_warmUp_46 : decode cX5_warmUp 46 = .ok (.iconst 1, 1) := by decide +kernel
theorem dX5_warmUp_47 : decode cX5_warmUp 47 = .ok (.iadd, 1) := by decide +kernel
theorem dX5_warmUp_48 : decode cX5_warmUp 48 = .ok (.idiv, 1) := by decide +kernel
theorem dX5_warmUp_49 : decode cX5_warmUp 49 = .ok (.istore_n 3, 1) := by decide +kernel
theorem dX5_warmUp_50 : decode cX5_warmUp 50 = .ok (.aload_n 0, 1) := by decide +kernel
theorem dX5_warmUp_51 : decode cX5_warmUp 51 = .ok (.getfield 7, 3) := by decide +kernel
theorem dX5_warmUp_54 : decode cX5_warmUp 54 = .ok (.iload_n 1, 1) := by decide +kernel
theorem dX5_warmUp_55 : decode cX5_warmUp 55 = .ok (.iconst 4, 1) := by decide +kernel
theorem dX5_warmUp_56 : decode cX5_warmUp 56 = .ok (.invokestatic 27, 3) := by decide +kernel
theorem dX5_warmUp_59 : decode cX5_warmUp 59 = .ok (.iaload, 1) := by decide +kernel
theorem dX5_warmUp_60 : decode cX5_warmUp 60 = .ok (.iload_n 3, 1) := by decide +kernel
theorem dX5_warmUp_61 : decode cX5_warmUp 61 = .ok (.iadd, 1) := by decide +kernel
theorem dX5_warmUp_62 : decode cX5_warmUp 62 = .ok (.istore 4, 2) := by decide +kernel
theorem dX5_warmUp_64 : decode cX5_warmUp 64 = .ok (.aload_n 0, 1) := by decide +kernel
theorem dX5_warmUp_65 : decode cX5_warmUp 65 = .ok (.getfield 7, 3) := by decide +kernel
theorem dX5_warmUp_68 : decode cX5_warmUp 68 = .ok (.iload_n 1, 1) := by decide +kernel
theorem dX5_warmUp_69 : decode cX5_warmUp 69 = .ok (.iconst 5, 1) := by decide +kernel
theorem dX5_warmUp_70 : decode cX5_warmUp 70 = .ok (.invokestatic 27, 3) := by decide +kernel
theorem dX5_warmUp_73 : decode cX5_warmUp 73 = .ok (.iload_n 3, 1) := by decide +kernel
theorem dX5_warmUp_74 : decode cX5_warmUp 74 = .ok (.iastore, 1) := by decide +kernel
theorem dX5_warmUp_75 : decode cX5_warmUp 75 = .ok (.aload_n 0, 1) := by decide +kernel
theorem dX5_warmUp_76 : decode cX5_warmUp 76 = .ok (.getfield 7, 3) := by decide +kernel
theorem dX5_warmUp_79 : decode cX5_warmUp 79 = .ok (.iload_n 1, 1) := by decide +kernel
theorem dX5_warmUp_80 : decode cX5_warmUp 80 = .ok (.iconst 4, 1) := by decide +kernel
theorem dX5_warmUp_81 : decode cX5_warmUp 81 = .ok (.invokestatic 27, 3) := by decide +kernel
theorem dX5_warmUp_84 : decode cX5_warmUp 84 = .ok (.iload 4, 2) := by decide +kernel
theorem dX5_warmUp_86 : decode cX5_warmUp 86 = .ok (.iastore, 1) := by decide +kernel
theorem dX5_warmUp_87 : decode cX5_warmUp 87 = .ok (.aload_n 0, 1) := by decide +kernel
theorem dX5_warmUp_88 : decode cX5_warmUp 88 = .ok (.getfield 7, 3) := by decide +kernel
theorem dX5_warmUp_91 : decode cX5_warmUp 91 = .ok (.iload_n 1, 1) := by decide +kernel
theorem dX5_warmUp_92 : decode cX5_warmUp 92 = .ok (.bipush 6, 2) := by decide +kernel
theorem dX5_warmUp_94 : decode cX5_warmUp 94 = .ok (.invokestatic 27, 3) := by decide +kernel
theorem dX5_warmUp_97 : decode cX5_warmUp 97 = .ok (.iload 4, 2) := by decide +kernel
theorem dX5_warmUp_99 : decode cX5_warmUp 99 = .ok (.aload_n 0, 1) := by decide +kernel
theorem dX5_warmUp_100 : decode cX5_warmUp 100 = .ok (.getfield 7, 3) := by decide +kernel
theorem dX5_warmUp_103 : decode cX5_warmUp 103 = .ok (.iload_n 1, 1) := by decide +kernel
theorem dX5_warmUp_104 : decode cX5_warmUp 104 = .ok (.bipush 6, 2) := by decide +kernel
theorem dX5_warmUp_106 : decode cX5_warmUp 106 = .ok (.invokestatic 27, 3) := by decide +kernel
theorem dX5_warmUp_109 : decode cX5_warmUp 109 = .ok (.iaload, 1) := by decide +kernel
theorem dX5_warmUp_110 : decode cX5_warmUp 110 = .ok (.if_icmp .le 8, 3) := by decide +kernel
theorem dX5_warmUp_113 : decode cX5_warmUp 113 = .ok (.iload 4, 2) := by decide +kernel
theorem dX5_warmUp_115 : decode cX5_warmUp 115 = .ok (.goto 14, 3) := by decide +kernel
theorem dX5_warmUp_118 : decode cX5_warmUp 118 = .ok (.aload_n 0, 1) := by decide +kernel
theorem dX5_warmUp_119 : decode cX5_warmUp 119 = .ok (.getfield 7, 3) := by decide +kernel
theorem dX5_warmUp_122 : decode cX5_warmUp 122 = .ok (.iload_n 1, 1) := by decide +kernel
theorem dX5_warmUp_123 : decode cX5_warmUp 123 = .ok (.bipush 6, 2) := by decide +kernel
theorem dX5_warmUp_125 : decode cX5_warmUp 125 = .ok (.invokestatic 27, 3) := by decide +kernel
theorem dX5_warmUp_128 : decode cX5_warmUp 128 = .ok (.iaload, 1) := by decide +kernel
theorem dX5_warmUp_129 : decode cX5_warmUp 129 = .ok (.iastore, 1) := by decide +kernel
theorem dX5_warmUp_130 : decode cX5_warmUp 130 = .ok (.aload_n 0, 1) := by decide +kernel
theorem dX5_warmUp_131 : decode cX5_warmUp 131 = .ok (.getfield 7, 3) := by decide +kernel
theorem dX5_warmUp_134 : decode cX5_warmUp 134 = .ok (.iload_n 1, 1) := by decide +kernel
theorem dX5_warmUp_135 : decode cX5_warmUp 135 = .ok (.bipush 7, 2) := by decide +kernel
theorem dX5_warmUp_137 : decode cX5_warmUp 137 = .ok (.invokestatic 27, 3) := by decide +kernel
theorem dX5_warmUp_140 : decode cX5_warmUp 140 = .ok (.dup2, 1) := by decide +kernel
theorem dX5_warmUp_141 : decode cX5_warmUp 141 = .ok (.iaload, 1) := by decide +kernel
theorem dX5_warmUp_142 : decode cX5_warmUp 142 = .ok (.iload 4, 2) := by decide +kernel
theorem dX5_warmUp_144 : decode cX5_warmUp 144 = .ok (.aload_n 0, 1) := by decide +kernel
theorem dX5_warmUp_145 : decode cX5_warmUp 145 = .ok (.iload_n 1, 1) := by decide +kernel
theorem dX5_warmUp_146 : decode cX5_warmUp 146 = .ok (.iconst 1, 1) := by decide +kernel
theorem dX5_warmUp_147 : decode cX5_warmUp 147 = .ok (.invokevirtual 89, 3) := by decide +kernel
theorem dX5_warmUp_150 : decode cX5_warmUp 150 = .ok (.if_icmp .le 7, 3) := by decide +kernel
theorem dX5_warmUp_153 : decode cX5_warmUp 153 = .ok (.iconst 1, 1) := by decide +kernel
theorem dX5_warmUp_154 : decode cX5_warmUp 154 = .ok (.goto 4, 3) := by decide +kernel
theorem dX5_warmUp_157 : decode cX5_warmUp 157 = .ok (.iconst 0, 1) := by decide +kernel
theorem dX5_warmUp_158 : decode cX5_warmUp 158 = .ok (.iadd, 1) := by decide +kernel
theorem dX5_warmUp_159 : decode cX5_warmUp 159 = .ok (.iastore, 1) := by decide +kernel
theorem dX5_warmUp_160 : decode cX5_warmUp 160 = .ok (.iload_n 3, 1) := by decide +kernel
theorem dX5_warmUp_161 : decode cX5_warmUp 161 = .ok (.aload_n 0, 1) := by decide +kernel
theorem dX5_warmUp_162 : decode cX5_warmUp 162 = .ok (.iload_n 1, 1) := by decide +kernel
theorem dX5_warmUp_163 : decode cX5_warmUp 163 = .ok (.iconst 0, 1) := by decide +kernel
theorem dX5_warmUp_164 : decode cX5_warmUp 164 = .ok (.invokevirtual 89, 3) := by decide +kernel
theorem dX5_warmUp_167 : decode cX5_warmUp 167 = .ok (.if_icmp .le 7, 3) := by decide +kernel
theorem dX5_warmUp_170 : decode cX5_warmUp 170 = .ok (.iconst 1, 1) := by decide +kernel
theorem dX5_warmUp_171 : decode cX5_warmUp 171 = .ok (.goto 4, 3) := by decide +kernel
theorem dX5_warmUp_174 : decode cX5_warmUp 174 = .ok (.iconst 0, 1) := by decide +kernel
theorem dX5_warmUp_175 : decode cX5_warmUp 175 = .ok (.istore 5, 2) := by decide +kernel
theorem dX5_warmUp_177 : decode cX5_warmUp 177 = .ok (.aload_n 0, 1) := by decide +kernel
theorem dX5_warmUp_178 : decode cX5_warmUp 178 = .ok (.getfield 7, 3) := by decide +kernel
theorem dX5_warmUp_181 : decode cX5_warmUp 181 = .ok (.iload_n 1, 1) := by decide +kernel
theorem dX5_warmUp_182 : decode cX5_warmUp 182 = .ok (.bipush 7, 2) := by decide +kernel
theorem dX5_warmUp_184 : decode cX5_warmUp 184 = .ok (.invokestatic 27, 3) := by decide +kernel
theorem dX5_warmUp_187 : decode cX5_warmUp 187 = .ok (.iaload, 1) := by decide +kernel
theorem dX5_warmUp_188 : decode cX5_warmUp 188 = .ok (.aload_n 0, 1) := by decide +kernel
theorem dX5_warmUp_189 : decode cX5_warmUp 189 = .ok (.iload_n 1, 1) := by decide +kernel
theorem dX5_warmUp_190 : decode cX5_warmUp 190 = .ok (.iconst 3, 1) := by decide +kernel
theorem dX5_warmUp_191 : decode cX5_warmUp 191 = .ok (.invokevirtual 89, 3) := by decide +kernel
theorem dX5_warmUp_194 : decode cX5_warmUp 194 = .ok (.if_icmp .le 7, 3) := by decide +kernel
theorem dX5_warmUp_197 : decode cX5_warmUp 197 = .ok (.iconst 1, 1) := by decide +kernel
theorem dX5_warmUp_198 : decode cX5_warmUp 198 = .ok (.goto 4, 3) := by decide +kernel
theorem dX5_warmUp_201 : decode cX5_warmUp 201 = .ok (.iconst 0, 1) := by decide +kernel
theorem dX5_warmUp_202 : decode cX5_warmUp 202 = .ok (.istore 6, 2) := by decide +kernel
theorem dX5_warmUp_204 : decode cX5_warmUp 204 = .ok (.aload_n 0, 1) := by decide +kernel
theorem dX5_warmUp_205 : decode cX5_warmUp 205 = .ok (.iload 5, 2) := by decide +kernel
theorem dX5_warmUp_207 : decode cX5_warmUp 207 = .ok (.iload_n 1, 1) := by decide +kernel
theorem dX5_warmUp_208 : decode cX5_warmUp 208 = .ok (.iconst 0, 1) := by decide +kernel
theorem dX5_warmUp_209 : decode cX5_warmUp 209 = .ok (.iload_n 2, 1) := by decide +kernel
theorem dX5_warmUp_210 : decode cX5_warmUp 210 = .ok (.invokevirtual 92, 3) := by decide +kernel
theorem dX5_warmUp_213 : decode cX5_warmUp 213 = .ok (.aload_n 0, 1) := by decide +kernel
theorem dX5_warmUp_214 : decode cX5_warmUp 214 = .ok (.iload 6, 2) := by decide +kernel
theorem dX5_warmUp_216 : decode cX5_warmUp 216 = .ok (.iload_n 1, 1) := by decide +kernel
theorem dX5_warmUp_217 : decode cX5_warmUp 217 = .ok (.iconst 1, 1) := by decide +kernel
theorem dX5_warmUp_218 : decode cX5_warmUp 218 = .ok (.iload_n 2, 1) := by decide +kernel
theorem dX5_warmUp_219 : decode cX5_warmUp 219 = .ok (.invokevirtual 92, 3) := by decide +kernel
theorem dX5_warmUp_222 : decode cX5_warmUp 222 = .ok (.aload_n 0, 1) := by decide +kernel
theorem dX5_warmUp_223 : decode cX5_warmUp 223 = .ok (.iload 4, 2) := by decide +kernel
theorem dX5_warmUp_225 : decode cX5_warmUp 225 = .ok (.aload_n 0, 1) := by decide +kernel
theorem dX5_warmUp_226 : decode cX5_warmUp 226 = .ok (.iload_n 1, 1) := by decide +kernel
theorem dX5_warmUp_227 : decode cX5_warmUp 227 = .ok (.iconst 5, 1) := by decide +kernel
theorem dX5_warmUp_228 : decode cX5_warmUp 228 = .ok (.invokevirtual 89, 3) := by decide +kernel
theorem dX5_warmUp_231 : decode cX5_warmUp 231 = .ok (.if_icmp .le 7, 3) := by decide +kernel
theorem dX5_warmUp_234 : decode cX5_warmUp 234 = .ok (.iconst 1, 1) := by decide +kernel
theorem dX5_warmUp_235 : decode cX5_warmUp 235 = .ok (.goto 4, 3) := by decide +kernel
theorem dX5_warmUp_238 : decode cX5_warmUp 238 = .ok (.iconst 0, 1) := by decide +kernel
theorem dX5_warmUp_239 : decode cX5_warmUp 239 = .ok (.iload_n 1, 1) := by decide +kernel
theorem dX5_warmUp_240 : decode cX5_warmUp 240 = .ok (.iconst 2, 1) := by decide +kernel
theorem dX5_warmUp_241 : decode cX5_warmUp 241 = .ok (.iload_n 2, 1) := by decide +kernel
theorem dX5_warmUp_242 : decode cX5_warmUp 242 = .ok (.invokevirtual 92, 3) := by decide +kernel
theorem dX5_warmUp_245 : decode cX5_warmUp 245 = .ok (.aload_n 0, 1) := by decide +kernel
theorem dX5_warmUp_246 : decode cX5_warmUp 246 = .ok (.getfield 7, 3) := by decide +kernel
theorem dX5_warmUp_249 : decode cX5_warmUp 249 = .ok (.iload_n 1, 1) := by decide +kernel
theorem dX5_warmUp_250 : decode cX5_warmUp 250 = .ok (.bipush 9, 2) := by decide +kernel
theorem dX5_warmUp_252 : decode cX5_warmUp 252 = .ok (.invokestatic 27, 3) := by decide +kernel
theorem dX5_warmUp_255 : decode cX5_warmUp 255 = .ok (.iload 5, 2) := by decide +kernel
theorem dX5_warmUp_257 : decode cX5_warmUp 257 = .ok (.ifCond .eq 7, 3) := by decide +kernel
theorem dX5_warmUp_260 : decode cX5_warmUp 260 = .ok (.iconst 1, 1) := by decide +kernel
theorem dX5_warmUp_261 : decode cX5_warmUp 261 = .ok (.goto 13, 3) := by decide +kernel
theorem dX5_warmUp_264 : decode cX5_warmUp 264 = .ok (.iload 6, 2) := by decide +kernel
theorem dX5_warmUp_266 : decode cX5_warmUp 266 = .ok (.ifCond .eq 7, 3) := by decide +kernel
theorem dX5_warmUp_269 : decode cX5_warmUp 269 = .ok (.iconst 2, 1) := by decide +kernel
theorem dX5_warmUp_270 : decode cX5_warmUp 270 = .ok (.goto 4, 3) := by decide +kernel
theorem dX5_warmUp_273 : decode cX5_warmUp 273 = .ok (.iconst 0, 1) := by decide +kernel
theorem dX5_warmUp_274 : decode cX5_warmUp 274 = .ok (.iastore, 1) := by decide +kernel
theorem dX5_warmUp_275 : decode cX5_warmUp 275 = .ok (.return_, 1) := by decide +kernel
theorem dX5_hear_0 : decode cX5_hear 0 = .ok (.iconst 0, 1) := by decide +kernel
theorem dX5_hear_1 : decode cX5_hear 1 = .ok (.istore_n 1, 1) := by decide +kernel
theorem dX5_hear_2 : decode cX5_hear 2 = .ok (.iconst 0, 1) := by decide +kernel
theorem dX5_hear_3 : decode cX5_hear 3 = .ok (.istore_n 2, 1) := by decide +kernel
theorem dX5_hear_4 : decode cX5_hear 4 = .ok (.iload_n 2, 1) := by decide +kernel
theorem dX5_hear_5 : decode cX5_hear 5 = .ok (.aload_n 0, 1) := by decide +kernel
theorem dX5_hear_6 : decode cX5_hear 6 = .ok (.getfield 7, 3) := by decide +kernel
theorem dX5_hear_9 : decode cX5_hear 9 = .ok (.bipush 53, 2) := by decide +kernel
theorem dX5_hear_11 : decode cX5_hear 11 = .ok (.iaload, 1) := by decide +kernel
theorem dX5_hear_12 : decode cX5_hear 12 = .ok (.if_icmp .ge 74, 3) := by decide +kernel
theorem dX5_hear_15 : decode cX5_hear 15 = .ok (.aload_n 0, 1) := by decide +kernel
theorem dX5_hear_16 : decode cX5_hear 16 = .ok (.iload_n 2, 1) := by decide +kernel
theorem dX5_hear_17 : decode cX5_hear 17 = .ok (.invokevirtual 67, 3) := by decide +kernel
theorem dX5_hear_20 : decode cX5_hear 20 = .ok (.ifCond .eq 17, 3) := by decide +kernel
theorem dX5_hear_23 : decode cX5_hear 23 = .ok (.aload_n 0, 1) := by decide +kernel
theorem dX5_hear_24 : decode cX5_hear 24 = .ok (.getfield 7, 3) := by decide +kernel
theorem dX5_hear_27 : decode cX5_hear 27 = .ok (.iload_n 2, 1) := by decide +kernel
theorem dX5_hear_28 : decode cX5_hear 28 = .ok (.bipush 9, 2) := by decide +kernel
theorem dX5_hear_30 : decode cX5_hear 30 = .ok (.invokestatic 27, 3) := by decide +kernel
theorem dX5_hear_33 : decode cX5_hear 33 = .ok (.iaload, 1) := by decide +kernel
theorem dX5_hear_34 : decode cX5_hear 34 = .ok (.goto 4, 3) := by decide +kernel
theorem dX5_hear_37 : decode cX5_hear 37 = .ok (.iconst 0, 1) := by decide +kernel
theorem dX5_hear_38 : decode cX5_hear 38 = .ok (.istore_n 3, 1) := by decide +kernel
theorem dX5_hear_39 : decode cX5_hear 39 = .ok (.iload_n 1, 1) := by decide +kernel
theorem dX5_hear_40 : decode cX5_hear 40 = .ok (.iload_n 3, 1) := by decide +kernel
theorem dX5_hear_41 : decode cX5_hear 41 = .ok (.iconst 1, 1) := by decide +kernel
theorem dX5_hear_42 : decode cX5_hear 42 = .ok (.if_icmp .ne 16, 3) := by decide +kernel
theorem dX5_hear_45 : decode cX5_hear 45 = .ok (.aload_n 0, 1) := by decide +kernel
theorem dX5_hear_46 : decode cX5_hear 46 = .ok (.getfield 7, 3) := by decide +kernel
theorem dX5_hear_49 : decode cX5_hear 49 = .ok (.iload_n 2, 1) := by decide +kernel
theorem dX5_hear_50 : decode cX5_hear 50 = .ok (.iconst 1, 1) := by decide +kernel
theorem dX5_hear_51 : decode cX5_hear 51 = .ok (.invokestatic 27, 3) := by decide +kernel
theorem dX5_hear_54 : decode cX5_hear 54 = .ok (.iaload, 1) := by decide +kernel
theorem dX5_hear_55 : decode cX5_hear 55 = .ok (.goto 23, 3) := by decide +kernel
theorem dX5_hear_58 : decode cX5_hear 58 = .ok (.iload_n 3, 1) := by decide +kernel
theorem dX5_hear_59 : decode cX5_hear 59 = .ok (.iconst 2, 1) := by decide +kernel
theorem dX5_hear_60 : decode cX5_hear 60 = .ok (.if_icmp .ne 17, 3) := by decide +kernel
theorem dX5_hear_63 : decode cX5_hear 63 = .ok (.aload_n 0, 1) := by decide +kernel
theorem dX5_hear_64 : decode cX5_hear 64 = .ok (.getfield 7, 3) := by decide +kernel
theorem dX5_hear_67 : decode cX5_hear 67 = .ok (.iload_n 2, 1) := by decide +kernel
theorem dX5_hear_68 : decode cX5_hear 68 = .ok (.iconst 1, 1) := by decide +kernel
theorem dX5_hear_69 : decode cX5_hear 69 = .ok (.invokestatic 27, 3) := by decide +kernel
theorem dX5_hear_72 : decode cX5_hear 72 = .ok (.iaload, 1) := by decide +kernel
theorem dX5_hear_73 : decode cX5_hear 73 = .ok (.ineg, 1) := by decide +kernel
theorem dX5_hear_74 : decode cX5_hear 74 = .ok (.goto 4, 3) := by decide +kernel
theorem dX5_hear_77 : decode cX5_hear 77 = .ok (.iconst 0, 1) := by decide +kernel
theorem dX5_hear_78 : decode cX5_hear 78 = .ok (.iadd, 1) := by decide +kernel
theorem dX5_hear_79 : decode cX5_hear 79 = .ok (.istore_n 1, 1) := by decide +kernel
theorem dX5_hear_80 : decode cX5_hear 80 = .ok (.iinc 2 1, 3) := by decide +kernel
theorem dX5_hear_83 : decode cX5_hear 83 = .ok (.goto (-79), 3) := by decide +kernel
theorem dX5_hear_86 : decode cX5_hear 86 = .ok (.aload_n 0, 1) := by decide +kernel
theorem dX5_hear_87 : decode cX5_hear 87 = .ok (.getfield 7, 3) := by decide +kernel
theorem dX5_hear_90 : decode cX5_hear 90 = .ok (.bipush 50, 2) := by decide +kernel
theorem dX5_hear_92 : decode cX5_hear 92 = .ok (.iaload, 1) := by decide +kernel
theorem dX5_hear_93 : decode cX5_hear 93 = .ok (.ifCond .ne 4, 3) := by decide +kernel
theorem dX5_hear_96 : decode cX5_hear 96 = .ok (.return_, 1) := by decide +kernel
theorem dX5_hear_97 : decode cX5_hear 97 = .ok (.iload_n 1, 1) := by decide +kernel
theorem dX5_hear_98 : decode cX5_hear 98 = .ok (.aload_n 0, 1) := by decide +kernel
theorem dX5_hear_99 : decode cX5_hear 99 = .ok (.getfield 7, 3) := by decide +kernel
theorem dX5_hear_102 : decode cX5_hear 102 = .ok (.bipush 50, 2) := by decide +kernel
theorem dX5_hear_104 : decode cX5_hear 104 = .ok (.iaload, 1) := by decide +kernel
theorem dX5_hear_105 : decode cX5_hear 105 = .ok (.if_icmp .lt 39, 3) := by decide +kernel
theorem dX5_hear_108 : decode cX5_hear 108 = .ok (.aload_n 0, 1) := by decide +kernel
theorem dX5_hear_109 : decode cX5_hear 109 = .ok (.getfield 7, 3) := by decide +kernel
theorem dX5_hear_112 : decode cX5_hear 112 = .ok (.bipush 48, 2) := by decide +kernel
theorem dX5_hear_114 : decode cX5_hear 114 = .ok (.iaload, 1) := by decide +kernel
theorem dX5_hear_115 : decode cX5_hear 115 = .ok (.iconst 1, 1) := by decide +kernel
theorem dX5_hear_116 : decode cX5_hear 116 = .ok (.if_icmp .le 28, 3) := by decide +kernel
theorem dX5_hear_119 : decode cX5_hear 119 = .ok (.aload_n 0, 1) := by decide +kernel
theorem dX5_hear_120 : decode cX5_hear 120 = .ok (.getfield 7, 3) := by decide +kernel
theorem dX5_hear_123 : decode cX5_hear 123 = .ok (.bipush 48, 2) := by decide +kernel
theorem dX5_hear_125 : decode cX5_hear 125 = .ok (.dup2, 1) := by decide +kernel
theorem dX5_hear_126 : decode cX5_hear 126 = .ok (.iaload, 1) := by decide +kernel
theorem dX5_hear_127 : decode cX5_hear 127 = .ok (.iconst 1, 1) := by decide +kernel
theorem dX5_hear_128 : decode cX5_hear 128 = .ok (.isub, 1) := by decide +kernel
theorem dX5_hear_129 : decode cX5_hear 129 = .ok (.iastore, 1) := by decide +kernel
theorem dX5_hear_130 : decode cX5_hear 130 = .ok (.aload_n 0, 1) := by decide +kernel
theorem dX5_hear_131 : decode cX5_hear 131 = .ok (.getfield 7, 3) := by decide +kernel
theorem dX5_hear_134 : decode cX5_hear 134 = .ok (.bipush 54, 2) := by decide +kernel
theorem dX5_hear_136 : decode cX5_hear 136 = .ok (.dup2, 1) := by decide +kernel
theorem dX5_hear_137 : decode cX5_hear 137 = .ok (.iaload, 1) := by decide +kernel
theorem dX5_hear_138 : decode cX5_hear 138 = .ok (.iconst 1, 1) := by decide +kernel
theorem dX5_hear_139 : decode cX5_hear 139 = .ok (.iadd, 1) := by decide +kernel
theorem dX5_hear_140 : decode cX5_hear 140 = .ok (.iastore, 1) := by decide +kernel
theorem dX5_hear_141 : decode cX5_hear 141 = .ok (.goto 48, 3) := by decide +kernel
theorem dX5_hear_144 : decode cX5_hear 144 = .ok (.iload_n 1, 1) := by decide +kernel
theorem dX5_hear_145 : decode cX5_hear 145 = .ok (.ineg, 1) := by decide +kernel
theorem dX5_hear_146 : decode cX5_hear 146 = .ok (.aload_n 0, 1) := by decide +kernel
theorem dX5_hear_147 : decode cX5_hear 147 = .ok (.getfield 7, 3) := by decide +kernel
theorem dX5_hear_150 : decode cX5_hear 150 = .ok (.bipush 50, 2) := by decide +kernel
theorem dX5_hear_152 : decode cX5_hear 152 = .ok (.iaload, 1) := by decide +kernel
theorem dX5_hear_153 : decode cX5_hear 153 = .ok (.if_icmp .lt 36, 3) := by decide +kernel
theorem dX5_hear_156 : decode cX5_hear 156 = .ok (.aload_n 0, 1) := by decide +kernel
theorem dX5_hear_157 : decode cX5_hear 157 = .ok (.getfield 7, 3) := by decide +kernel
theorem dX5_hear_160 : decode cX5_hear 160 = .ok (.bipush 48, 2) := by decide +kernel
theorem dX5_hear_162 : decode cX5_hear 162 = .ok (.iaload, 1) := by decide +kernel
theorem dX5_hear_163 : decode cX5_hear 163 = .ok (.iconst 3, 1) := by decide +kernel
theorem dX5_hear_164 : decode cX5_hear 164 = .ok (.if_icmp .ge 25, 3) := by decide +kernel
theorem dX5_hear_167 : decode cX5_hear 167 = .ok (.aload_n 0, 1) := by decide +kernel
theorem dX5_hear_168 : decode cX5_hear 168 = .ok (.getfield 7, 3) := by decide +kernel
theorem dX5_hear_171 : decode cX5_hear 171 = .ok (.bipush 48, 2) := by decide +kernel
theorem dX5_hear_173 : decode cX5_hear 173 = .ok (.dup2, 1) := by decide +kernel
theorem dX5_hear_174 : decode cX5_hear 174 = .ok (.iaload, 1) := by decide +kernel
theorem dX5_hear_175 : decode cX5_hear 175 = .ok (.iconst 1, 1) := by decide +kernel
theorem dX5_hear_176 : decode cX5_hear 176 = .ok (.iadd, 1) := by decide +kernel
theorem dX5_hear_177 : decode cX5_hear 177 = .ok (.iastore, 1) := by decide +kernel
theorem dX5_hear_178 : decode cX5_hear 178 = .ok (.aload_n 0, 1) := by decide +kernel
theorem dX5_hear_179 : decode cX5_hear 179 = .ok (.getfield 7, 3) := by decide +kernel
theorem dX5_hear_182 : decode cX5_hear 182 = .ok (.bipush 55, 2) := by decide +kernel
theorem dX5_hear_184 : decode cX5_hear 184 = .ok (.dup2, 1) := by decide +kernel
theorem dX5_hear_185 : decode cX5_hear 185 = .ok (.iaload, 1) := by decide +kernel
theorem dX5_hear_186 : decode cX5_hear 186 = .ok (.iconst 1, 1) := by decide +kernel
theorem dX5_hear_187 : decode cX5_hear 187 = .ok (.iadd, 1) := by decide +kernel
theorem dX5_hear_188 : decode cX5_hear 188 = .ok (.iastore, 1) := by decide +kernel
theorem dX5_hear_189 : decode cX5_hear 189 = .ok (.return_, 1) := by decide +kernel
theorem dX5_tick_0 : decode cX5_tick 0 = .ok (.iconst 0, 1) := by decide +kernel
theorem dX5_tick_1 : decode cX5_tick 1 = .ok (.istore_n 1, 1) := by decide +kernel
theorem dX5_tick_2 : decode cX5_tick 2 = .ok (.iload_n 1, 1) := by decide +kernel
theorem dX5_tick_3 : decode cX5_tick 3 = .ok (.aload_n 0, 1) := by decide +kernel
theorem dX5_tick_4 : decode cX5_tick 4 = .ok (.getfield 7, 3) := by decide +kernel
theorem dX5_tick_7 : decode cX5_tick 7 = .ok (.bipush 53, 2) := by decide +kernel
theorem dX5_tick_9 : decode cX5_tick 9 = .ok (.iaload, 1) := by decide +kernel
theorem dX5_tick_10 : decode cX5_tick 10 = .ok (.if_icmp .ge 22, 3) := by decide +kernel
theorem dX5_tick_13 : decode cX5_tick 13 = .ok (.aload_n 0, 1) := by decide +kernel
theorem dX5_tick_14 : decode cX5_tick 14 = .ok (.iload_n 1, 1) := by decide +kernel
theorem dX5_tick_15 : decode cX5_tick 15 = .ok (.invokevirtual 67, 3) := by decide +kernel
theorem dX5_tick_18 : decode cX5_tick 18 = .ok (.ifCond .eq 8, 3) := by decide +kernel
theorem dX5_tick_21 : decode cX5_tick 21 = .ok (.aload_n 0, 1) := by decide +kernel
theorem dX5_tick_22 : decode cX5_tick 22 = .ok (.iload_n 1, 1) := by decide +kernel
theorem dX5_tick_23 : decode cX5_tick 23 = .ok (.invokevirtual 102, 3) := by decide +kernel
theorem dX5_tick_26 : decode cX5_tick 26 = .ok (.iinc 1 1, 3) := by decide +kernel
theorem dX5_tick_29 : decode cX5_tick 29 = .ok (.goto (-27), 3) := by decide +kernel
theorem dX5_tick_32 : decode cX5_tick 32 = .ok (.iconst 0, 1) := by decide +kernel
theorem dX5_tick_33 : decode cX5_tick 33 = .ok (.istore_n 1, 1) := by decide +kernel
theorem dX5_tick_34 : decode cX5_tick 34 = .ok (.iload_n 1, 1) := by decide +kernel
theorem dX5_tick_35 : decode cX5_tick 35 = .ok (.bipush 6, 2) := by decide +kernel
theorem dX5_tick_37 : decode cX5_tick 37 = .ok (.if_icmp .ge 14, 3) := by decide +kernel
theorem dX5_tick_40 : decode cX5_tick 40 = .ok (.aload_n 0, 1) := by decide +kernel
theorem dX5_tick_41 : decode cX5_tick 41 = .ok (.iload_n 1, 1) := by decide +kernel
theorem dX5_tick_42 : decode cX5_tick 42 = .ok (.invokevirtual 106, 3) := by decide +kernel
theorem dX5_tick_45 : decode cX5_tick 45 = .ok (.iinc 1 1, 3) := by decide +kernel
theorem dX5_tick_48 : decode cX5_tick 48 = .ok (.goto (-14), 3) := by decide +kernel
theorem dX5_tick_51 : decode cX5_tick 51 = .ok (.iconst 0, 1) := by decide +kernel
theorem dX5_tick_52 : decode cX5_tick 52 = .ok (.istore_n 1, 1) := by decide +kernel
theorem dX5_tick_53 : decode cX5_tick 53 = .ok (.iload_n 1, 1) := by decide +kernel
theorem dX5_tick_54 : decode cX5_tick 54 = .ok (.aload_n 0, 1) := by decide +kernel
theorem dX5_tick_55 : decode cX5_tick 55 = .ok (.getfield 7, 3) := by decide +kernel
theorem dX5_tick_58 : decode cX5_tick 58 = .ok (.bipush 53, 2) := by decide +kernel
theorem dX5_tick_60 : decode cX5_tick 60 = .ok (.iaload, 1) := by decide +kernel
theorem dX5_tick_61 : decode cX5_tick 61 = .ok (.if_icmp .ge 22, 3) := by decide +kernel
theorem dX5_tick_64 : decode cX5_tick 64 = .ok (.aload_n 0, 1) := by decide +kernel
theorem dX5_tick_65 : decode cX5_tick 65 = .ok (.iload_n 1, 1) := by decide +kernel
theorem dX5_tick_66 : decode cX5_tick 66 = .ok (.invokevirtual 67, 3) := by decide +kernel
theorem dX5_tick_69 : decode cX5_tick 69 = .ok (.ifCond .eq 8, 3) := by decide +kernel
theorem dX5_tick_72 : decode cX5_tick 72 = .ok (.aload_n 0, 1) := by decide +kernel
theorem dX5_tick_73 : decode cX5_tick 73 = .ok (.iload_n 1, 1) := by decide +kernel
theorem dX5_tick_74 : decode cX5_tick 74 = .ok (.invokevirtual 109, 3) := by decide +kernel
theorem dX5_tick_77 : decode cX5_tick 77 = .ok (.iinc 1 1, 3) := by decide +kernel
theorem dX5_tick_80 : decode cX5_tick 80 = .ok (.goto (-27), 3) := by decide +kernel
theorem dX5_tick_83 : decode cX5_tick 83 = .ok (.aload_n 0, 1) := by decide +kernel
theorem dX5_tick_84 : decode cX5_tick 84 = .ok (.invokevirtual 112, 3) := by decide +kernel
theorem dX5_tick_87 : decode cX5_tick 87 = .ok (.aload_n 0, 1) := by decide +kernel
theorem dX5_tick_88 : decode cX5_tick 88 = .ok (.getfield 7, 3) := by decide +kernel
theorem dX5_tick_91 : decode cX5_tick 91 = .ok (.bipush 52, 2) := by decide +kernel
theorem dX5_tick_93 : decode cX5_tick 93 = .ok (.dup2, 1) := by decide +kernel
theorem dX5_tick_94 : decode cX5_tick 94 = .ok (.iaload, 1) := by decide +kernel
theorem dX5_tick_95 : decode cX5_tick 95 = .ok (.iconst 1, 1) := by decide +kernel
theorem dX5_tick_96 : decode cX5_tick 96 = .ok (.iadd, 1) := by decide +kernel
theorem dX5_tick_97 : decode cX5_tick 97 = .ok (.iastore, 1) := by decide +kernel
theorem dX5_tick_98 : decode cX5_tick 98 = .ok (.return_, 1) := by decide +kernel
theorem dX5_noPass_0 : decode cX5_noPass 0 = .ok (.iload_n 1, 1) := by decide +kernel
theorem dX5_noPass_1 : decode cX5_noPass 1 = .ok (.iconst 1, 1) := by decide +kernel
theorem dX5_noPass_2 : decode cX5_noPass 2 = .ok (.bipush 99, 2) := by decide +kernel
theorem dX5_noPass_4 : decode cX5_noPass 4 = .ok (.invokestatic 23, 3) := by decide +kernel
theorem dX5_noPass_7 : decode cX5_noPass 7 = .ok (.ifCond .ne 9, 3) := by decide +kernel
theorem dX5_noPass_10 : decode cX5_noPass 10 = .ok (.sipush (-1001), 3) := by decide +kernel
theorem dX5_noPass_13 : decode cX5_noPass 13 = .ok (.goto 25, 3) := by decide +kernel
theorem dX5_noPass_16 : decode cX5_noPass 16 = .ok (.aload_n 0, 1) := by decide +kernel
theorem dX5_noPass_17 : decode cX5_noPass 17 = .ok (.getfield 7, 3) := by decide +kernel
theorem dX5_noPass_20 : decode cX5_noPass 20 = .ok (.bipush 52, 2) := by decide +kernel
theorem dX5_noPass_22 : decode cX5_noPass 22 = .ok (.iaload, 1) := by decide +kernel
theorem dX5_noPass_23 : decode cX5_noPass 23 = .ok (.iload_n 1, 1) := by decide +kernel
theorem dX5_noPass_24 : decode cX5_noPass 24 = .ok (.iadd, 1) := by decide +kernel
theorem dX5_noPass_25 : decode cX5_noPass 25 = .ok (.sipush 5000, 3) := by decide +kernel
theorem dX5_noPass_28 : decode cX5_noPass 28 = .ok (.if_icmp .le 9, 3) := by decide +kernel
theorem dX5_noPass_31 : decode cX5_noPass 31 = .ok (.sipush (-1003), 3) := by decide +kernel
theorem dX5_noPass_34 : decode cX5_noPass 34 = .ok (.goto 4, 3) := by decide +kernel
theorem dX5_noPass_37 : decode cX5_noPass 37 = .ok (.iconst 0, 1) := by decide +kernel
theorem dX5_noPass_38 : decode cX5_noPass 38 = .ok (.ireturn, 1) := by decide +kernel
theorem dX5_doPass_0 : decode cX5_doPass 0 = .ok (.aload_n 0, 1) := by decide +kernel
theorem dX5_doPass_1 : decode cX5_doPass 1 = .ok (.iconst 1, 1) := by decide +kernel
theorem dX5_doPass_2 : decode cX5_doPass 2 = .ok (.invokevirtual 45, 3) := by decide +kernel
theorem dX5_doPass_5 : decode cX5_doPass 5 = .ok (.istore_n 2, 1) := by decide +kernel
theorem dX5_doPass_6 : decode cX5_doPass 6 = .ok (.iconst 0, 1) := by decide +kernel
theorem dX5_doPass_7 : decode cX5_doPass 7 = .ok (.istore_n 3, 1) := by decide +kernel
theorem dX5_doPass_8 : decode cX5_doPass 8 = .ok (.iload_n 3, 1) := by decide +kernel
theorem dX5_doPass_9 : decode cX5_doPass 9 = .ok (.iload_n 1, 1) := by decide +kernel
theorem dX5_doPass_10 : decode cX5_doPass 10 = .ok (.if_icmp .ge 13, 3) := by decide +kernel
theorem dX5_doPass_13 : decode cX5_doPass 13 = .ok (.aload_n 0, 1) := by decide +kernel
theorem dX5_doPass_14 : decode cX5_doPass 14 = .ok (.invokevirtual 115, 3) := by decide +kernel
theorem dX5_doPass_17 : decode cX5_doPass 17 = .ok (.iinc 3 1, 3) := by decide +kernel
theorem dX5_doPass_20 : decode cX5_doPass 20 = .ok (.goto (-12), 3) := by decide +kernel
theorem dX5_doPass_23 : decode cX5_doPass 23 = .ok (.aload_n 0, 1) := by decide +kernel
theorem dX5_doPass_24 : decode cX5_doPass 24 = .ok (.iconst 1, 1) := by decide +kernel
theorem dX5_doPass_25 : decode cX5_doPass 25 = .ok (.invokevirtual 45, 3) := by decide +kernel
theorem dX5_doPass_28 : decode cX5_doPass 28 = .ok (.iload_n 2, 1) := by decide +kernel
theorem dX5_doPass_29 : decode cX5_doPass 29 = .ok (.isub, 1) := by decide +kernel
theorem dX5_doPass_30 : decode cX5_doPass 30 = .ok (.ireturn, 1) := by decide +kernel
theorem dX5_pass_0 : decode cX5_pass 0 = .ok (.aload_n 0, 1) := by decide +kernel
theorem dX5_pass_1 : decode cX5_pass 1 = .ok (.iload_n 1, 1) := by decide +kernel
theorem dX5_pass_2 : decode cX5_pass 2 = .ok (.invokevirtual 118, 3) := by decide +kernel
theorem dX5_pass_5 : decode cX5_pass 5 = .ok (.istore_n 2, 1) := by decide +kernel
theorem dX5_pass_6 : decode cX5_pass 6 = .ok (.iload_n 2, 1) := by decide +kernel
theorem dX5_pass_7 : decode cX5_pass 7 = .ok (.ifCond .eq 5, 3) := by decide +kernel
theorem dX5_pass_10 : decode cX5_pass 10 = .ok (.iload_n 2, 1) := by decide +kernel
theorem dX5_pass_11 : decode cX5_pass 11 = .ok (.ireturn, 1) := by decide +kernel
theorem dX5_pass_12 : decode cX5_pass 12 = .ok (.aload_n 0, 1) := by decide +kernel
theorem dX5_pass_13 : decode cX5_pass 13 = .ok (.invokevirtual 38, 3) := by decide +kernel
theorem dX5_pass_16 : decode cX5_pass 16 = .ok (.aload_n 0, 1) := by decide +kernel
theorem dX5_pass_17 : decode cX5_pass 17 = .ok (.iload_n 1, 1) := by decide +kernel
theorem dX5_pass_18 : decode cX5_pass 18 = .ok (.invokevirtual 121, 3) := by decide +kernel
theorem dX5_pass_21 : decode cX5_pass 21 = .ok (.ireturn, 1) := by decide +kernel
theorem dX5_append_0 : decode cX5_append 0 = .ok (.iload_n 1, 1) := by decide +kernel
theorem dX5_append_1 : decode cX5_append 1 = .ok (.iconst 1, 1) := by decide +kernel
theorem dX5_append_2 : decode cX5_append 2 = .ok (.sipush 255, 3) := by decide +kernel
theorem dX5_append_5 : decode cX5_append 5 = .ok (.invokestatic 23, 3) := by decide +kernel
theorem dX5_append_8 : decode cX5_append 8 = .ok (.ifCond .ne 7, 3) := by decide +kernel
theorem dX5_append_11 : decode cX5_append 11 = .ok (.sipush (-1001), 3) := by decide +kernel
theorem dX5_append_14 : decode cX5_append 14 = .ok (.ireturn, 1) := by decide +kernel
theorem dX5_append_15 : decode cX5_append 15 = .ok (.aload_n 0, 1) := by decide +kernel
theorem dX5_append_16 : decode cX5_append 16 = .ok (.getfield 124, 3) := by decide +kernel
theorem dX5_append_19 : decode cX5_append 19 = .ok (.bipush 100, 2) := by decide +kernel
theorem dX5_append_21 : decode cX5_append 21 = .ok (.if_icmp .ne 7, 3) := by decide +kernel
theorem dX5_append_24 : decode cX5_append 24 = .ok (.sipush (-1003), 3) := by decide +kernel
theorem dX5_append_27 : decode cX5_append 27 = .ok (.ireturn, 1) := by decide +kernel
theorem dX5_append_28 : decode cX5_append 28 = .ok (.aload_n 0, 1) := by decide +kernel
theorem dX5_append_29 : decode cX5_append 29 = .ok (.getfield 13, 3) := by decide +kernel
theorem dX5_append_32 : decode cX5_append 32 = .ok (.aload_n 0, 1) := by decide +kernel
theorem dX5_append_33 : decode cX5_append 33 = .ok (.getfield 124, 3) := by decide +kernel
theorem dX5_append_36 : decode cX5_append 36 = .ok (.iload_n 1, 1) := by decide +kernel
theorem dX5_append_37 : decode cX5_append 37 = .ok (.iastore, 1) := by decide +kernel
theorem dX5_append_38 : decode cX5_append 38 = .ok (.aload_n 0, 1) := by decide +kernel
theorem dX5_append_39 : decode cX5_append 39 = .ok (.dup, 1) := by decide +kernel
theorem dX5_append_40 : decode cX5_append 40 = .ok (.getfield 124, 3) := by decide +kernel
theorem dX5_append_43 : decode cX5_append 43 = .ok (.iconst 1, 1) := by decide +kernel
theorem dX5_append_44 : decode cX5_append 44 = .ok (.iadd, 1) := by decide +kernel
theorem dX5_append_45 : decode cX5_append 45 = .ok (.putfield 124, 3) := by decide +kernel
theorem dX5_append_48 : decode cX5_append 48 = .ok (.aload_n 0, 1) := by decide +kernel
theorem dX5_append_49 : decode cX5_append 49 = .ok (.getfield 124, 3) := by decide +kernel
theorem dX5_append_52 : decode cX5_append 52 = .ok (.ireturn, 1) := by decide +kernel
theorem dX5_clearText_0 : decode cX5_clearText 0 = .ok (.aload_n 0, 1) := by decide +kernel
theorem dX5_clearText_1 : decode cX5_clearText 1 = .ok (.getfield 124, 3) := by decide +kernel
theorem dX5_clearText_4 : decode cX5_clearText 4 = .ok (.istore_n 1, 1) := by decide +kernel
theorem dX5_clearText_5 : decode cX5_clearText 5 = .ok (.aload_n 0, 1) := by decide +kernel
theorem dX5_clearText_6 : decode cX5_clearText 6 = .ok (.iconst 0, 1) := by decide +kernel
theorem dX5_clearText_7 : decode cX5_clearText 7 = .ok (.putfield 124, 3) := by decide +kernel
theorem dX5_clearText_10 : decode cX5_clearText 10 = .ok (.iload_n 1, 1) := by decide +kernel
theorem dX5_clearText_11 : decode cX5_clearText 11 = .ok (.ireturn, 1) := by decide +kernel
theorem dX5_code_0 : decode cX5_code 0 = .ok (.aload_n 0, 1) := by decide +kernel
theorem dX5_code_1 : decode cX5_code 1 = .ok (.getfield 127, 3) := by decide +kernel
theorem dX5_code_4 : decode cX5_code 4 = .ok (.aload_n 0, 1) := by decide +kernel
theorem dX5_code_5 : decode cX5_code 5 = .ok (.getfield 124, 3) := by decide +kernel
theorem dX5_code_8 : decode cX5_code 8 = .ok (.if_icmp .ge 15, 3) := by decide +kernel
theorem dX5_code_11 : decode cX5_code 11 = .ok (.aload_n 0, 1) := by decide +kernel
theorem dX5_code_12 : decode cX5_code 12 = .ok (.getfield 13, 3) := by decide +kernel
theorem dX5_code_15 : decode cX5_code 15 = .ok (.aload_n 0, 1) := by decide +kernel
theorem dX5_code_16 : decode cX5_code 16 = .ok (.getfield 127, 3) := by decide +kernel
theorem dX5_code_19 : decode cX5_code 19 = .ok (.iaload, 1) := by decide +kernel
theorem dX5_code_20 : decode cX5_code 20 = .ok (.goto 4, 3) := by decide +kernel
theorem dX5_code_23 : decode cX5_code 23 = .ok (.iconst 0, 1) := by decide +kernel
theorem dX5_code_24 : decode cX5_code 24 = .ok (.ireturn, 1) := by decide +kernel
theorem dX5_isDigit_0 : decode cX5_isDigit 0 = .ok (.aload_n 0, 1) := by decide +kernel
theorem dX5_isDigit_1 : decode cX5_isDigit 1 = .ok (.invokevirtual 130, 3) := by decide +kernel
theorem dX5_isDigit_4 : decode cX5_isDigit 4 = .ok (.bipush 48, 2) := by decide +kernel
theorem dX5_isDigit_6 : decode cX5_isDigit 6 = .ok (.bipush 57, 2) := by decide +kernel
theorem dX5_isDigit_8 : decode cX5_isDigit 8 = .ok (.invokestatic 23, 3) := by decide +kernel
theorem dX5_isDigit_11 : decode cX5_isDigit 11 = .ok (.ireturn, 1) := by decide +kernel
theorem dX5_number_0 : decode cX5_number 0 = .ok (.aload_n 0, 1) := by decide +kernel
theorem dX5_number_1 : decode cX5_number 1 = .ok (.invokevirtual 133, 3) := by decide +kernel
theorem dX5_number_4 : decode cX5_number 4 = .ok (.ifCond .ne 5, 3) := by decide +kernel
theorem dX5_number_7 : decode cX5_number 7 = .ok (.iconst (-1), 1) := by decide +kernel
theorem dX5_number_8 : decode cX5_number 8 = .ok (.ireturn, 1) := by decide +kernel
theorem dX5_number_9 : decode cX5_number 9 = .ok (.aload_n 0, 1) := by decide +kernel
theorem dX5_number_10 : decode cX5_number 10 = .ok (.invokevirtual 130, 3) := by decide +kernel
theorem dX5_number_13 : decode cX5_number 13 = .ok (.bipush 48, 2) := by decide +kernel
theorem dX5_number_15 : decode cX5_number 15 = .ok (.isub, 1) := by decide +kernel
theorem dX5_number_16 : decode cX5_number 16 = .ok (.istore_n 1, 1) := by decide +kernel
theorem dX5_number_17 : decode cX5_number 17 = .ok (.aload_n 0, 1) := by decide +kernel
theorem dX5_number_18 : decode cX5_number 18 = .ok (.dup, 1) := by decide +kernel
theorem dX5_number_19 : decode cX5_number 19 = .ok (.getfield 127, 3) := by decide +kernel
theorem dX5_number_22 : decode cX5_number 22 = .ok (.iconst 1, 1) := by decide +kernel
theorem dX5_number_23 : decode cX5_number 23 = .ok (.iadd, 1) := by decide +kernel
theorem dX5_number_24 : decode cX5_number 24 = .ok (.putfield 127, 3) := by decide +kernel
theorem dX5_number_27 : decode cX5_number 27 = .ok (.iload_n 1, 1) := by decide +kernel
theorem dX5_number_28 : decode cX5_number 28 = .ok (.ifCond .le 33, 3) := by decide +kernel
theorem dX5_number_31 : decode cX5_number 31 = .ok (.aload_n 0, 1) := by decide +kernel
theorem dX5_number_32 : decode cX5_number 32 = .ok (.invokevirtual 133, 3) := by decide +kernel
theorem dX5_number_35 : decode cX5_number 35 = .ok (.ifCond .eq 26, 3) := by decide +kernel
theorem dX5_number_38 : decode cX5_number 38 = .ok (.bipush 10, 2) := by decide +kernel
theorem dX5_number_40 : decode cX5_number 40 = .ok (.iload_n 1, 1) := by decide +kernel
theorem dX5_number_41 : decode cX5_number 41 = .ok (.imul, 1) := by decide +kernel
theorem dX5_number_42 : decode cX5_number 42 = .ok (.aload_n 0, 1) := by decide +kernel
theorem dX5_number_43 : decode cX5_number 43 = .ok (.invokevirtual 130, 3) := by decide +kernel
theorem dX5_number_46 : decode cX5_number 46 = .ok (.iadd, 1) := by decide +kernel
theorem dX5_number_47 : decode cX5_number 47 = .ok (.bipush 48, 2) := by decide +kernel
theorem dX5_number_49 : decode cX5_number 49 = .ok (.isub, 1) := by decide +kernel
theorem dX5_number_50 : decode cX5_number 50 = .ok (.istore_n 1, 1) := by decide +kernel
theorem dX5_number_51 : decode cX5_number 51 = .ok (.aload_n 0, 1) := by decide +kernel
theorem dX5_number_52 : decode cX5_number 52 = .ok (.dup, 1) := by decide +kernel
theorem dX5_number_53 : decode cX5_number 53 = .ok (.getfield 127, 3) := by decide +kernel
theorem dX5_number_56 : decode cX5_number 56 = .ok (.iconst 1, 1) := by decide +kernel
theorem dX5_number_57 : decode cX5_number 57 = .ok (.iadd, 1) := by decide +kernel
theorem dX5_number_58 : decode cX5_number 58 = .ok (.putfield 127, 3) := by decide +kernel
theorem dX5_number_61 : decode cX5_number 61 = .ok (.iload_n 1, 1) := by decide +kernel
theorem dX5_number_62 : decode cX5_number 62 = .ok (.ireturn, 1) := by decide +kernel
theorem dX5_readsOrder_0 : decode cX5_readsOrder 0 = .ok (.aload_n 0, 1) := by decide +kernel
theorem dX5_readsOrder_1 : decode cX5_readsOrder 1 = .ok (.aload_n 0, 1) := by decide +kernel
theorem dX5_readsOrder_2 : decode cX5_readsOrder 2 = .ok (.invokevirtual 130, 3) := by decide +kernel
theorem dX5_readsOrder_5 : decode cX5_readsOrder 5 = .ok (.putfield 136, 3) := by decide +kernel
theorem dX5_readsOrder_8 : decode cX5_readsOrder 8 = .ok (.aload_n 0, 1) := by decide +kernel
theorem dX5_readsOrder_9 : decode cX5_readsOrder 9 = .ok (.getfield 136, 3) := by decide +kernel
theorem dX5_readsOrder_12 : decode cX5_readsOrder 12 = .ok (.bipush 108, 2) := by decide +kernel
theorem dX5_readsOrder_14 : decode cX5_readsOrder 14 = .ok (.if_icmp .eq 32, 3) := by decide +kernel
theorem dX5_readsOrder_17 : decode cX5_readsOrder 17 = .ok (.aload_n 0, 1) := by decide +kernel
theorem dX5_readsOrder_18 : decode cX5_readsOrder 18 = .ok (.getfield 136, 3) := by decide +kernel
theorem dX5_readsOrder_21 : decode cX5_readsOrder 21 = .ok (.bipush 112, 2) := by decide +kernel
theorem dX5_readsOrder_23 : decode cX5_readsOrder 23 = .ok (.if_icmp .eq 23, 3) := by decide +kernel
theorem dX5_readsOrder_26 : decode cX5_readsOrder 26 = .ok (.aload_n 0, 1) := by decide +kernel
theorem dX5_readsOrder_27 : decode cX5_readsOrder 27 = .ok (.getfield 136, 3) := by decide +kernel
theorem dX5_readsOrder_30 : decode cX5_readsOrder 30 = .ok (.bipush 116, 2) := by decide +kernel
theorem dX5_readsOrder_32 : decode cX5_readsOrder 32 = .ok (.if_icmp .eq 14, 3) := by decide +kernel
theorem dX5_readsOrder_35 : decode cX5_readsOrder 35 = .ok (.aload_n 0, 1) := by decide +kernel
theorem dX5_readsOrder_36 : decode cX5_readsOrder 36 = .ok (.getfield 136, 3) := by decide +kernel
theorem dX5_readsOrder_39 : decode cX5_readsOrder 39 = .ok (.bipush 115, 2) := by decide +kernel
theorem dX5_readsOrder_41 : decode cX5_readsOrder 41 = .ok (.if_icmp .eq 5, 3) := by decide +kernel
theorem dX5_readsOrder_44 : decode cX5_readsOrder 44 = .ok (.iconst 0, 1) := by decide +kernel
theorem dX5_readsOrder_45 : decode cX5_readsOrder 45 = .ok (.ireturn, 1) := by decide +kernel
theorem dX5_readsOrder_46 : decode cX5_readsOrder 46 = .ok (.aload_n 0, 1) := by decide +kernel
theorem dX5_readsOrder_47 : decode cX5_readsOrder 47 = .ok (.dup, 1) := by decide +kernel
theorem dX5_readsOrder_48 : decode cX5_readsOrder 48 = .ok (.getfield 127, 3) := by decide +kernel
theorem dX5_readsOrder_51 : decode cX5_readsOrder 51 = .ok (.iconst 1, 1) := by decide +kernel
theorem dX5_readsOrder_52 : decode cX5_readsOrder 52 = .ok (.iadd, 1) := by decide +kernel
theorem dX5_readsOrder_53 : decode cX5_readsOrder 53 = .ok (.putfield 127, 3) := by decide +kernel
theorem dX5_readsOrder_56 : decode cX5_readsOrder 56 = .ok (.aload_n 0, 1) := by decide +kernel
theorem dX5_readsOrder_57 : decode cX5_readsOrder 57 = .ok (.aload_n 0, 1) := by decide +kernel
theorem dX5_readsOrder_58 : decode cX5_readsOrder 58 = .ok (.invokevirtual 139, 3) := by decide +kernel
theorem dX5_readsOrder_61 : decode cX5_readsOrder 61 = .ok (.putfield 142, 3) := by decide +kernel
theorem dX5_readsOrder_64 : decode cX5_readsOrder 64 = .ok (.aload_n 0, 1) := by decide +kernel
theorem dX5_readsOrder_65 : decode cX5_readsOrder 65 = .ok (.getfield 142, 3) := by decide +kernel
theorem dX5_readsOrder_68 : decode cX5_readsOrder 68 = .ok (.ifCond .lt 12, 3) := by decide +kernel
theorem dX5_readsOrder_71 : decode cX5_readsOrder 71 = .ok (.aload_n 0, 1) := by decide +kernel
theorem dX5_readsOrder_72 : decode cX5_readsOrder 72 = .ok (.getfield 136, 3) := by decide +kernel
theorem dX5_readsOrder_75 : decode cX5_readsOrder 75 = .ok (.bipush 108, 2) := by decide +kernel
theorem dX5_readsOrder_77 : decode cX5_readsOrder 77 = .ok (.if_icmp .eq 16, 3) := by decide +kernel
theorem dX5_readsOrder_80 : decode cX5_readsOrder 80 = .ok (.aload_n 0, 1) := by decide +kernel
theorem dX5_readsOrder_81 : decode cX5_readsOrder 81 = .ok (.getfield 142, 3) := by decide +kernel
theorem dX5_readsOrder_84 : decode cX5_readsOrder 84 = .ok (.ifCond .lt 7, 3) := by decide +kernel
theorem dX5_readsOrder_87 : decode cX5_readsOrder 87 = .ok (.iconst 1, 1) := by decide +kernel
theorem dX5_readsOrder_88 : decode cX5_readsOrder 88 = .ok (.goto 4, 3) := by decide +kernel
theorem dX5_readsOrder_91 : decode cX5_readsOrder 91 = .ok (.iconst 0, 1) := by decide +kernel
theorem dX5_readsOrder_92 : decode cX5_readsOrder 92 = .ok (.ireturn, 1) := by decide +kernel
theorem dX5_readsOrder_93 : decode cX5_readsOrder 93 = .ok (.aload_n 0, 1) := by decide +kernel
theorem dX5_readsOrder_94 : decode cX5_readsOrder 94 = .ok (.invokevirtual 130, 3) := by decide +kernel
theorem dX5_readsOrder_97 : decode cX5_readsOrder 97 = .ok (.bipush 44, 2) := by decide +kernel
theorem dX5_readsOrder_99 : decode cX5_readsOrder 99 = .ok (.if_icmp .eq 5, 3) := by decide +kernel
theorem dX5_readsOrder_102 : decode cX5_readsOrder 102 = .ok (.iconst 0, 1) := by decide +kernel
theorem dX5_readsOrder_103 : decode cX5_readsOrder 103 = .ok (.ireturn, 1) := by decide +kernel
theorem dX5_readsOrder_104 : decode cX5_readsOrder 104 = .ok (.aload_n 0, 1) := by decide +kernel
theorem dX5_readsOrder_105 : decode cX5_readsOrder 105 = .ok (.dup, 1) := by decide +kernel
theorem dX5_readsOrder_106 : decode cX5_readsOrder 106 = .ok (.getfield 127, 3) := by decide +kernel
theorem dX5_readsOrder_109 : decode cX5_readsOrder 109 = .ok (.iconst 1, 1) := by decide +kernel
theorem dX5_readsOrder_110 : decode cX5_readsOrder 110 = .ok (.iadd, 1) := by decide +kernel
theorem dX5_readsOrder_111 : decode cX5_readsOrder 111 = .ok (.putfield 127, 3) := by decide +kernel
theorem dX5_readsOrder_114 : decode cX5_readsOrder 114 = .ok (.aload_n 0, 1) := by decide +kernel
theorem dX5_readsOrder_115 : decode cX5_readsOrder 115 = .ok (.aload_n 0, 1) := by decide +kernel
theorem dX5_readsOrder_116 : decode cX5_readsOrder 116 = .ok (.invokevirtual 139, 3) := by decide +kernel
theorem dX5_readsOrder_119 : decode cX5_readsOrder 119 = .ok (.putfield 145, 3) := by decide +kernel
theorem dX5_readsOrder_122 : decode cX5_readsOrder 122 = .ok (.aload_n 0, 1) := by decide +kernel
theorem dX5_readsOrder_123 : decode cX5_readsOrder 123 = .ok (.getfield 145, 3) := by decide +kernel
theorem dX5_readsOrder_126 : decode cX5_readsOrder 126 = .ok (.ifCond .lt 7, 3) := by decide +kernel
theorem dX5_readsOrder_129 : decode cX5_readsOrder 129 = .ok (.iconst 1, 1) := by decide +kernel
theorem dX5_readsOrder_130 : decode cX5_readsOrder 130 = .ok (.goto 4, 3) := by decide +kernel
theorem dX5_readsOrder_133 : decode cX5_readsOrder 133 = .ok (.iconst 0, 1) := by decide +kernel
theorem dX5_readsOrder_134 : decode cX5_readsOrder 134 = .ok (.ireturn, 1) := by decide +kernel
theorem dX5_faultOf_0 : decode cX5_faultOf 0 = .ok (.aload_n 0, 1) := by decide +kernel
theorem dX5_faultOf_1 : decode cX5_faultOf 1 = .ok (.iconst 0, 1) := by decide +kernel
theorem dX5_faultOf_2 : decode cX5_faultOf 2 = .ok (.putfield 127, 3) := by decide +kernel
theorem dX5_faultOf_5 : decode cX5_faultOf 5 = .ok (.aload_n 0, 1) := by decide +kernel
theorem dX5_faultOf_6 : decode cX5_faultOf 6 = .ok (.invokevirtual 148, 3) := by decide +kernel
theorem dX5_faultOf_9 : decode cX5_faultOf 9 = .ok (.istore_n 1, 1) := by decide +kernel
theorem dX5_faultOf_10 : decode cX5_faultOf 10 = .ok (.iload_n 1, 1) := by decide +kernel
theorem dX5_faultOf_11 : decode cX5_faultOf 11 = .ok (.ifCond .eq 67, 3) := by decide +kernel
theorem dX5_faultOf_14 : decode cX5_faultOf 14 = .ok (.aload_n 0, 1) := by decide +kernel
theorem dX5_faultOf_15 : decode cX5_faultOf 15 = .ok (.getfield 127, 3) := by decide +kernel
theorem dX5_faultOf_18 : decode cX5_faultOf 18 = .ok (.aload_n 0, 1) := by decide +kernel
theorem dX5_faultOf_19 : decode cX5_faultOf 19 = .ok (.getfield 124, 3) := by decide +kernel
theorem dX5_faultOf_22 : decode cX5_faultOf 22 = .ok (.if_icmp .ge 56, 3) := by decide +kernel
theorem dX5_faultOf_25 : decode cX5_faultOf 25 = .ok (.aload_n 0, 1) := by decide +kernel
theorem dX5_faultOf_26 : decode cX5_faultOf 26 = .ok (.invokevirtual 130, 3) := by decide +kernel
theorem dX5_faultOf_29 : decode cX5_faultOf 29 = .ok (.bipush 59, 2) := by decide +kernel
theorem dX5_faultOf_31 : decode cX5_faultOf 31 = .ok (.if_icmp .ne 7, 3) := by decide +kernel
theorem dX5_faultOf_34 : decode cX5_faultOf 34 = .ok (.iconst 1, 1) := by decide +kernel
theorem dX5_faultOf_35 : decode cX5_faultOf 35 = .ok (.goto 4, 3) := by decide +kernel
theorem dX5_faultOf_38 : decode cX5_faultOf 38 = .ok (.iconst 0, 1) := by decide +kernel
theorem dX5_faultOf_39 : decode cX5_faultOf 39 = .ok (.istore_n 1, 1) := by decide +kernel
theorem dX5_faultOf_40 : decode cX5_faultOf 40 = .ok (.aload_n 0, 1) := by decide +kernel
theorem dX5_faultOf_41 : decode cX5_faultOf 41 = .ok (.dup, 1) := by decide +kernel
theorem dX5_faultOf_42 : decode cX5_faultOf 42 = .ok (.getfield 127, 3) := by decide +kernel
theorem dX5_faultOf_45 : decode cX5_faultOf 45 = .ok (.iload_n 1, 1) := by decide +kernel
theorem dX5_faultOf_46 : decode cX5_faultOf 46 = .ok (.ifCond .eq 7, 3) := by decide +kernel
theorem dX5_faultOf_49 : decode cX5_faultOf 49 = .ok (.iconst 1, 1) := by decide +kernel
theorem dX5_faultOf_50 : decode cX5_faultOf 50 = .ok (.goto 4, 3) := by decide +kernel
theorem dX5_faultOf_53 : decode cX5_faultOf 53 = .ok (.iconst 0, 1) := by decide +kernel
theorem dX5_faultOf_54 : decode cX5_faultOf 54 = .ok (.iadd, 1) := by decide +kernel
theorem dX5_faultOf_55 : decode cX5_faultOf 55 = .ok (.putfield 127, 3) := by decide +kernel
theorem dX5_faultOf_58 : decode cX5_faultOf 58 = .ok (.iload_n 1, 1) := by decide +kernel
theorem dX5_faultOf_59 : decode cX5_faultOf 59 = .ok (.ifCond .eq 14, 3) := by decide +kernel
theorem dX5_faultOf_62 : decode cX5_faultOf 62 = .ok (.aload_n 0, 1) := by decide +kernel
theorem dX5_faultOf_63 : decode cX5_faultOf 63 = .ok (.invokevirtual 148, 3) := by decide +kernel
theorem dX5_faultOf_66 : decode cX5_faultOf 66 = .ok (.ifCond .eq 7, 3) := by decide +kernel
theorem dX5_faultOf_69 : decode cX5_faultOf 69 = .ok (.iconst 1, 1) := by decide +kernel
theorem dX5_faultOf_70 : decode cX5_faultOf 70 = .ok (.goto 4, 3) := by decide +kernel
theorem dX5_faultOf_73 : decode cX5_faultOf 73 = .ok (.iconst 0, 1) := by decide +kernel
theorem dX5_faultOf_74 : decode cX5_faultOf 74 = .ok (.istore_n 1, 1) := by decide +kernel
theorem dX5_faultOf_75 : decode cX5_faultOf 75 = .ok (.goto (-65), 3) := by decide +kernel
theorem dX5_faultOf_78 : decode cX5_faultOf 78 = .ok (.iload_n 1, 1) := by decide +kernel
theorem dX5_faultOf_79 : decode cX5_faultOf 79 = .ok (.ifCond .eq 7, 3) := by decide +kernel
theorem dX5_faultOf_82 : decode cX5_faultOf 82 = .ok (.iconst (-1), 1) := by decide +kernel
theorem dX5_faultOf_83 : decode cX5_faultOf 83 = .ok (.goto 7, 3) := by decide +kernel
theorem dX5_faultOf_86 : decode cX5_faultOf 86 = .ok (.aload_n 0, 1) := by decide +kernel
theorem dX5_faultOf_87 : decode cX5_faultOf 87 = .ok (.getfield 127, 3) := by decide +kernel
theorem dX5_faultOf_90 : decode cX5_faultOf 90 = .ok (.ireturn, 1) := by decide +kernel
theorem dX5_does_0 : decode cX5_does 0 = .ok (.iconst 0, 1) := by decide +kernel
theorem dX5_does_1 : decode cX5_does 1 = .ok (.istore_n 1, 1) := by decide +kernel
theorem dX5_does_2 : decode cX5_does 2 = .ok (.aload_n 0, 1) := by decide +kernel
theorem dX5_does_3 : decode cX5_does 3 = .ok (.getfield 136, 3) := by decide +kernel
theorem dX5_does_6 : decode cX5_does 6 = .ok (.lookupswitch 122 #[(108, 34), (112, 67), (116, 92)], 34) := by decide +kernel
theorem dX5_does_40 : decode cX5_does 40 = .ok (.aload_n 0, 1) := by decide +kernel
theorem dX5_does_41 : decode cX5_does 41 = .ok (.aload_n 0, 1) := by decide +kernel
theorem dX5_does_42 : decode cX5_does 42 = .ok (.getfield 142, 3) := by decide +kernel
theorem dX5_does_45 : decode cX5_does 45 = .ok (.aload_n 0, 1) := by decide +kernel
theorem dX5_does_46 : decode cX5_does 46 = .ok (.getfield 145, 3) := by decide +kernel
theorem dX5_does_49 : decode cX5_does 49 = .ok (.invokevirtual 77, 3) := by decide +kernel
theorem dX5_does_52 : decode cX5_does 52 = .ok (.istore_n 1, 1) := by decide +kernel
theorem dX5_does_53 : decode cX5_does 53 = .ok (.iload_n 1, 1) := by decide +kernel
theorem dX5_does_54 : decode cX5_does 54 = .ok (.ifCond .ne 118, 3) := by decide +kernel
theorem dX5_does_57 : decode cX5_does 57 = .ok (.aload_n 0, 1) := by decide +kernel
theorem dX5_does_58 : decode cX5_does 58 = .ok (.aload_n 0, 1) := by decide +kernel
theorem dX5_does_59 : decode cX5_does 59 = .ok (.getfield 142, 3) := by decide +kernel
theorem dX5_does_62 : decode cX5_does 62 = .ok (.aload_n 0, 1) := by decide +kernel
theorem dX5_does_63 : decode cX5_does 63 = .ok (.getfield 145, 3) := by decide +kernel
theorem dX5_does_66 : decode cX5_does 66 = .ok (.invokevirtual 80, 3) := by decide +kernel
theorem dX5_does_69 : decode cX5_does 69 = .ok (.pop, 1) := by decide +kernel
theorem dX5_does_70 : decode cX5_does 70 = .ok (.goto 102, 3) := by decide +kernel
theorem dX5_does_73 : decode cX5_does 73 = .ok (.aload_n 0, 1) := by decide +kernel
theorem dX5_does_74 : decode cX5_does 74 = .ok (.aload_n 0, 1) := by decide +kernel
theorem dX5_does_75 : decode cX5_does 75 = .ok (.getfield 142, 3) := by decide +kernel
theorem dX5_does_78 : decode cX5_does 78 = .ok (.invokevirtual 118, 3) := by decide +kernel
theorem dX5_does_81 : decode cX5_does 81 = .ok (.istore_n 1, 1) := by decide +kernel
theorem dX5_does_82 : decode cX5_does 82 = .ok (.iload_n 1, 1) := by decide +kernel
theorem dX5_does_83 : decode cX5_does 83 = .ok (.ifCond .ne 89, 3) := by decide +kernel
theorem dX5_does_86 : decode cX5_does 86 = .ok (.aload_n 0, 1) := by decide +kernel
theorem dX5_does_87 : decode cX5_does 87 = .ok (.aload_n 0, 1) := by decide +kernel
theorem dX5_does_88 : decode cX5_does 88 = .ok (.getfield 142, 3) := by decide +kernel
theorem dX5_does_91 : decode cX5_does 91 = .ok (.invokevirtual 121, 3) := by decide +kernel
theorem dX5_does_94 : decode cX5_does 94 = .ok (.pop, 1) := by decide +kernel
theorem dX5_does_95 : decode cX5_does 95 = .ok (.goto 77, 3) := by decide +kernel
theorem dX5_does_98 : decode cX5_does 98 = .ok (.aload_n 0, 1) := by decide +kernel
theorem dX5_does_99 : decode cX5_does 99 = .ok (.aload_n 0, 1) := by decide +kernel
theorem dX5_does_100 : decode cX5_does 100 = .ok (.getfield 142, 3) := by decide +kernel
theorem dX5_does_103 : decode cX5_does 103 = .ok (.invokevirtual 86, 3) := by decide +kernel
theorem dX5_does_106 : decode cX5_does 106 = .ok (.istore_n 1, 1) := by decide +kernel
theorem dX5_does_107 : decode cX5_does 107 = .ok (.iload_n 1, 1) := by decide +kernel
theorem dX5_does_108 : decode cX5_does 108 = .ok (.ifCond .ne 64, 3) := by decide +kernel
theorem dX5_does_111 : decode cX5_does 111 = .ok (.aload_n 0, 1) := by decide +kernel
theorem dX5_does_112 : decode cX5_does 112 = .ok (.getfield 7, 3) := by decide +kernel
theorem dX5_does_115 : decode cX5_does 115 = .ok (.aload_n 0, 1) := by decide +kernel
theorem dX5_does_116 : decode cX5_does 116 = .ok (.getfield 142, 3) := by decide +kernel
theorem dX5_does_119 : decode cX5_does 119 = .ok (.iconst 2, 1) := by decide +kernel
theorem dX5_does_120 : decode cX5_does 120 = .ok (.invokestatic 27, 3) := by decide +kernel
theorem dX5_does_123 : decode cX5_does 123 = .ok (.iconst 2, 1) := by decide +kernel
theorem dX5_does_124 : decode cX5_does 124 = .ok (.iastore, 1) := by decide +kernel
theorem dX5_does_125 : decode cX5_does 125 = .ok (.goto 47, 3) := by decide +kernel
theorem dX5_does_128 : decode cX5_does 128 = .ok (.iconst 0, 1) := by decide +kernel
theorem dX5_does_129 : decode cX5_does 129 = .ok (.aload_n 0, 1) := by decide +kernel
theorem dX5_does_130 : decode cX5_does 130 = .ok (.getfield 142, 3) := by decide +kernel
theorem dX5_does_133 : decode cX5_does 133 = .ok (.invokestatic 64, 3) := by decide +kernel
theorem dX5_does_136 : decode cX5_does 136 = .ok (.ifCond .eq 7, 3) := by decide +kernel
theorem dX5_does_139 : decode cX5_does 139 = .ok (.iconst 0, 1) := by decide +kernel
theorem dX5_does_140 : decode cX5_does 140 = .ok (.goto 6, 3) := by decide +kernel
theorem dX5_does_143 : decode cX5_does 143 = .ok (.sipush (-1001), 3) := by decide +kernel
theorem dX5_does_146 : decode cX5_does 146 = .ok (.istore_n 1, 1) := by decide +kernel
theorem dX5_does_147 : decode cX5_does 147 = .ok (.aload_n 0, 1) := by decide +kernel
theorem dX5_does_148 : decode cX5_does 148 = .ok (.getfield 7, 3) := by decide +kernel
theorem dX5_does_151 : decode cX5_does 151 = .ok (.bipush 48, 2) := by decide +kernel
theorem dX5_does_153 : decode cX5_does 153 = .ok (.iload_n 1, 1) := by decide +kernel
theorem dX5_does_154 : decode cX5_does 154 = .ok (.ifCond .ne 10, 3) := by decide +kernel
theorem dX5_does_157 : decode cX5_does 157 = .ok (.aload_n 0, 1) := by decide +kernel
theorem dX5_does_158 : decode cX5_does 158 = .ok (.getfield 142, 3) := by decide +kernel
theorem dX5_does_161 : decode cX5_does 161 = .ok (.goto 10, 3) := by decide +kernel
theorem dX5_does_164 : decode cX5_does 164 = .ok (.aload_n 0, 1) := by decide +kernel
theorem dX5_does_165 : decode cX5_does 165 = .ok (.getfield 7, 3) := by decide +kernel
theorem dX5_does_168 : decode cX5_does 168 = .ok (.bipush 48, 2) := by decide +kernel
theorem dX5_does_170 : decode cX5_does 170 = .ok (.iaload, 1) := by decide +kernel
theorem dX5_does_171 : decode cX5_does 171 = .ok (.iastore, 1) := by decide +kernel
theorem dX5_does_172 : decode cX5_does 172 = .ok (.iload_n 1, 1) := by decide +kernel
theorem dX5_does_173 : decode cX5_does 173 = .ok (.ifCond .ne 7, 3) := by decide +kernel
theorem dX5_does_176 : decode cX5_does 176 = .ok (.iconst 1, 1) := by decide +kernel
theorem dX5_does_177 : decode cX5_does 177 = .ok (.goto 4, 3) := by decide +kernel
theorem dX5_does_180 : decode cX5_does 180 = .ok (.iconst 0, 1) := by decide +kernel
theorem dX5_does_181 : decode cX5_does 181 = .ok (.ireturn, 1) := by decide +kernel
theorem dX5_carryOut_0 : decode cX5_carryOut 0 = .ok (.aload_n 0, 1) := by decide +kernel
theorem dX5_carryOut_1 : decode cX5_carryOut 1 = .ok (.invokevirtual 151, 3) := by decide +kernel
theorem dX5_carryOut_4 : decode cX5_carryOut 4 = .ok (.istore_n 1, 1) := by decide +kernel
theorem dX5_carryOut_5 : decode cX5_carryOut 5 = .ok (.iload_n 1, 1) := by decide +kernel
theorem dX5_carryOut_6 : decode cX5_carryOut 6 = .ok (.ifCond .lt 9, 3) := by decide +kernel
theorem dX5_carryOut_9 : decode cX5_carryOut 9 = .ok (.sipush (-2000), 3) := by decide +kernel
end
section
theorem dX5_carryOut_12 : decode cX5_carryOut 12 = .ok (.iload_n 1, 1) := by decide +kernel
theorem dX5_carryOut_13 : decode cX5_carryOut 13 = .ok (.isub, 1) := by decide +kernel
theorem dX5_carryOut_14 : decode cX5_carryOut 14 = .ok (.ireturn, 1) := by decide +kernel
theorem dX5_carryOut_15 : decode cX5_carryOut 15 = .ok (.aload_n 0, 1) := by decide +kernel
theorem dX5_carryOut_16 : decode cX5_carryOut 16 = .ok (.invokevirtual 38, 3) := by decide +kernel
theorem dX5_carryOut_19 : decode cX5_carryOut 19 = .ok (.aload_n 0, 1) := by decide +kernel
theorem dX5_carryOut_20 : decode cX5_carryOut 20 = .ok (.iconst 0, 1) := by decide +kernel
theorem dX5_carryOut_21 : decode cX5_carryOut 21 = .ok (.putfield 127, 3) := by decide +kernel
theorem dX5_carryOut_24 : decode cX5_carryOut 24 = .ok (.iconst 0, 1) := by decide +kernel
theorem dX5_carryOut_25 : decode cX5_carryOut 25 = .ok (.istore_n 2, 1) := by decide +kernel
theorem dX5_carryOut_26 : decode cX5_carryOut 26 = .ok (.aload_n 0, 1) := by decide +kernel
theorem dX5_carryOut_27 : decode cX5_carryOut 27 = .ok (.getfield 127, 3) := by decide +kernel
theorem dX5_carryOut_30 : decode cX5_carryOut 30 = .ok (.aload_n 0, 1) := by decide +kernel
theorem dX5_carryOut_31 : decode cX5_carryOut 31 = .ok (.getfield 124, 3) := by decide +kernel
theorem dX5_carryOut_34 : decode cX5_carryOut 34 = .ok (.if_icmp .ge 33, 3) := by decide +kernel
theorem dX5_carryOut_37 : decode cX5_carryOut 37 = .ok (.aload_n 0, 1) := by decide +kernel
theorem dX5_carryOut_38 : decode cX5_carryOut 38 = .ok (.invokevirtual 148, 3) := by decide +kernel
theorem dX5_carryOut_41 : decode cX5_carryOut 41 = .ok (.ifCond .eq 26, 3) := by decide +kernel
theorem dX5_carryOut_44 : decode cX5_carryOut 44 = .ok (.aload_n 0, 1) := by decide +kernel
theorem dX5_carryOut_45 : decode cX5_carryOut 45 = .ok (.invokevirtual 154, 3) := by decide +kernel
theorem dX5_carryOut_48 : decode cX5_carryOut 48 = .ok (.ifCond .eq 19, 3) := by decide +kernel
theorem dX5_carryOut_51 : decode cX5_carryOut 51 = .ok (.iinc 2 1, 3) := by decide +kernel
theorem dX5_carryOut_54 : decode cX5_carryOut 54 = .ok (.aload_n 0, 1) := by decide +kernel
theorem dX5_carryOut_55 : decode cX5_carryOut 55 = .ok (.dup, 1) := by decide +kernel
theorem dX5_carryOut_56 : decode cX5_carryOut 56 = .ok (.getfield 127, 3) := by decide +kernel
theorem dX5_carryOut_59 : decode cX5_carryOut 59 = .ok (.iconst 1, 1) := by decide +kernel
theorem dX5_carryOut_60 : decode cX5_carryOut 60 = .ok (.iadd, 1) := by decide +kernel
theorem dX5_carryOut_61 : decode cX5_carryOut 61 = .ok (.putfield 127, 3) := by decide +kernel
theorem dX5_carryOut_64 : decode cX5_carryOut 64 = .ok (.goto (-38), 3) := by decide +kernel
theorem dX5_carryOut_67 : decode cX5_carryOut 67 = .ok (.aload_n 0, 1) := by decide +kernel
theorem dX5_carryOut_68 : decode cX5_carryOut 68 = .ok (.iconst 0, 1) := by decide +kernel
theorem dX5_carryOut_69 : decode cX5_carryOut 69 = .ok (.putfield 124, 3) := by decide +kernel
theorem dX5_carryOut_72 : decode cX5_carryOut 72 = .ok (.iload_n 2, 1) := by decide +kernel
theorem dX5_carryOut_73 : decode cX5_carryOut 73 = .ok (.ireturn, 1) := by decide +kernel
theorem dX5_faultless_0 : decode cX5_faultless 0 = .ok (.iconst 0, 1) := by decide +kernel
theorem dX5_faultless_1 : decode cX5_faultless 1 = .ok (.istore_n 1, 1) := by decide +kernel
theorem dX5_faultless_2 : decode cX5_faultless 2 = .ok (.iconst 0, 1) := by decide +kernel
theorem dX5_faultless_3 : decode cX5_faultless 3 = .ok (.istore_n 2, 1) := by decide +kernel
theorem dX5_faultless_4 : decode cX5_faultless 4 = .ok (.iload_n 2, 1) := by decide +kernel
theorem dX5_faultless_5 : decode cX5_faultless 5 = .ok (.aload_n 0, 1) := by decide +kernel
theorem dX5_faultless_6 : decode cX5_faultless 6 = .ok (.getfield 7, 3) := by decide +kernel
theorem dX5_faultless_9 : decode cX5_faultless 9 = .ok (.bipush 53, 2) := by decide +kernel
theorem dX5_faultless_11 : decode cX5_faultless 11 = .ok (.iaload, 1) := by decide +kernel
theorem dX5_faultless_12 : decode cX5_faultless 12 = .ok (.if_icmp .ge 45, 3) := by decide +kernel
theorem dX5_faultless_15 : decode cX5_faultless 15 = .ok (.iload_n 1, 1) := by decide +kernel
theorem dX5_faultless_16 : decode cX5_faultless 16 = .ok (.aload_n 0, 1) := by decide +kernel
theorem dX5_faultless_17 : decode cX5_faultless 17 = .ok (.getfield 7, 3) := by decide +kernel
theorem dX5_faultless_20 : decode cX5_faultless 20 = .ok (.iload_n 2, 1) := by decide +kernel
theorem dX5_faultless_21 : decode cX5_faultless 21 = .ok (.iconst 2, 1) := by decide +kernel
theorem dX5_faultless_22 : decode cX5_faultless 22 = .ok (.invokestatic 27, 3) := by decide +kernel
theorem dX5_faultless_25 : decode cX5_faultless 25 = .ok (.iaload, 1) := by decide +kernel
theorem dX5_faultless_26 : decode cX5_faultless 26 = .ok (.iconst 1, 1) := by decide +kernel
theorem dX5_faultless_27 : decode cX5_faultless 27 = .ok (.if_icmp .ne 21, 3) := by decide +kernel
theorem dX5_faultless_30 : decode cX5_faultless 30 = .ok (.aload_n 0, 1) := by decide +kernel
theorem dX5_faultless_31 : decode cX5_faultless 31 = .ok (.getfield 7, 3) := by decide +kernel
theorem dX5_faultless_34 : decode cX5_faultless 34 = .ok (.iload_n 2, 1) := by decide +kernel
theorem dX5_faultless_35 : decode cX5_faultless 35 = .ok (.bipush 8, 2) := by decide +kernel
theorem dX5_faultless_37 : decode cX5_faultless 37 = .ok (.invokestatic 27, 3) := by decide +kernel
theorem dX5_faultless_40 : decode cX5_faultless 40 = .ok (.iaload, 1) := by decide +kernel
theorem dX5_faultless_41 : decode cX5_faultless 41 = .ok (.ifCond .ne 7, 3) := by decide +kernel
theorem dX5_faultless_44 : decode cX5_faultless 44 = .ok (.iconst 1, 1) := by decide +kernel
theorem dX5_faultless_45 : decode cX5_faultless 45 = .ok (.goto 4, 3) := by decide +kernel
theorem dX5_faultless_48 : decode cX5_faultless 48 = .ok (.iconst 0, 1) := by decide +kernel
theorem dX5_faultless_49 : decode cX5_faultless 49 = .ok (.iadd, 1) := by decide +kernel
theorem dX5_faultless_50 : decode cX5_faultless 50 = .ok (.istore_n 1, 1) := by decide +kernel
theorem dX5_faultless_51 : decode cX5_faultless 51 = .ok (.iinc 2 1, 3) := by decide +kernel
theorem dX5_faultless_54 : decode cX5_faultless 54 = .ok (.goto (-50), 3) := by decide +kernel
theorem dX5_faultless_57 : decode cX5_faultless 57 = .ok (.iload_n 1, 1) := by decide +kernel
theorem dX5_faultless_58 : decode cX5_faultless 58 = .ok (.ireturn, 1) := by decide +kernel
theorem dX5_count_0 : decode cX5_count 0 = .ok (.iload_n 1, 1) := by decide +kernel
theorem dX5_count_1 : decode cX5_count 1 = .ok (.tableswitch 180 0 15 #[79, 87, 95, 101, 107, 112, 118, 123, 123, 123, 123, 136, 144, 152, 170, 175], 79) := by decide +kernel
theorem dX5_count_80 : decode cX5_count 80 = .ok (.aload_n 0, 1) := by decide +kernel
theorem dX5_count_81 : decode cX5_count 81 = .ok (.getfield 7, 3) := by decide +kernel
theorem dX5_count_84 : decode cX5_count 84 = .ok (.bipush 52, 2) := by decide +kernel
theorem dX5_count_86 : decode cX5_count 86 = .ok (.iaload, 1) := by decide +kernel
theorem dX5_count_87 : decode cX5_count 87 = .ok (.ireturn, 1) := by decide +kernel
theorem dX5_count_88 : decode cX5_count 88 = .ok (.aload_n 0, 1) := by decide +kernel
theorem dX5_count_89 : decode cX5_count 89 = .ok (.getfield 7, 3) := by decide +kernel
theorem dX5_count_92 : decode cX5_count 92 = .ok (.bipush 53, 2) := by decide +kernel
theorem dX5_count_94 : decode cX5_count 94 = .ok (.iaload, 1) := by decide +kernel
theorem dX5_count_95 : decode cX5_count 95 = .ok (.ireturn, 1) := by decide +kernel
theorem dX5_count_96 : decode cX5_count 96 = .ok (.aload_n 0, 1) := by decide +kernel
theorem dX5_count_97 : decode cX5_count 97 = .ok (.iconst 0, 1) := by decide +kernel
theorem dX5_count_98 : decode cX5_count 98 = .ok (.invokevirtual 45, 3) := by decide +kernel
theorem dX5_count_101 : decode cX5_count 101 = .ok (.ireturn, 1) := by decide +kernel
theorem dX5_count_102 : decode cX5_count 102 = .ok (.aload_n 0, 1) := by decide +kernel
theorem dX5_count_103 : decode cX5_count 103 = .ok (.iconst 1, 1) := by decide +kernel
theorem dX5_count_104 : decode cX5_count 104 = .ok (.invokevirtual 45, 3) := by decide +kernel
theorem dX5_count_107 : decode cX5_count 107 = .ok (.ireturn, 1) := by decide +kernel
theorem dX5_count_108 : decode cX5_count 108 = .ok (.aload_n 0, 1) := by decide +kernel
theorem dX5_count_109 : decode cX5_count 109 = .ok (.invokevirtual 157, 3) := by decide +kernel
theorem dX5_count_112 : decode cX5_count 112 = .ok (.ireturn, 1) := by decide +kernel
theorem dX5_count_113 : decode cX5_count 113 = .ok (.aload_n 0, 1) := by decide +kernel
theorem dX5_count_114 : decode cX5_count 114 = .ok (.iconst 2, 1) := by decide +kernel
theorem dX5_count_115 : decode cX5_count 115 = .ok (.invokevirtual 45, 3) := by decide +kernel
theorem dX5_count_118 : decode cX5_count 118 = .ok (.ireturn, 1) := by decide +kernel
theorem dX5_count_119 : decode cX5_count 119 = .ok (.aload_n 0, 1) := by decide +kernel
theorem dX5_count_120 : decode cX5_count 120 = .ok (.invokevirtual 49, 3) := by decide +kernel
theorem dX5_count_123 : decode cX5_count 123 = .ok (.ireturn, 1) := by decide +kernel
theorem dX5_count_124 : decode cX5_count 124 = .ok (.aload_n 0, 1) := by decide +kernel
theorem dX5_count_125 : decode cX5_count 125 = .ok (.getfield 7, 3) := by decide +kernel
theorem dX5_count_128 : decode cX5_count 128 = .ok (.bipush 48, 2) := by decide +kernel
theorem dX5_count_130 : decode cX5_count 130 = .ok (.iload_n 1, 1) := by decide +kernel
theorem dX5_count_131 : decode cX5_count 131 = .ok (.iadd, 1) := by decide +kernel
theorem dX5_count_132 : decode cX5_count 132 = .ok (.bipush 7, 2) := by decide +kernel
theorem dX5_count_134 : decode cX5_count 134 = .ok (.isub, 1) := by decide +kernel
theorem dX5_count_135 : decode cX5_count 135 = .ok (.iaload, 1) := by decide +kernel
theorem dX5_count_136 : decode cX5_count 136 = .ok (.ireturn, 1) := by decide +kernel
theorem dX5_count_137 : decode cX5_count 137 = .ok (.aload_n 0, 1) := by decide +kernel
theorem dX5_count_138 : decode cX5_count 138 = .ok (.getfield 7, 3) := by decide +kernel
theorem dX5_count_141 : decode cX5_count 141 = .ok (.bipush 54, 2) := by decide +kernel
theorem dX5_count_143 : decode cX5_count 143 = .ok (.iaload, 1) := by decide +kernel
theorem dX5_count_144 : decode cX5_count 144 = .ok (.ireturn, 1) := by decide +kernel
theorem dX5_count_145 : decode cX5_count 145 = .ok (.aload_n 0, 1) := by decide +kernel
theorem dX5_count_146 : decode cX5_count 146 = .ok (.getfield 7, 3) := by decide +kernel
theorem dX5_count_149 : decode cX5_count 149 = .ok (.bipush 55, 2) := by decide +kernel
theorem dX5_count_151 : decode cX5_count 151 = .ok (.iaload, 1) := by decide +kernel
theorem dX5_count_152 : decode cX5_count 152 = .ok (.ireturn, 1) := by decide +kernel
theorem dX5_count_153 : decode cX5_count 153 = .ok (.aload_n 0, 1) := by decide +kernel
theorem dX5_count_154 : decode cX5_count 154 = .ok (.getfield 7, 3) := by decide +kernel
theorem dX5_count_157 : decode cX5_count 157 = .ok (.sipush 2121, 3) := by decide +kernel
theorem dX5_count_160 : decode cX5_count 160 = .ok (.iaload, 1) := by decide +kernel
theorem dX5_count_161 : decode cX5_count 161 = .ok (.aload_n 0, 1) := by decide +kernel
theorem dX5_count_162 : decode cX5_count 162 = .ok (.getfield 7, 3) := by decide +kernel
theorem dX5_count_165 : decode cX5_count 165 = .ok (.sipush 2122, 3) := by decide +kernel
theorem dX5_count_168 : decode cX5_count 168 = .ok (.iaload, 1) := by decide +kernel
theorem dX5_count_169 : decode cX5_count 169 = .ok (.iadd, 1) := by decide +kernel
theorem dX5_count_170 : decode cX5_count 170 = .ok (.ireturn, 1) := by decide +kernel
theorem dX5_count_171 : decode cX5_count 171 = .ok (.aload_n 0, 1) := by decide +kernel
theorem dX5_count_172 : decode cX5_count 172 = .ok (.getfield 30, 3) := by decide +kernel
theorem dX5_count_175 : decode cX5_count 175 = .ok (.ireturn, 1) := by decide +kernel
theorem dX5_count_176 : decode cX5_count 176 = .ok (.aload_n 0, 1) := by decide +kernel
theorem dX5_count_177 : decode cX5_count 177 = .ok (.getfield 124, 3) := by decide +kernel
theorem dX5_count_180 : decode cX5_count 180 = .ok (.ireturn, 1) := by decide +kernel
theorem dX5_count_181 : decode cX5_count 181 = .ok (.sipush (-1001), 3) := by decide +kernel
theorem dX5_count_184 : decode cX5_count 184 = .ok (.ireturn, 1) := by decide +kernel
theorem dX5_firstCell_0 : decode cX5_firstCell 0 = .ok (.iconst 0, 1) := by decide +kernel
theorem dX5_firstCell_1 : decode cX5_firstCell 1 = .ok (.istore_n 2, 1) := by decide +kernel
theorem dX5_firstCell_2 : decode cX5_firstCell 2 = .ok (.iconst 0, 1) := by decide +kernel
theorem dX5_firstCell_3 : decode cX5_firstCell 3 = .ok (.istore_n 3, 1) := by decide +kernel
theorem dX5_firstCell_4 : decode cX5_firstCell 4 = .ok (.iload_n 3, 1) := by decide +kernel
theorem dX5_firstCell_5 : decode cX5_firstCell 5 = .ok (.iload_n 1, 1) := by decide +kernel
theorem dX5_firstCell_6 : decode cX5_firstCell 6 = .ok (.if_icmp .ge 22, 3) := by decide +kernel
theorem dX5_firstCell_9 : decode cX5_firstCell 9 = .ok (.iload_n 2, 1) := by decide +kernel
theorem dX5_firstCell_10 : decode cX5_firstCell 10 = .ok (.aload_n 0, 1) := by decide +kernel
theorem dX5_firstCell_11 : decode cX5_firstCell 11 = .ok (.getfield 7, 3) := by decide +kernel
theorem dX5_firstCell_14 : decode cX5_firstCell 14 = .ok (.iload_n 3, 1) := by decide +kernel
theorem dX5_firstCell_15 : decode cX5_firstCell 15 = .ok (.iconst 0, 1) := by decide +kernel
theorem dX5_firstCell_16 : decode cX5_firstCell 16 = .ok (.invokestatic 16, 3) := by decide +kernel
theorem dX5_firstCell_19 : decode cX5_firstCell 19 = .ok (.iaload, 1) := by decide +kernel
theorem dX5_firstCell_20 : decode cX5_firstCell 20 = .ok (.iadd, 1) := by decide +kernel
theorem dX5_firstCell_21 : decode cX5_firstCell 21 = .ok (.istore_n 2, 1) := by decide +kernel
theorem dX5_firstCell_22 : decode cX5_firstCell 22 = .ok (.iinc 3 1, 3) := by decide +kernel
theorem dX5_firstCell_25 : decode cX5_firstCell 25 = .ok (.goto (-21), 3) := by decide +kernel
theorem dX5_firstCell_28 : decode cX5_firstCell 28 = .ok (.iload_n 2, 1) := by decide +kernel
theorem dX5_firstCell_29 : decode cX5_firstCell 29 = .ok (.ireturn, 1) := by decide +kernel
theorem dX5_boardsIn_0 : decode cX5_boardsIn 0 = .ok (.iconst 0, 1) := by decide +kernel
theorem dX5_boardsIn_1 : decode cX5_boardsIn 1 = .ok (.istore_n 2, 1) := by decide +kernel
theorem dX5_boardsIn_2 : decode cX5_boardsIn 2 = .ok (.iconst 0, 1) := by decide +kernel
theorem dX5_boardsIn_3 : decode cX5_boardsIn 3 = .ok (.istore_n 3, 1) := by decide +kernel
theorem dX5_boardsIn_4 : decode cX5_boardsIn 4 = .ok (.iload_n 3, 1) := by decide +kernel
theorem dX5_boardsIn_5 : decode cX5_boardsIn 5 = .ok (.aload_n 0, 1) := by decide +kernel
theorem dX5_boardsIn_6 : decode cX5_boardsIn 6 = .ok (.getfield 7, 3) := by decide +kernel
theorem dX5_boardsIn_9 : decode cX5_boardsIn 9 = .ok (.bipush 53, 2) := by decide +kernel
theorem dX5_boardsIn_11 : decode cX5_boardsIn 11 = .ok (.iaload, 1) := by decide +kernel
theorem dX5_boardsIn_12 : decode cX5_boardsIn 12 = .ok (.if_icmp .ge 43, 3) := by decide +kernel
theorem dX5_boardsIn_15 : decode cX5_boardsIn 15 = .ok (.iload_n 2, 1) := by decide +kernel
theorem dX5_boardsIn_16 : decode cX5_boardsIn 16 = .ok (.aload_n 0, 1) := by decide +kernel
theorem dX5_boardsIn_17 : decode cX5_boardsIn 17 = .ok (.iload_n 3, 1) := by decide +kernel
theorem dX5_boardsIn_18 : decode cX5_boardsIn 18 = .ok (.invokevirtual 67, 3) := by decide +kernel
theorem dX5_boardsIn_21 : decode cX5_boardsIn 21 = .ok (.ifCond .eq 25, 3) := by decide +kernel
theorem dX5_boardsIn_24 : decode cX5_boardsIn 24 = .ok (.aload_n 0, 1) := by decide +kernel
theorem dX5_boardsIn_25 : decode cX5_boardsIn 25 = .ok (.aload_n 0, 1) := by decide +kernel
theorem dX5_boardsIn_26 : decode cX5_boardsIn 26 = .ok (.getfield 7, 3) := by decide +kernel
theorem dX5_boardsIn_29 : decode cX5_boardsIn 29 = .ok (.iload_n 3, 1) := by decide +kernel
theorem dX5_boardsIn_30 : decode cX5_boardsIn 30 = .ok (.iconst 3, 1) := by decide +kernel
theorem dX5_boardsIn_31 : decode cX5_boardsIn 31 = .ok (.invokestatic 27, 3) := by decide +kernel
theorem dX5_boardsIn_34 : decode cX5_boardsIn 34 = .ok (.iaload, 1) := by decide +kernel
theorem dX5_boardsIn_35 : decode cX5_boardsIn 35 = .ok (.invokevirtual 96, 3) := by decide +kernel
theorem dX5_boardsIn_38 : decode cX5_boardsIn 38 = .ok (.iload_n 1, 1) := by decide +kernel
theorem dX5_boardsIn_39 : decode cX5_boardsIn 39 = .ok (.if_icmp .ne 7, 3) := by decide +kernel
theorem dX5_boardsIn_42 : decode cX5_boardsIn 42 = .ok (.iconst 1, 1) := by decide +kernel
theorem dX5_boardsIn_43 : decode cX5_boardsIn 43 = .ok (.goto 4, 3) := by decide +kernel
theorem dX5_boardsIn_46 : decode cX5_boardsIn 46 = .ok (.iconst 0, 1) := by decide +kernel
theorem dX5_boardsIn_47 : decode cX5_boardsIn 47 = .ok (.iadd, 1) := by decide +kernel
theorem dX5_boardsIn_48 : decode cX5_boardsIn 48 = .ok (.istore_n 2, 1) := by decide +kernel
theorem dX5_boardsIn_49 : decode cX5_boardsIn 49 = .ok (.iinc 3 1, 3) := by decide +kernel
theorem dX5_boardsIn_52 : decode cX5_boardsIn 52 = .ok (.goto (-48), 3) := by decide +kernel
theorem dX5_boardsIn_55 : decode cX5_boardsIn 55 = .ok (.iload_n 2, 1) := by decide +kernel
theorem dX5_boardsIn_56 : decode cX5_boardsIn 56 = .ok (.ireturn, 1) := by decide +kernel
theorem dX5_zone_0 : decode cX5_zone 0 = .ok (.iload_n 1, 1) := by decide +kernel
theorem dX5_zone_1 : decode cX5_zone 1 = .ok (.invokestatic 41, 3) := by decide +kernel
theorem dX5_zone_4 : decode cX5_zone 4 = .ok (.ifCond .eq 13, 3) := by decide +kernel
theorem dX5_zone_7 : decode cX5_zone 7 = .ok (.iload_n 2, 1) := by decide +kernel
theorem dX5_zone_8 : decode cX5_zone 8 = .ok (.iconst 0, 1) := by decide +kernel
theorem dX5_zone_9 : decode cX5_zone 9 = .ok (.bipush 6, 2) := by decide +kernel
theorem dX5_zone_11 : decode cX5_zone 11 = .ok (.invokestatic 23, 3) := by decide +kernel
theorem dX5_zone_14 : decode cX5_zone 14 = .ok (.ifCond .ne 7, 3) := by decide +kernel
theorem dX5_zone_17 : decode cX5_zone 17 = .ok (.sipush (-1001), 3) := by decide +kernel
theorem dX5_zone_20 : decode cX5_zone 20 = .ok (.ireturn, 1) := by decide +kernel
theorem dX5_zone_21 : decode cX5_zone 21 = .ok (.iload_n 2, 1) := by decide +kernel
theorem dX5_zone_22 : decode cX5_zone 22 = .ok (.iconst 4, 1) := by decide +kernel
theorem dX5_zone_23 : decode cX5_zone 23 = .ok (.if_icmp .ge 16, 3) := by decide +kernel
theorem dX5_zone_26 : decode cX5_zone 26 = .ok (.aload_n 0, 1) := by decide +kernel
theorem dX5_zone_27 : decode cX5_zone 27 = .ok (.getfield 7, 3) := by decide +kernel
theorem dX5_zone_30 : decode cX5_zone 30 = .ok (.iload_n 1, 1) := by decide +kernel
theorem dX5_zone_31 : decode cX5_zone 31 = .ok (.iload_n 2, 1) := by decide +kernel
theorem dX5_zone_32 : decode cX5_zone 32 = .ok (.invokestatic 16, 3) := by decide +kernel
theorem dX5_zone_35 : decode cX5_zone 35 = .ok (.iaload, 1) := by decide +kernel
theorem dX5_zone_36 : decode cX5_zone 36 = .ok (.goto 34, 3) := by decide +kernel
theorem dX5_zone_39 : decode cX5_zone 39 = .ok (.iload_n 2, 1) := by decide +kernel
theorem dX5_zone_40 : decode cX5_zone 40 = .ok (.iconst 4, 1) := by decide +kernel
theorem dX5_zone_41 : decode cX5_zone 41 = .ok (.if_icmp .ne 11, 3) := by decide +kernel
theorem dX5_zone_44 : decode cX5_zone 44 = .ok (.aload_n 0, 1) := by decide +kernel
theorem dX5_zone_45 : decode cX5_zone 45 = .ok (.iload_n 1, 1) := by decide +kernel
theorem dX5_zone_46 : decode cX5_zone 46 = .ok (.invokevirtual 160, 3) := by decide +kernel
theorem dX5_zone_49 : decode cX5_zone 49 = .ok (.goto 21, 3) := by decide +kernel
theorem dX5_zone_52 : decode cX5_zone 52 = .ok (.iload_n 2, 1) := by decide +kernel
theorem dX5_zone_53 : decode cX5_zone 53 = .ok (.iconst 5, 1) := by decide +kernel
theorem dX5_zone_54 : decode cX5_zone 54 = .ok (.if_icmp .ne 11, 3) := by decide +kernel
theorem dX5_zone_57 : decode cX5_zone 57 = .ok (.aload_n 0, 1) := by decide +kernel
theorem dX5_zone_58 : decode cX5_zone 58 = .ok (.iload_n 1, 1) := by decide +kernel
theorem dX5_zone_59 : decode cX5_zone 59 = .ok (.invokevirtual 163, 3) := by decide +kernel
theorem dX5_zone_62 : decode cX5_zone 62 = .ok (.goto 8, 3) := by decide +kernel
theorem dX5_zone_65 : decode cX5_zone 65 = .ok (.aload_n 0, 1) := by decide +kernel
theorem dX5_zone_66 : decode cX5_zone 66 = .ok (.iload_n 1, 1) := by decide +kernel
theorem dX5_zone_67 : decode cX5_zone 67 = .ok (.invokevirtual 99, 3) := by decide +kernel
theorem dX5_zone_70 : decode cX5_zone 70 = .ok (.ireturn, 1) := by decide +kernel
theorem dX5_curve_0 : decode cX5_curve 0 = .ok (.iload_n 1, 1) := by decide +kernel
theorem dX5_curve_1 : decode cX5_curve 1 = .ok (.invokestatic 53, 3) := by decide +kernel
theorem dX5_curve_4 : decode cX5_curve 4 = .ok (.ifCond .eq 25, 3) := by decide +kernel
theorem dX5_curve_7 : decode cX5_curve 7 = .ok (.iload_n 2, 1) := by decide +kernel
theorem dX5_curve_8 : decode cX5_curve 8 = .ok (.iconst 0, 1) := by decide +kernel
theorem dX5_curve_9 : decode cX5_curve 9 = .ok (.iconst 5, 1) := by decide +kernel
theorem dX5_curve_10 : decode cX5_curve 10 = .ok (.invokestatic 23, 3) := by decide +kernel
theorem dX5_curve_13 : decode cX5_curve 13 = .ok (.ifCond .eq 16, 3) := by decide +kernel
theorem dX5_curve_16 : decode cX5_curve 16 = .ok (.aload_n 0, 1) := by decide +kernel
theorem dX5_curve_17 : decode cX5_curve 17 = .ok (.getfield 7, 3) := by decide +kernel
theorem dX5_curve_20 : decode cX5_curve 20 = .ok (.iload_n 1, 1) := by decide +kernel
theorem dX5_curve_21 : decode cX5_curve 21 = .ok (.iload_n 2, 1) := by decide +kernel
theorem dX5_curve_22 : decode cX5_curve 22 = .ok (.invokestatic 20, 3) := by decide +kernel
theorem dX5_curve_25 : decode cX5_curve 25 = .ok (.iaload, 1) := by decide +kernel
theorem dX5_curve_26 : decode cX5_curve 26 = .ok (.goto 6, 3) := by decide +kernel
theorem dX5_curve_29 : decode cX5_curve 29 = .ok (.sipush (-1001), 3) := by decide +kernel
theorem dX5_curve_32 : decode cX5_curve 32 = .ok (.ireturn, 1) := by decide +kernel
theorem dX5_board_0 : decode cX5_board 0 = .ok (.aload_n 0, 1) := by decide +kernel
theorem dX5_board_1 : decode cX5_board 1 = .ok (.iload_n 1, 1) := by decide +kernel
theorem dX5_board_2 : decode cX5_board 2 = .ok (.invokevirtual 83, 3) := by decide +kernel
theorem dX5_board_5 : decode cX5_board 5 = .ok (.ifCond .eq 13, 3) := by decide +kernel
theorem dX5_board_8 : decode cX5_board 8 = .ok (.iload_n 2, 1) := by decide +kernel
theorem dX5_board_9 : decode cX5_board 9 = .ok (.iconst 0, 1) := by decide +kernel
theorem dX5_board_10 : decode cX5_board 10 = .ok (.bipush 10, 2) := by decide +kernel
theorem dX5_board_12 : decode cX5_board 12 = .ok (.invokestatic 23, 3) := by decide +kernel
theorem dX5_board_15 : decode cX5_board 15 = .ok (.ifCond .ne 7, 3) := by decide +kernel
theorem dX5_board_18 : decode cX5_board 18 = .ok (.sipush (-1001), 3) := by decide +kernel
theorem dX5_board_21 : decode cX5_board 21 = .ok (.ireturn, 1) := by decide +kernel
theorem dX5_board_22 : decode cX5_board 22 = .ok (.iload_n 2, 1) := by decide +kernel
theorem dX5_board_23 : decode cX5_board 23 = .ok (.iconst 3, 1) := by decide +kernel
theorem dX5_board_24 : decode cX5_board 24 = .ok (.if_icmp .ne 17, 3) := by decide +kernel
theorem dX5_board_27 : decode cX5_board 27 = .ok (.aload_n 0, 1) := by decide +kernel
theorem dX5_board_28 : decode cX5_board 28 = .ok (.iload_n 1, 1) := by decide +kernel
theorem dX5_board_29 : decode cX5_board 29 = .ok (.invokevirtual 67, 3) := by decide +kernel
theorem dX5_board_32 : decode cX5_board 32 = .ok (.ifCond .ne 9, 3) := by decide +kernel
theorem dX5_board_35 : decode cX5_board 35 = .ok (.sipush (-1009), 3) := by decide +kernel
theorem dX5_board_38 : decode cX5_board 38 = .ok (.goto 13, 3) := by decide +kernel
theorem dX5_board_41 : decode cX5_board 41 = .ok (.aload_n 0, 1) := by decide +kernel
theorem dX5_board_42 : decode cX5_board 42 = .ok (.getfield 7, 3) := by decide +kernel
theorem dX5_board_45 : decode cX5_board 45 = .ok (.iload_n 1, 1) := by decide +kernel
theorem dX5_board_46 : decode cX5_board 46 = .ok (.iload_n 2, 1) := by decide +kernel
theorem dX5_board_47 : decode cX5_board 47 = .ok (.invokestatic 27, 3) := by decide +kernel
theorem dX5_board_50 : decode cX5_board 50 = .ok (.iaload, 1) := by decide +kernel
theorem dX5_board_51 : decode cX5_board 51 = .ok (.ireturn, 1) := by decide +kernel
theorem dX5_hasFault_0 : decode cX5_hasFault 0 = .ok (.aload_n 0, 1) := by decide +kernel
theorem dX5_hasFault_1 : decode cX5_hasFault 1 = .ok (.getfield 7, 3) := by decide +kernel
theorem dX5_hasFault_4 : decode cX5_hasFault 4 = .ok (.iload_n 1, 1) := by decide +kernel
theorem dX5_hasFault_5 : decode cX5_hasFault 5 = .ok (.bipush 8, 2) := by decide +kernel
theorem dX5_hasFault_7 : decode cX5_hasFault 7 = .ok (.invokestatic 27, 3) := by decide +kernel
theorem dX5_hasFault_10 : decode cX5_hasFault 10 = .ok (.iaload, 1) := by decide +kernel
theorem dX5_hasFault_11 : decode cX5_hasFault 11 = .ok (.iload_n 2, 1) := by decide +kernel
theorem dX5_hasFault_12 : decode cX5_hasFault 12 = .ok (.ishr, 1) := by decide +kernel
theorem dX5_hasFault_13 : decode cX5_hasFault 13 = .ok (.iconst 1, 1) := by decide +kernel
theorem dX5_hasFault_14 : decode cX5_hasFault 14 = .ok (.iand, 1) := by decide +kernel
theorem dX5_hasFault_15 : decode cX5_hasFault 15 = .ok (.iconst 1, 1) := by decide +kernel
theorem dX5_hasFault_16 : decode cX5_hasFault 16 = .ok (.if_icmp .ne 7, 3) := by decide +kernel
theorem dX5_hasFault_19 : decode cX5_hasFault 19 = .ok (.iconst 1, 1) := by decide +kernel
theorem dX5_hasFault_20 : decode cX5_hasFault 20 = .ok (.goto 4, 3) := by decide +kernel
theorem dX5_hasFault_23 : decode cX5_hasFault 23 = .ok (.iconst 0, 1) := by decide +kernel
theorem dX5_hasFault_24 : decode cX5_hasFault 24 = .ok (.ireturn, 1) := by decide +kernel
theorem dX5_fault_0 : decode cX5_fault 0 = .ok (.aload_n 0, 1) := by decide +kernel
theorem dX5_fault_1 : decode cX5_fault 1 = .ok (.iload_n 1, 1) := by decide +kernel
theorem dX5_fault_2 : decode cX5_fault 2 = .ok (.invokevirtual 83, 3) := by decide +kernel
theorem dX5_fault_5 : decode cX5_fault 5 = .ok (.ifCond .eq 21, 3) := by decide +kernel
theorem dX5_fault_8 : decode cX5_fault 8 = .ok (.iload_n 2, 1) := by decide +kernel
theorem dX5_fault_9 : decode cX5_fault 9 = .ok (.iconst 0, 1) := by decide +kernel
theorem dX5_fault_10 : decode cX5_fault 10 = .ok (.iconst 4, 1) := by decide +kernel
theorem dX5_fault_11 : decode cX5_fault 11 = .ok (.invokestatic 23, 3) := by decide +kernel
theorem dX5_fault_14 : decode cX5_fault 14 = .ok (.ifCond .eq 12, 3) := by decide +kernel
theorem dX5_fault_17 : decode cX5_fault 17 = .ok (.iload_n 3, 1) := by decide +kernel
theorem dX5_fault_18 : decode cX5_fault 18 = .ok (.iconst 0, 1) := by decide +kernel
theorem dX5_fault_19 : decode cX5_fault 19 = .ok (.iconst 1, 1) := by decide +kernel
theorem dX5_fault_20 : decode cX5_fault 20 = .ok (.invokestatic 23, 3) := by decide +kernel
theorem dX5_fault_23 : decode cX5_fault 23 = .ok (.ifCond .ne 7, 3) := by decide +kernel
theorem dX5_fault_26 : decode cX5_fault 26 = .ok (.sipush (-1001), 3) := by decide +kernel
theorem dX5_fault_29 : decode cX5_fault 29 = .ok (.ireturn, 1) := by decide +kernel
theorem dX5_fault_30 : decode cX5_fault 30 = .ok (.aload_n 0, 1) := by decide +kernel
theorem dX5_fault_31 : decode cX5_fault 31 = .ok (.iload_n 1, 1) := by decide +kernel
theorem dX5_fault_32 : decode cX5_fault 32 = .ok (.iload_n 2, 1) := by decide +kernel
theorem dX5_fault_33 : decode cX5_fault 33 = .ok (.invokevirtual 166, 3) := by decide +kernel
theorem dX5_fault_36 : decode cX5_fault 36 = .ok (.ifCond .eq 28, 3) := by decide +kernel
theorem dX5_fault_39 : decode cX5_fault 39 = .ok (.aload_n 0, 1) := by decide +kernel
theorem dX5_fault_40 : decode cX5_fault 40 = .ok (.getfield 7, 3) := by decide +kernel
theorem dX5_fault_43 : decode cX5_fault 43 = .ok (.iload_n 1, 1) := by decide +kernel
theorem dX5_fault_44 : decode cX5_fault 44 = .ok (.iload_n 3, 1) := by decide +kernel
theorem dX5_fault_45 : decode cX5_fault 45 = .ok (.ifCond .ne 8, 3) := by decide +kernel
theorem dX5_fault_48 : decode cX5_fault 48 = .ok (.bipush 11, 2) := by decide +kernel
theorem dX5_fault_50 : decode cX5_fault 50 = .ok (.goto 5, 3) := by decide +kernel
theorem dX5_fault_53 : decode cX5_fault 53 = .ok (.bipush 16, 2) := by decide +kernel
theorem dX5_fault_55 : decode cX5_fault 55 = .ok (.iload_n 2, 1) := by decide +kernel
theorem dX5_fault_56 : decode cX5_fault 56 = .ok (.iadd, 1) := by decide +kernel
theorem dX5_fault_57 : decode cX5_fault 57 = .ok (.invokestatic 27, 3) := by decide +kernel
theorem dX5_fault_60 : decode cX5_fault 60 = .ok (.iaload, 1) := by decide +kernel
theorem dX5_fault_61 : decode cX5_fault 61 = .ok (.goto 6, 3) := by decide +kernel
theorem dX5_fault_64 : decode cX5_fault 64 = .ok (.sipush (-1009), 3) := by decide +kernel
theorem dX5_fault_67 : decode cX5_fault 67 = .ok (.ireturn, 1) := by decide +kernel
theorem dX5_faultsIn_0 : decode cX5_faultsIn 0 = .ok (.iconst 0, 1) := by decide +kernel
theorem dX5_faultsIn_1 : decode cX5_faultsIn 1 = .ok (.istore_n 3, 1) := by decide +kernel
theorem dX5_faultsIn_2 : decode cX5_faultsIn 2 = .ok (.iconst 0, 1) := by decide +kernel
theorem dX5_faultsIn_3 : decode cX5_faultsIn 3 = .ok (.istore 4, 2) := by decide +kernel
theorem dX5_faultsIn_5 : decode cX5_faultsIn 5 = .ok (.iload 4, 2) := by decide +kernel
theorem dX5_faultsIn_7 : decode cX5_faultsIn 7 = .ok (.aload_n 0, 1) := by decide +kernel
theorem dX5_faultsIn_8 : decode cX5_faultsIn 8 = .ok (.getfield 7, 3) := by decide +kernel
theorem dX5_faultsIn_11 : decode cX5_faultsIn 11 = .ok (.bipush 53, 2) := by decide +kernel
theorem dX5_faultsIn_13 : decode cX5_faultsIn 13 = .ok (.iaload, 1) := by decide +kernel
theorem dX5_faultsIn_14 : decode cX5_faultsIn 14 = .ok (.if_icmp .ge 73, 3) := by decide +kernel
theorem dX5_faultsIn_17 : decode cX5_faultsIn 17 = .ok (.iconst 0, 1) := by decide +kernel
theorem dX5_faultsIn_18 : decode cX5_faultsIn 18 = .ok (.istore 5, 2) := by decide +kernel
theorem dX5_faultsIn_20 : decode cX5_faultsIn 20 = .ok (.iload 5, 2) := by decide +kernel
theorem dX5_faultsIn_22 : decode cX5_faultsIn 22 = .ok (.iconst 5, 1) := by decide +kernel
theorem dX5_faultsIn_23 : decode cX5_faultsIn 23 = .ok (.if_icmp .ge 58, 3) := by decide +kernel
theorem dX5_faultsIn_26 : decode cX5_faultsIn 26 = .ok (.iload_n 3, 1) := by decide +kernel
theorem dX5_faultsIn_27 : decode cX5_faultsIn 27 = .ok (.iload_n 2, 1) := by decide +kernel
theorem dX5_faultsIn_28 : decode cX5_faultsIn 28 = .ok (.iconst 5, 1) := by decide +kernel
theorem dX5_faultsIn_29 : decode cX5_faultsIn 29 = .ok (.if_icmp .eq 9, 3) := by decide +kernel
theorem dX5_faultsIn_32 : decode cX5_faultsIn 32 = .ok (.iload 5, 2) := by decide +kernel
theorem dX5_faultsIn_34 : decode cX5_faultsIn 34 = .ok (.iload_n 2, 1) := by decide +kernel
theorem dX5_faultsIn_35 : decode cX5_faultsIn 35 = .ok (.if_icmp .ne 37, 3) := by decide +kernel
theorem dX5_faultsIn_38 : decode cX5_faultsIn 38 = .ok (.aload_n 0, 1) := by decide +kernel
theorem dX5_faultsIn_39 : decode cX5_faultsIn 39 = .ok (.iload 4, 2) := by decide +kernel
theorem dX5_faultsIn_41 : decode cX5_faultsIn 41 = .ok (.iload 5, 2) := by decide +kernel
theorem dX5_faultsIn_43 : decode cX5_faultsIn 43 = .ok (.invokevirtual 166, 3) := by decide +kernel
theorem dX5_faultsIn_46 : decode cX5_faultsIn 46 = .ok (.ifCond .eq 26, 3) := by decide +kernel
theorem dX5_faultsIn_49 : decode cX5_faultsIn 49 = .ok (.aload_n 0, 1) := by decide +kernel
theorem dX5_faultsIn_50 : decode cX5_faultsIn 50 = .ok (.getfield 7, 3) := by decide +kernel
theorem dX5_faultsIn_53 : decode cX5_faultsIn 53 = .ok (.iload 4, 2) := by decide +kernel
theorem dX5_faultsIn_55 : decode cX5_faultsIn 55 = .ok (.bipush 11, 2) := by decide +kernel
theorem dX5_faultsIn_57 : decode cX5_faultsIn 57 = .ok (.iload 5, 2) := by decide +kernel
theorem dX5_faultsIn_59 : decode cX5_faultsIn 59 = .ok (.iadd, 1) := by decide +kernel
theorem dX5_faultsIn_60 : decode cX5_faultsIn 60 = .ok (.invokestatic 27, 3) := by decide +kernel
theorem dX5_faultsIn_63 : decode cX5_faultsIn 63 = .ok (.iaload, 1) := by decide +kernel
theorem dX5_faultsIn_64 : decode cX5_faultsIn 64 = .ok (.iload_n 1, 1) := by decide +kernel
theorem dX5_faultsIn_65 : decode cX5_faultsIn 65 = .ok (.if_icmp .ne 7, 3) := by decide +kernel
theorem dX5_faultsIn_68 : decode cX5_faultsIn 68 = .ok (.iconst 1, 1) := by decide +kernel
theorem dX5_faultsIn_69 : decode cX5_faultsIn 69 = .ok (.goto 4, 3) := by decide +kernel
theorem dX5_faultsIn_72 : decode cX5_faultsIn 72 = .ok (.iconst 0, 1) := by decide +kernel
theorem dX5_faultsIn_73 : decode cX5_faultsIn 73 = .ok (.iadd, 1) := by decide +kernel
theorem dX5_faultsIn_74 : decode cX5_faultsIn 74 = .ok (.istore_n 3, 1) := by decide +kernel
theorem dX5_faultsIn_75 : decode cX5_faultsIn 75 = .ok (.iinc 5 1, 3) := by decide +kernel
theorem dX5_faultsIn_78 : decode cX5_faultsIn 78 = .ok (.goto (-58), 3) := by decide +kernel
theorem dX5_faultsIn_81 : decode cX5_faultsIn 81 = .ok (.iinc 4 1, 3) := by decide +kernel
theorem dX5_faultsIn_84 : decode cX5_faultsIn 84 = .ok (.goto (-79), 3) := by decide +kernel
theorem dX5_faultsIn_87 : decode cX5_faultsIn 87 = .ok (.iload_n 3, 1) := by decide +kernel
theorem dX5_faultsIn_88 : decode cX5_faultsIn 88 = .ok (.ireturn, 1) := by decide +kernel
theorem dX5_worstCell_0 : decode cX5_worstCell 0 = .ok (.iload_n 1, 1) := by decide +kernel
theorem dX5_worstCell_1 : decode cX5_worstCell 1 = .ok (.iconst 0, 1) := by decide +kernel
theorem dX5_worstCell_2 : decode cX5_worstCell 2 = .ok (.iconst 4, 1) := by decide +kernel
theorem dX5_worstCell_3 : decode cX5_worstCell 3 = .ok (.invokestatic 23, 3) := by decide +kernel
theorem dX5_worstCell_6 : decode cX5_worstCell 6 = .ok (.ifCond .eq 12, 3) := by decide +kernel
theorem dX5_worstCell_9 : decode cX5_worstCell 9 = .ok (.iload_n 2, 1) := by decide +kernel
theorem dX5_worstCell_10 : decode cX5_worstCell 10 = .ok (.iconst 0, 1) := by decide +kernel
theorem dX5_worstCell_11 : decode cX5_worstCell 11 = .ok (.iconst 1, 1) := by decide +kernel
theorem dX5_worstCell_12 : decode cX5_worstCell 12 = .ok (.invokestatic 23, 3) := by decide +kernel
theorem dX5_worstCell_15 : decode cX5_worstCell 15 = .ok (.ifCond .ne 7, 3) := by decide +kernel
theorem dX5_worstCell_18 : decode cX5_worstCell 18 = .ok (.sipush (-1001), 3) := by decide +kernel
theorem dX5_worstCell_21 : decode cX5_worstCell 21 = .ok (.ireturn, 1) := by decide +kernel
theorem dX5_worstCell_22 : decode cX5_worstCell 22 = .ok (.sipush (-1009), 3) := by decide +kernel
theorem dX5_worstCell_25 : decode cX5_worstCell 25 = .ok (.istore_n 3, 1) := by decide +kernel
theorem dX5_worstCell_26 : decode cX5_worstCell 26 = .ok (.iconst 0, 1) := by decide +kernel
theorem dX5_worstCell_27 : decode cX5_worstCell 27 = .ok (.istore 4, 2) := by decide +kernel
theorem dX5_worstCell_29 : decode cX5_worstCell 29 = .ok (.iconst 0, 1) := by decide +kernel
theorem dX5_worstCell_30 : decode cX5_worstCell 30 = .ok (.istore 5, 2) := by decide +kernel
theorem dX5_worstCell_32 : decode cX5_worstCell 32 = .ok (.iload 5, 2) := by decide +kernel
theorem dX5_worstCell_34 : decode cX5_worstCell 34 = .ok (.bipush 49, 2) := by decide +kernel
theorem dX5_worstCell_36 : decode cX5_worstCell 36 = .ok (.if_icmp .ge 48, 3) := by decide +kernel
theorem dX5_worstCell_39 : decode cX5_worstCell 39 = .ok (.aload_n 0, 1) := by decide +kernel
theorem dX5_worstCell_40 : decode cX5_worstCell 40 = .ok (.iload 5, 2) := by decide +kernel
theorem dX5_worstCell_42 : decode cX5_worstCell 42 = .ok (.iload_n 1, 1) := by decide +kernel
theorem dX5_worstCell_43 : decode cX5_worstCell 43 = .ok (.invokevirtual 169, 3) := by decide +kernel
theorem dX5_worstCell_46 : decode cX5_worstCell 46 = .ok (.istore 6, 2) := by decide +kernel
theorem dX5_worstCell_48 : decode cX5_worstCell 48 = .ok (.iload 6, 2) := by decide +kernel
theorem dX5_worstCell_50 : decode cX5_worstCell 50 = .ok (.iload 4, 2) := by decide +kernel
theorem dX5_worstCell_52 : decode cX5_worstCell 52 = .ok (.if_icmp .le 8, 3) := by decide +kernel
theorem dX5_worstCell_55 : decode cX5_worstCell 55 = .ok (.iload 5, 2) := by decide +kernel
theorem dX5_worstCell_57 : decode cX5_worstCell 57 = .ok (.goto 4, 3) := by decide +kernel
theorem dX5_worstCell_60 : decode cX5_worstCell 60 = .ok (.iload_n 3, 1) := by decide +kernel
theorem dX5_worstCell_61 : decode cX5_worstCell 61 = .ok (.istore_n 3, 1) := by decide +kernel
theorem dX5_worstCell_62 : decode cX5_worstCell 62 = .ok (.iload 6, 2) := by decide +kernel
theorem dX5_worstCell_64 : decode cX5_worstCell 64 = .ok (.iload 4, 2) := by decide +kernel
theorem dX5_worstCell_66 : decode cX5_worstCell 66 = .ok (.if_icmp .le 8, 3) := by decide +kernel
theorem dX5_worstCell_69 : decode cX5_worstCell 69 = .ok (.iload 6, 2) := by decide +kernel
theorem dX5_worstCell_71 : decode cX5_worstCell 71 = .ok (.goto 5, 3) := by decide +kernel
theorem dX5_worstCell_74 : decode cX5_worstCell 74 = .ok (.iload 4, 2) := by decide +kernel
theorem dX5_worstCell_76 : decode cX5_worstCell 76 = .ok (.istore 4, 2) := by decide +kernel
theorem dX5_worstCell_78 : decode cX5_worstCell 78 = .ok (.iinc 5 1, 3) := by decide +kernel
theorem dX5_worstCell_81 : decode cX5_worstCell 81 = .ok (.goto (-49), 3) := by decide +kernel
theorem dX5_worstCell_84 : decode cX5_worstCell 84 = .ok (.iload_n 2, 1) := by decide +kernel
theorem dX5_worstCell_85 : decode cX5_worstCell 85 = .ok (.ifCond .ne 7, 3) := by decide +kernel
theorem dX5_worstCell_88 : decode cX5_worstCell 88 = .ok (.iload_n 3, 1) := by decide +kernel
theorem dX5_worstCell_89 : decode cX5_worstCell 89 = .ok (.goto 5, 3) := by decide +kernel
theorem dX5_worstCell_92 : decode cX5_worstCell 92 = .ok (.iload 4, 2) := by decide +kernel
theorem dX5_worstCell_94 : decode cX5_worstCell 94 = .ok (.ireturn, 1) := by decide +kernel
theorem dX5_faultCells_0 : decode cX5_faultCells 0 = .ok (.iconst 0, 1) := by decide +kernel
theorem dX5_faultCells_1 : decode cX5_faultCells 1 = .ok (.istore_n 1, 1) := by decide +kernel
theorem dX5_faultCells_2 : decode cX5_faultCells 2 = .ok (.iconst 0, 1) := by decide +kernel
theorem dX5_faultCells_3 : decode cX5_faultCells 3 = .ok (.istore_n 2, 1) := by decide +kernel
theorem dX5_faultCells_4 : decode cX5_faultCells 4 = .ok (.iload_n 2, 1) := by decide +kernel
theorem dX5_faultCells_5 : decode cX5_faultCells 5 = .ok (.bipush 49, 2) := by decide +kernel
theorem dX5_faultCells_7 : decode cX5_faultCells 7 = .ok (.if_icmp .ge 26, 3) := by decide +kernel
theorem dX5_faultCells_10 : decode cX5_faultCells 10 = .ok (.iload_n 1, 1) := by decide +kernel
theorem dX5_faultCells_11 : decode cX5_faultCells 11 = .ok (.aload_n 0, 1) := by decide +kernel
theorem dX5_faultCells_12 : decode cX5_faultCells 12 = .ok (.iload_n 2, 1) := by decide +kernel
theorem dX5_faultCells_13 : decode cX5_faultCells 13 = .ok (.iconst 5, 1) := by decide +kernel
theorem dX5_faultCells_14 : decode cX5_faultCells 14 = .ok (.invokevirtual 169, 3) := by decide +kernel
theorem dX5_faultCells_17 : decode cX5_faultCells 17 = .ok (.ifCond .le 7, 3) := by decide +kernel
theorem dX5_faultCells_20 : decode cX5_faultCells 20 = .ok (.iconst 1, 1) := by decide +kernel
theorem dX5_faultCells_21 : decode cX5_faultCells 21 = .ok (.goto 4, 3) := by decide +kernel
theorem dX5_faultCells_24 : decode cX5_faultCells 24 = .ok (.iconst 0, 1) := by decide +kernel
theorem dX5_faultCells_25 : decode cX5_faultCells 25 = .ok (.iadd, 1) := by decide +kernel
theorem dX5_faultCells_26 : decode cX5_faultCells 26 = .ok (.istore_n 1, 1) := by decide +kernel
theorem dX5_faultCells_27 : decode cX5_faultCells 27 = .ok (.iinc 2 1, 3) := by decide +kernel
theorem dX5_faultCells_30 : decode cX5_faultCells 30 = .ok (.goto (-26), 3) := by decide +kernel
theorem dX5_faultCells_33 : decode cX5_faultCells 33 = .ok (.iload_n 1, 1) := by decide +kernel
theorem dX5_faultCells_34 : decode cX5_faultCells 34 = .ok (.ireturn, 1) := by decide +kernel
theorem dX5_ride_0 : decode cX5_ride 0 = .ok (.iconst 0, 1) := by decide +kernel
theorem dX5_ride_1 : decode cX5_ride 1 = .ok (.istore_n 2, 1) := by decide +kernel
theorem dX5_ride_2 : decode cX5_ride 2 = .ok (.aload_n 0, 1) := by decide +kernel
theorem dX5_ride_3 : decode cX5_ride 3 = .ok (.iload_n 1, 1) := by decide +kernel
theorem dX5_ride_4 : decode cX5_ride 4 = .ok (.invokevirtual 67, 3) := by decide +kernel
theorem dX5_ride_7 : decode cX5_ride 7 = .ok (.ifCond .eq 13, 3) := by decide +kernel
theorem dX5_ride_10 : decode cX5_ride 10 = .ok (.aload_n 0, 1) := by decide +kernel
theorem dX5_ride_11 : decode cX5_ride 11 = .ok (.invokevirtual 115, 3) := by decide +kernel
theorem dX5_ride_14 : decode cX5_ride 14 = .ok (.iinc 2 1, 3) := by decide +kernel
theorem dX5_ride_17 : decode cX5_ride 17 = .ok (.goto (-15), 3) := by decide +kernel
theorem dX5_ride_20 : decode cX5_ride 20 = .ok (.iload_n 2, 1) := by decide +kernel
theorem dX5_ride_21 : decode cX5_ride 21 = .ok (.ireturn, 1) := by decide +kernel
theorem dX5_foretell_0 : decode cX5_foretell 0 = .ok (.aload_n 0, 1) := by decide +kernel
theorem dX5_foretell_1 : decode cX5_foretell 1 = .ok (.iload_n 1, 1) := by decide +kernel
theorem dX5_foretell_2 : decode cX5_foretell 2 = .ok (.invokevirtual 83, 3) := by decide +kernel
theorem dX5_foretell_5 : decode cX5_foretell 5 = .ok (.ifCond .eq 12, 3) := by decide +kernel
theorem dX5_foretell_8 : decode cX5_foretell 8 = .ok (.iload_n 2, 1) := by decide +kernel
theorem dX5_foretell_9 : decode cX5_foretell 9 = .ok (.iconst 0, 1) := by decide +kernel
theorem dX5_foretell_10 : decode cX5_foretell 10 = .ok (.iconst 3, 1) := by decide +kernel
theorem dX5_foretell_11 : decode cX5_foretell 11 = .ok (.invokestatic 23, 3) := by decide +kernel
theorem dX5_foretell_14 : decode cX5_foretell 14 = .ok (.ifCond .ne 7, 3) := by decide +kernel
theorem dX5_foretell_17 : decode cX5_foretell 17 = .ok (.sipush (-1001), 3) := by decide +kernel
theorem dX5_foretell_20 : decode cX5_foretell 20 = .ok (.ireturn, 1) := by decide +kernel
theorem dX5_foretell_21 : decode cX5_foretell 21 = .ok (.aload_n 0, 1) := by decide +kernel
theorem dX5_foretell_22 : decode cX5_foretell 22 = .ok (.iload_n 1, 1) := by decide +kernel
theorem dX5_foretell_23 : decode cX5_foretell 23 = .ok (.invokevirtual 67, 3) := by decide +kernel
theorem dX5_foretell_26 : decode cX5_foretell 26 = .ok (.ifCond .ne 7, 3) := by decide +kernel
theorem dX5_foretell_29 : decode cX5_foretell 29 = .ok (.sipush (-1002), 3) := by decide +kernel
theorem dX5_foretell_32 : decode cX5_foretell 32 = .ok (.ireturn, 1) := by decide +kernel
theorem dX5_foretell_33 : decode cX5_foretell 33 = .ok (.aload_n 0, 1) := by decide +kernel
theorem dX5_foretell_34 : decode cX5_foretell 34 = .ok (.iconst 0, 1) := by decide +kernel
theorem dX5_foretell_35 : decode cX5_foretell 35 = .ok (.sipush 12738, 3) := by decide +kernel
theorem dX5_foretell_38 : decode cX5_foretell 38 = .ok (.sipush 707, 3) := by decide +kernel
theorem dX5_foretell_41 : decode cX5_foretell 41 = .ok (.invokevirtual 34, 3) := by decide +kernel
theorem dX5_foretell_44 : decode cX5_foretell 44 = .ok (.aload_n 0, 1) := by decide +kernel
theorem dX5_foretell_45 : decode cX5_foretell 45 = .ok (.iload_n 1, 1) := by decide +kernel
theorem dX5_foretell_46 : decode cX5_foretell 46 = .ok (.invokevirtual 172, 3) := by decide +kernel
theorem dX5_foretell_49 : decode cX5_foretell 49 = .ok (.istore_n 3, 1) := by decide +kernel
theorem dX5_foretell_50 : decode cX5_foretell 50 = .ok (.iload_n 2, 1) := by decide +kernel
theorem dX5_foretell_51 : decode cX5_foretell 51 = .ok (.iconst 2, 1) := by decide +kernel
theorem dX5_foretell_52 : decode cX5_foretell 52 = .ok (.if_icmp .ne 7, 3) := by decide +kernel
theorem dX5_foretell_55 : decode cX5_foretell 55 = .ok (.iload_n 3, 1) := by decide +kernel
theorem dX5_foretell_56 : decode cX5_foretell 56 = .ok (.goto 32, 3) := by decide +kernel
theorem dX5_foretell_59 : decode cX5_foretell 59 = .ok (.aload_n 0, 1) := by decide +kernel
theorem dX5_foretell_60 : decode cX5_foretell 60 = .ok (.getfield 7, 3) := by decide +kernel
theorem dX5_foretell_63 : decode cX5_foretell 63 = .ok (.iload_n 1, 1) := by decide +kernel
theorem dX5_foretell_64 : decode cX5_foretell 64 = .ok (.iload_n 2, 1) := by decide +kernel
theorem dX5_foretell_65 : decode cX5_foretell 65 = .ok (.ifCond .ne 8, 3) := by decide +kernel
theorem dX5_foretell_68 : decode cX5_foretell 68 = .ok (.bipush 8, 2) := by decide +kernel
theorem dX5_foretell_70 : decode cX5_foretell 70 = .ok (.goto 14, 3) := by decide +kernel
theorem dX5_foretell_73 : decode cX5_foretell 73 = .ok (.iload_n 2, 1) := by decide +kernel
theorem dX5_foretell_74 : decode cX5_foretell 74 = .ok (.iconst 1, 1) := by decide +kernel
theorem dX5_foretell_75 : decode cX5_foretell 75 = .ok (.if_icmp .ne 8, 3) := by decide +kernel
theorem dX5_foretell_78 : decode cX5_foretell 78 = .ok (.bipush 6, 2) := by decide +kernel
theorem dX5_foretell_80 : decode cX5_foretell 80 = .ok (.goto 4, 3) := by decide +kernel
theorem dX5_foretell_83 : decode cX5_foretell 83 = .ok (.iconst 4, 1) := by decide +kernel
theorem dX5_foretell_84 : decode cX5_foretell 84 = .ok (.invokestatic 27, 3) := by decide +kernel
theorem dX5_foretell_87 : decode cX5_foretell 87 = .ok (.iaload, 1) := by decide +kernel
theorem dX5_foretell_88 : decode cX5_foretell 88 = .ok (.istore 4, 2) := by decide +kernel
theorem dX5_foretell_90 : decode cX5_foretell 90 = .ok (.aload_n 0, 1) := by decide +kernel
theorem dX5_foretell_91 : decode cX5_foretell 91 = .ok (.sipush 12738, 3) := by decide +kernel
theorem dX5_foretell_94 : decode cX5_foretell 94 = .ok (.iconst 0, 1) := by decide +kernel
theorem dX5_foretell_95 : decode cX5_foretell 95 = .ok (.sipush 707, 3) := by decide +kernel
theorem dX5_foretell_98 : decode cX5_foretell 98 = .ok (.invokevirtual 34, 3) := by decide +kernel
theorem dX5_foretell_101 : decode cX5_foretell 101 = .ok (.iload 4, 2) := by decide +kernel
theorem dX5_foretell_103 : decode cX5_foretell 103 = .ok (.ireturn, 1) := by decide +kernel
theorem dX5_failsBy_0 : decode cX5_failsBy 0 = .ok (.aload_n 0, 1) := by decide +kernel
theorem dX5_failsBy_1 : decode cX5_failsBy 1 = .ok (.iconst 0, 1) := by decide +kernel
theorem dX5_failsBy_2 : decode cX5_failsBy 2 = .ok (.sipush 12738, 3) := by decide +kernel
theorem dX5_failsBy_5 : decode cX5_failsBy 5 = .ok (.sipush 707, 3) := by decide +kernel
theorem dX5_failsBy_8 : decode cX5_failsBy 8 = .ok (.invokevirtual 34, 3) := by decide +kernel
theorem dX5_failsBy_11 : decode cX5_failsBy 11 = .ok (.aload_n 0, 1) := by decide +kernel
theorem dX5_failsBy_12 : decode cX5_failsBy 12 = .ok (.iload_n 1, 1) := by decide +kernel
theorem dX5_failsBy_13 : decode cX5_failsBy 13 = .ok (.iload_n 2, 1) := by decide +kernel
theorem dX5_failsBy_14 : decode cX5_failsBy 14 = .ok (.invokevirtual 80, 3) := by decide +kernel
theorem dX5_failsBy_17 : decode cX5_failsBy 17 = .ok (.istore 4, 2) := by decide +kernel
theorem dX5_failsBy_19 : decode cX5_failsBy 19 = .ok (.aload_n 0, 1) := by decide +kernel
theorem dX5_failsBy_20 : decode cX5_failsBy 20 = .ok (.getfield 7, 3) := by decide +kernel
theorem dX5_failsBy_23 : decode cX5_failsBy 23 = .ok (.bipush 50, 2) := by decide +kernel
theorem dX5_failsBy_25 : decode cX5_failsBy 25 = .ok (.iload_n 3, 1) := by decide +kernel
theorem dX5_failsBy_26 : decode cX5_failsBy 26 = .ok (.ifCond .le 7, 3) := by decide +kernel
theorem dX5_failsBy_29 : decode cX5_failsBy 29 = .ok (.iconst 0, 1) := by decide +kernel
theorem dX5_failsBy_30 : decode cX5_failsBy 30 = .ok (.goto 10, 3) := by decide +kernel
theorem dX5_failsBy_33 : decode cX5_failsBy 33 = .ok (.aload_n 0, 1) := by decide +kernel
theorem dX5_failsBy_34 : decode cX5_failsBy 34 = .ok (.getfield 7, 3) := by decide +kernel
theorem dX5_failsBy_37 : decode cX5_failsBy 37 = .ok (.bipush 50, 2) := by decide +kernel
theorem dX5_failsBy_39 : decode cX5_failsBy 39 = .ok (.iaload, 1) := by decide +kernel
theorem dX5_failsBy_40 : decode cX5_failsBy 40 = .ok (.iastore, 1) := by decide +kernel
theorem dX5_failsBy_41 : decode cX5_failsBy 41 = .ok (.aload_n 0, 1) := by decide +kernel
theorem dX5_failsBy_42 : decode cX5_failsBy 42 = .ok (.getfield 7, 3) := by decide +kernel
theorem dX5_failsBy_45 : decode cX5_failsBy 45 = .ok (.bipush 48, 2) := by decide +kernel
theorem dX5_failsBy_47 : decode cX5_failsBy 47 = .ok (.iload_n 3, 1) := by decide +kernel
theorem dX5_failsBy_48 : decode cX5_failsBy 48 = .ok (.ifCond .le 7, 3) := by decide +kernel
theorem dX5_failsBy_51 : decode cX5_failsBy 51 = .ok (.iload_n 3, 1) := by decide +kernel
theorem dX5_failsBy_52 : decode cX5_failsBy 52 = .ok (.goto 10, 3) := by decide +kernel
theorem dX5_failsBy_55 : decode cX5_failsBy 55 = .ok (.aload_n 0, 1) := by decide +kernel
theorem dX5_failsBy_56 : decode cX5_failsBy 56 = .ok (.getfield 7, 3) := by decide +kernel
theorem dX5_failsBy_59 : decode cX5_failsBy 59 = .ok (.bipush 48, 2) := by decide +kernel
theorem dX5_failsBy_61 : decode cX5_failsBy 61 = .ok (.iaload, 1) := by decide +kernel
theorem dX5_failsBy_62 : decode cX5_failsBy 62 = .ok (.iastore, 1) := by decide +kernel
theorem dX5_failsBy_63 : decode cX5_failsBy 63 = .ok (.aload_n 0, 1) := by decide +kernel
theorem dX5_failsBy_64 : decode cX5_failsBy 64 = .ok (.iload 4, 2) := by decide +kernel
theorem dX5_failsBy_66 : decode cX5_failsBy 66 = .ok (.invokevirtual 172, 3) := by decide +kernel
theorem dX5_failsBy_69 : decode cX5_failsBy 69 = .ok (.pop, 1) := by decide +kernel
theorem dX5_failsBy_70 : decode cX5_failsBy 70 = .ok (.aload_n 0, 1) := by decide +kernel
theorem dX5_failsBy_71 : decode cX5_failsBy 71 = .ok (.getfield 7, 3) := by decide +kernel
theorem dX5_failsBy_74 : decode cX5_failsBy 74 = .ok (.iload 4, 2) := by decide +kernel
theorem dX5_failsBy_76 : decode cX5_failsBy 76 = .ok (.bipush 8, 2) := by decide +kernel
theorem dX5_failsBy_78 : decode cX5_failsBy 78 = .ok (.invokestatic 27, 3) := by decide +kernel
theorem dX5_failsBy_81 : decode cX5_failsBy 81 = .ok (.iaload, 1) := by decide +kernel
theorem dX5_failsBy_82 : decode cX5_failsBy 82 = .ok (.istore 5, 2) := by decide +kernel
theorem dX5_failsBy_84 : decode cX5_failsBy 84 = .ok (.aload_n 0, 1) := by decide +kernel
theorem dX5_failsBy_85 : decode cX5_failsBy 85 = .ok (.sipush 12738, 3) := by decide +kernel
theorem dX5_failsBy_88 : decode cX5_failsBy 88 = .ok (.iconst 0, 1) := by decide +kernel
theorem dX5_failsBy_89 : decode cX5_failsBy 89 = .ok (.sipush 707, 3) := by decide +kernel
theorem dX5_failsBy_92 : decode cX5_failsBy 92 = .ok (.invokevirtual 34, 3) := by decide +kernel
theorem dX5_failsBy_95 : decode cX5_failsBy 95 = .ok (.iload 5, 2) := by decide +kernel
theorem dX5_failsBy_97 : decode cX5_failsBy 97 = .ok (.ireturn, 1) := by decide +kernel
theorem dX5_wouldFail_0 : decode cX5_wouldFail 0 = .ok (.iload_n 1, 1) := by decide +kernel
theorem dX5_wouldFail_1 : decode cX5_wouldFail 1 = .ok (.invokestatic 53, 3) := by decide +kernel
theorem dX5_wouldFail_4 : decode cX5_wouldFail 4 = .ok (.ifCond .eq 32, 3) := by decide +kernel
theorem dX5_wouldFail_7 : decode cX5_wouldFail 7 = .ok (.iload_n 2, 1) := by decide +kernel
theorem dX5_wouldFail_8 : decode cX5_wouldFail 8 = .ok (.iconst 1, 1) := by decide +kernel
theorem dX5_wouldFail_9 : decode cX5_wouldFail 9 = .ok (.bipush 9, 2) := by decide +kernel
theorem dX5_wouldFail_11 : decode cX5_wouldFail 11 = .ok (.invokestatic 23, 3) := by decide +kernel
theorem dX5_wouldFail_14 : decode cX5_wouldFail 14 = .ok (.ifCond .eq 22, 3) := by decide +kernel
theorem dX5_wouldFail_17 : decode cX5_wouldFail 17 = .ok (.iload_n 3, 1) := by decide +kernel
theorem dX5_wouldFail_18 : decode cX5_wouldFail 18 = .ok (.iconst 0, 1) := by decide +kernel
theorem dX5_wouldFail_19 : decode cX5_wouldFail 19 = .ok (.iconst 3, 1) := by decide +kernel
theorem dX5_wouldFail_20 : decode cX5_wouldFail 20 = .ok (.invokestatic 23, 3) := by decide +kernel
theorem dX5_wouldFail_23 : decode cX5_wouldFail 23 = .ok (.ifCond .eq 13, 3) := by decide +kernel
theorem dX5_wouldFail_26 : decode cX5_wouldFail 26 = .ok (.aload_n 0, 1) := by decide +kernel
theorem dX5_wouldFail_27 : decode cX5_wouldFail 27 = .ok (.iload_n 1, 1) := by decide +kernel
theorem dX5_wouldFail_28 : decode cX5_wouldFail 28 = .ok (.iload_n 2, 1) := by decide +kernel
theorem dX5_wouldFail_29 : decode cX5_wouldFail 29 = .ok (.iload_n 3, 1) := by decide +kernel
theorem dX5_wouldFail_30 : decode cX5_wouldFail 30 = .ok (.invokevirtual 175, 3) := by decide +kernel
theorem dX5_wouldFail_33 : decode cX5_wouldFail 33 = .ok (.goto 6, 3) := by decide +kernel
theorem dX5_wouldFail_36 : decode cX5_wouldFail 36 = .ok (.sipush (-1001), 3) := by decide +kernel
theorem dX5_wouldFail_39 : decode cX5_wouldFail 39 = .ok (.ireturn, 1) := by decide +kernel
theorem dX5_heaviest_0 : decode cX5_heaviest 0 = .ok (.iload_n 1, 1) := by decide +kernel
theorem dX5_heaviest_1 : decode cX5_heaviest 1 = .ok (.invokestatic 53, 3) := by decide +kernel
theorem dX5_heaviest_4 : decode cX5_heaviest 4 = .ok (.ifCond .ne 7, 3) := by decide +kernel
theorem dX5_heaviest_7 : decode cX5_heaviest 7 = .ok (.sipush (-1001), 3) := by decide +kernel
theorem dX5_heaviest_10 : decode cX5_heaviest 10 = .ok (.ireturn, 1) := by decide +kernel
theorem dX5_heaviest_11 : decode cX5_heaviest 11 = .ok (.bipush 9, 2) := by decide +kernel
theorem dX5_heaviest_13 : decode cX5_heaviest 13 = .ok (.istore_n 2, 1) := by decide +kernel
theorem dX5_heaviest_14 : decode cX5_heaviest 14 = .ok (.iload_n 2, 1) := by decide +kernel
theorem dX5_heaviest_15 : decode cX5_heaviest 15 = .ok (.ifCond .le 19, 3) := by decide +kernel
theorem dX5_heaviest_18 : decode cX5_heaviest 18 = .ok (.aload_n 0, 1) := by decide +kernel
theorem dX5_heaviest_19 : decode cX5_heaviest 19 = .ok (.iload_n 1, 1) := by decide +kernel
theorem dX5_heaviest_20 : decode cX5_heaviest 20 = .ok (.iload_n 2, 1) := by decide +kernel
theorem dX5_heaviest_21 : decode cX5_heaviest 21 = .ok (.iconst 0, 1) := by decide +kernel
theorem dX5_heaviest_22 : decode cX5_heaviest 22 = .ok (.invokevirtual 175, 3) := by decide +kernel
theorem dX5_heaviest_25 : decode cX5_heaviest 25 = .ok (.ifCond .eq 9, 3) := by decide +kernel
theorem dX5_heaviest_28 : decode cX5_heaviest 28 = .ok (.iinc 2 (-1), 3) := by decide +kernel
theorem dX5_heaviest_31 : decode cX5_heaviest 31 = .ok (.goto (-17), 3) := by decide +kernel
theorem dX5_heaviest_34 : decode cX5_heaviest 34 = .ok (.iload_n 2, 1) := by decide +kernel
theorem dX5_heaviest_35 : decode cX5_heaviest 35 = .ok (.ifCond .ne 9, 3) := by decide +kernel
theorem dX5_heaviest_38 : decode cX5_heaviest 38 = .ok (.sipush (-1009), 3) := by decide +kernel
theorem dX5_heaviest_41 : decode cX5_heaviest 41 = .ok (.goto 4, 3) := by decide +kernel
theorem dX5_heaviest_44 : decode cX5_heaviest 44 = .ok (.iload_n 2, 1) := by decide +kernel
theorem dX5_heaviest_45 : decode cX5_heaviest 45 = .ok (.ireturn, 1) := by decide +kernel
theorem dX5_room_0 : decode cX5_room 0 = .ok (.aload_n 0, 1) := by decide +kernel
theorem dX5_room_1 : decode cX5_room 1 = .ok (.iconst 0, 1) := by decide +kernel
theorem dX5_room_2 : decode cX5_room 2 = .ok (.sipush 12738, 3) := by decide +kernel
theorem dX5_room_5 : decode cX5_room 5 = .ok (.sipush 707, 3) := by decide +kernel
theorem dX5_room_8 : decode cX5_room 8 = .ok (.invokevirtual 34, 3) := by decide +kernel
theorem dX5_room_11 : decode cX5_room 11 = .ok (.iconst 0, 1) := by decide +kernel
theorem dX5_room_12 : decode cX5_room 12 = .ok (.istore_n 1, 1) := by decide +kernel
theorem dX5_room_13 : decode cX5_room 13 = .ok (.aload_n 0, 1) := by decide +kernel
theorem dX5_room_14 : decode cX5_room 14 = .ok (.invokevirtual 70, 3) := by decide +kernel
theorem dX5_room_17 : decode cX5_room 17 = .ok (.ifCond .ne 13, 3) := by decide +kernel
theorem dX5_room_20 : decode cX5_room 20 = .ok (.aload_n 0, 1) := by decide +kernel
theorem dX5_room_21 : decode cX5_room 21 = .ok (.invokevirtual 115, 3) := by decide +kernel
theorem dX5_room_24 : decode cX5_room 24 = .ok (.iinc 1 1, 3) := by decide +kernel
theorem dX5_room_27 : decode cX5_room 27 = .ok (.goto (-14), 3) := by decide +kernel
theorem dX5_room_30 : decode cX5_room 30 = .ok (.aload_n 0, 1) := by decide +kernel
theorem dX5_room_31 : decode cX5_room 31 = .ok (.sipush 12738, 3) := by decide +kernel
theorem dX5_room_34 : decode cX5_room 34 = .ok (.iconst 0, 1) := by decide +kernel
theorem dX5_room_35 : decode cX5_room 35 = .ok (.sipush 707, 3) := by decide +kernel
theorem dX5_room_38 : decode cX5_room 38 = .ok (.invokevirtual 34, 3) := by decide +kernel
theorem dX5_room_41 : decode cX5_room 41 = .ok (.iload_n 1, 1) := by decide +kernel
theorem dX5_room_42 : decode cX5_room 42 = .ok (.ireturn, 1) := by decide +kernel
theorem dL_law_0 : decode cL_law 0 = .ok (.new 7, 3) := by decide +kernel
theorem dL_law_3 : decode cL_law 3 = .ok (.dup, 1) := by decide +kernel
theorem dL_law_4 : decode cL_law 4 = .ok (.invokespecial 9, 3) := by decide +kernel
theorem dL_law_7 : decode cL_law 7 = .ok (.astore_n 1, 1) := by decide +kernel
theorem dL_law_8 : decode cL_law 8 = .ok (.new 10, 3) := by decide +kernel
theorem dL_law_11 : decode cL_law 11 = .ok (.dup, 1) := by decide +kernel
theorem dL_law_12 : decode cL_law 12 = .ok (.invokespecial 12, 3) := by decide +kernel
theorem dL_law_15 : decode cL_law 15 = .ok (.astore_n 2, 1) := by decide +kernel
theorem dL_law_16 : decode cL_law 16 = .ok (.iconst 0, 1) := by decide +kernel
theorem dL_law_17 : decode cL_law 17 = .ok (.istore_n 3, 1) := by decide +kernel
theorem dL_law_18 : decode cL_law 18 = .ok (.iload_n 3, 1) := by decide +kernel
theorem dL_law_19 : decode cL_law 19 = .ok (.aload_n 0, 1) := by decide +kernel
theorem dL_law_20 : decode cL_law 20 = .ok (.arraylength, 1) := by decide +kernel
theorem dL_law_21 : decode cL_law 21 = .ok (.iconst 5, 1) := by decide +kernel
theorem dL_law_22 : decode cL_law 22 = .ok (.isub, 1) := by decide +kernel
theorem dL_law_23 : decode cL_law 23 = .ok (.if_icmp .gt 762, 3) := by decide +kernel
theorem dL_law_26 : decode cL_law 26 = .ok (.aload_n 0, 1) := by decide +kernel
theorem dL_law_27 : decode cL_law 27 = .ok (.iload_n 3, 1) := by decide +kernel
theorem dL_law_28 : decode cL_law 28 = .ok (.iaload, 1) := by decide +kernel
theorem dL_law_29 : decode cL_law 29 = .ok (.bipush 31, 2) := by decide +kernel
theorem dL_law_31 : decode cL_law 31 = .ok (.iand, 1) := by decide +kernel
theorem dL_law_32 : decode cL_law 32 = .ok (.tableswitch 747 0 22 #[108, 161, 204, 237, 270, 293, 316, 339, 362, 375, 398, 411, 424, 447, 480, 513, 546, 589, 622, 635, 668, 711, 734], 108) := by decide +kernel
theorem dL_law_140 : decode cL_law 140 = .ok (.aload_n 1, 1) := by decide +kernel
theorem dL_law_141 : decode cL_law 141 = .ok (.aload_n 0, 1) := by decide +kernel
theorem dL_law_142 : decode cL_law 142 = .ok (.iload_n 3, 1) := by decide +kernel
theorem dL_law_143 : decode cL_law 143 = .ok (.iconst 1, 1) := by decide +kernel
theorem dL_law_144 : decode cL_law 144 = .ok (.iadd, 1) := by decide +kernel
theorem dL_law_145 : decode cL_law 145 = .ok (.iaload, 1) := by decide +kernel
theorem dL_law_146 : decode cL_law 146 = .ok (.aload_n 0, 1) := by decide +kernel
theorem dL_law_147 : decode cL_law 147 = .ok (.iload_n 3, 1) := by decide +kernel
theorem dL_law_148 : decode cL_law 148 = .ok (.iconst 2, 1) := by decide +kernel
theorem dL_law_149 : decode cL_law 149 = .ok (.iadd, 1) := by decide +kernel
theorem dL_law_150 : decode cL_law 150 = .ok (.iaload, 1) := by decide +kernel
theorem dL_law_151 : decode cL_law 151 = .ok (.aload_n 0, 1) := by decide +kernel
theorem dL_law_152 : decode cL_law 152 = .ok (.iload_n 3, 1) := by decide +kernel
theorem dL_law_153 : decode cL_law 153 = .ok (.iconst 3, 1) := by decide +kernel
theorem dL_law_154 : decode cL_law 154 = .ok (.iadd, 1) := by decide +kernel
theorem dL_law_155 : decode cL_law 155 = .ok (.iaload, 1) := by decide +kernel
theorem dL_law_156 : decode cL_law 156 = .ok (.aload_n 0, 1) := by decide +kernel
theorem dL_law_157 : decode cL_law 157 = .ok (.iload_n 3, 1) := by decide +kernel
theorem dL_law_158 : decode cL_law 158 = .ok (.iconst 4, 1) := by decide +kernel
theorem dL_law_159 : decode cL_law 159 = .ok (.iadd, 1) := by decide +kernel
theorem dL_law_160 : decode cL_law 160 = .ok (.iaload, 1) := by decide +kernel
theorem dL_law_161 : decode cL_law 161 = .ok (.invokevirtual 13, 3) := by decide +kernel
theorem dL_law_164 : decode cL_law 164 = .ok (.aload_n 2, 1) := by decide +kernel
theorem dL_law_165 : decode cL_law 165 = .ok (.aload_n 0, 1) := by decide +kernel
theorem dL_law_166 : decode cL_law 166 = .ok (.iload_n 3, 1) := by decide +kernel
theorem dL_law_167 : decode cL_law 167 = .ok (.iconst 1, 1) := by decide +kernel
theorem dL_law_168 : decode cL_law 168 = .ok (.iadd, 1) := by decide +kernel
theorem dL_law_169 : decode cL_law 169 = .ok (.iaload, 1) := by decide +kernel
theorem dL_law_170 : decode cL_law 170 = .ok (.aload_n 0, 1) := by decide +kernel
theorem dL_law_171 : decode cL_law 171 = .ok (.iload_n 3, 1) := by decide +kernel
theorem dL_law_172 : decode cL_law 172 = .ok (.iconst 2, 1) := by decide +kernel
theorem dL_law_173 : decode cL_law 173 = .ok (.iadd, 1) := by decide +kernel
theorem dL_law_174 : decode cL_law 174 = .ok (.iaload, 1) := by decide +kernel
theorem dL_law_175 : decode cL_law 175 = .ok (.aload_n 0, 1) := by decide +kernel
theorem dL_law_176 : decode cL_law 176 = .ok (.iload_n 3, 1) := by decide +kernel
theorem dL_law_177 : decode cL_law 177 = .ok (.iconst 3, 1) := by decide +kernel
theorem dL_law_178 : decode cL_law 178 = .ok (.iadd, 1) := by decide +kernel
theorem dL_law_179 : decode cL_law 179 = .ok (.iaload, 1) := by decide +kernel
theorem dL_law_180 : decode cL_law 180 = .ok (.aload_n 0, 1) := by decide +kernel
theorem dL_law_181 : decode cL_law 181 = .ok (.iload_n 3, 1) := by decide +kernel
theorem dL_law_182 : decode cL_law 182 = .ok (.iconst 4, 1) := by decide +kernel
theorem dL_law_183 : decode cL_law 183 = .ok (.iadd, 1) := by decide +kernel
theorem dL_law_184 : decode cL_law 184 = .ok (.iaload, 1) := by decide +kernel
theorem dL_law_185 : decode cL_law 185 = .ok (.invokevirtual 17, 3) := by decide +kernel
theorem dL_law_188 : decode cL_law 188 = .ok (.if_icmp .eq 591, 3) := by decide +kernel
theorem dL_law_191 : decode cL_law 191 = .ok (.iconst 0, 1) := by decide +kernel
theorem dL_law_192 : decode cL_law 192 = .ok (.ireturn, 1) := by decide +kernel
theorem dL_law_193 : decode cL_law 193 = .ok (.aload_n 1, 1) := by decide +kernel
theorem dL_law_194 : decode cL_law 194 = .ok (.aload_n 0, 1) := by decide +kernel
theorem dL_law_195 : decode cL_law 195 = .ok (.iload_n 3, 1) := by decide +kernel
theorem dL_law_196 : decode cL_law 196 = .ok (.iconst 1, 1) := by decide +kernel
theorem dL_law_197 : decode cL_law 197 = .ok (.iadd, 1) := by decide +kernel
theorem dL_law_198 : decode cL_law 198 = .ok (.iaload, 1) := by decide +kernel
theorem dL_law_199 : decode cL_law 199 = .ok (.aload_n 0, 1) := by decide +kernel
theorem dL_law_200 : decode cL_law 200 = .ok (.iload_n 3, 1) := by decide +kernel
theorem dL_law_201 : decode cL_law 201 = .ok (.iconst 2, 1) := by decide +kernel
theorem dL_law_202 : decode cL_law 202 = .ok (.iadd, 1) := by decide +kernel
theorem dL_law_203 : decode cL_law 203 = .ok (.iaload, 1) := by decide +kernel
theorem dL_law_204 : decode cL_law 204 = .ok (.aload_n 0, 1) := by decide +kernel
theorem dL_law_205 : decode cL_law 205 = .ok (.iload_n 3, 1) := by decide +kernel
theorem dL_law_206 : decode cL_law 206 = .ok (.iconst 3, 1) := by decide +kernel
theorem dL_law_207 : decode cL_law 207 = .ok (.iadd, 1) := by decide +kernel
theorem dL_law_208 : decode cL_law 208 = .ok (.iaload, 1) := by decide +kernel
theorem dL_law_209 : decode cL_law 209 = .ok (.invokevirtual 18, 3) := by decide +kernel
theorem dL_law_212 : decode cL_law 212 = .ok (.aload_n 2, 1) := by decide +kernel
theorem dL_law_213 : decode cL_law 213 = .ok (.aload_n 0, 1) := by decide +kernel
theorem dL_law_214 : decode cL_law 214 = .ok (.iload_n 3, 1) := by decide +kernel
theorem dL_law_215 : decode cL_law 215 = .ok (.iconst 1, 1) := by decide +kernel
theorem dL_law_216 : decode cL_law 216 = .ok (.iadd, 1) := by decide +kernel
theorem dL_law_217 : decode cL_law 217 = .ok (.iaload, 1) := by decide +kernel
theorem dL_law_218 : decode cL_law 218 = .ok (.aload_n 0, 1) := by decide +kernel
theorem dL_law_219 : decode cL_law 219 = .ok (.iload_n 3, 1) := by decide +kernel
theorem dL_law_220 : decode cL_law 220 = .ok (.iconst 2, 1) := by decide +kernel
theorem dL_law_221 : decode cL_law 221 = .ok (.iadd, 1) := by decide +kernel
theorem dL_law_222 : decode cL_law 222 = .ok (.iaload, 1) := by decide +kernel
theorem dL_law_223 : decode cL_law 223 = .ok (.aload_n 0, 1) := by decide +kernel
theorem dL_law_224 : decode cL_law 224 = .ok (.iload_n 3, 1) := by decide +kernel
theorem dL_law_225 : decode cL_law 225 = .ok (.iconst 3, 1) := by decide +kernel
theorem dL_law_226 : decode cL_law 226 = .ok (.iadd, 1) := by decide +kernel
theorem dL_law_227 : decode cL_law 227 = .ok (.iaload, 1) := by decide +kernel
theorem dL_law_228 : decode cL_law 228 = .ok (.invokevirtual 22, 3) := by decide +kernel
theorem dL_law_231 : decode cL_law 231 = .ok (.if_icmp .eq 548, 3) := by decide +kernel
theorem dL_law_234 : decode cL_law 234 = .ok (.iconst 0, 1) := by decide +kernel
theorem dL_law_235 : decode cL_law 235 = .ok (.ireturn, 1) := by decide +kernel
theorem dL_law_236 : decode cL_law 236 = .ok (.aload_n 1, 1) := by decide +kernel
theorem dL_law_237 : decode cL_law 237 = .ok (.aload_n 0, 1) := by decide +kernel
theorem dL_law_238 : decode cL_law 238 = .ok (.iload_n 3, 1) := by decide +kernel
theorem dL_law_239 : decode cL_law 239 = .ok (.iconst 1, 1) := by decide +kernel
theorem dL_law_240 : decode cL_law 240 = .ok (.iadd, 1) := by decide +kernel
theorem dL_law_241 : decode cL_law 241 = .ok (.iaload, 1) := by decide +kernel
theorem dL_law_242 : decode cL_law 242 = .ok (.aload_n 0, 1) := by decide +kernel
theorem dL_law_243 : decode cL_law 243 = .ok (.iload_n 3, 1) := by decide +kernel
theorem dL_law_244 : decode cL_law 244 = .ok (.iconst 2, 1) := by decide +kernel
theorem dL_law_245 : decode cL_law 245 = .ok (.iadd, 1) := by decide +kernel
theorem dL_law_246 : decode cL_law 246 = .ok (.iaload, 1) := by decide +kernel
theorem dL_law_247 : decode cL_law 247 = .ok (.invokevirtual 23, 3) := by decide +kernel
theorem dL_law_250 : decode cL_law 250 = .ok (.aload_n 2, 1) := by decide +kernel
theorem dL_law_251 : decode cL_law 251 = .ok (.aload_n 0, 1) := by decide +kernel
theorem dL_law_252 : decode cL_law 252 = .ok (.iload_n 3, 1) := by decide +kernel
theorem dL_law_253 : decode cL_law 253 = .ok (.iconst 1, 1) := by decide +kernel
theorem dL_law_254 : decode cL_law 254 = .ok (.iadd, 1) := by decide +kernel
theorem dL_law_255 : decode cL_law 255 = .ok (.iaload, 1) := by decide +kernel
theorem dL_law_256 : decode cL_law 256 = .ok (.aload_n 0, 1) := by decide +kernel
theorem dL_law_257 : decode cL_law 257 = .ok (.iload_n 3, 1) := by decide +kernel
theorem dL_law_258 : decode cL_law 258 = .ok (.iconst 2, 1) := by decide +kernel
theorem dL_law_259 : decode cL_law 259 = .ok (.iadd, 1) := by decide +kernel
theorem dL_law_260 : decode cL_law 260 = .ok (.iaload, 1) := by decide +kernel
theorem dL_law_261 : decode cL_law 261 = .ok (.invokevirtual 27, 3) := by decide +kernel
theorem dL_law_264 : decode cL_law 264 = .ok (.if_icmp .eq 515, 3) := by decide +kernel
theorem dL_law_267 : decode cL_law 267 = .ok (.iconst 0, 1) := by decide +kernel
theorem dL_law_268 : decode cL_law 268 = .ok (.ireturn, 1) := by decide +kernel
theorem dL_law_269 : decode cL_law 269 = .ok (.aload_n 1, 1) := by decide +kernel
theorem dL_law_270 : decode cL_law 270 = .ok (.aload_n 0, 1) := by decide +kernel
theorem dL_law_271 : decode cL_law 271 = .ok (.iload_n 3, 1) := by decide +kernel
theorem dL_law_272 : decode cL_law 272 = .ok (.iconst 1, 1) := by decide +kernel
theorem dL_law_273 : decode cL_law 273 = .ok (.iadd, 1) := by decide +kernel
theorem dL_law_274 : decode cL_law 274 = .ok (.iaload, 1) := by decide +kernel
theorem dL_law_275 : decode cL_law 275 = .ok (.aload_n 0, 1) := by decide +kernel
theorem dL_law_276 : decode cL_law 276 = .ok (.iload_n 3, 1) := by decide +kernel
theorem dL_law_277 : decode cL_law 277 = .ok (.iconst 2, 1) := by decide +kernel
theorem dL_law_278 : decode cL_law 278 = .ok (.iadd, 1) := by decide +kernel
theorem dL_law_279 : decode cL_law 279 = .ok (.iaload, 1) := by decide +kernel
theorem dL_law_280 : decode cL_law 280 = .ok (.invokevirtual 28, 3) := by decide +kernel
theorem dL_law_283 : decode cL_law 283 = .ok (.aload_n 2, 1) := by decide +kernel
theorem dL_law_284 : decode cL_law 284 = .ok (.aload_n 0, 1) := by decide +kernel
theorem dL_law_285 : decode cL_law 285 = .ok (.iload_n 3, 1) := by decide +kernel
theorem dL_law_286 : decode cL_law 286 = .ok (.iconst 1, 1) := by decide +kernel
theorem dL_law_287 : decode cL_law 287 = .ok (.iadd, 1) := by decide +kernel
theorem dL_law_288 : decode cL_law 288 = .ok (.iaload, 1) := by decide +kernel
theorem dL_law_289 : decode cL_law 289 = .ok (.aload_n 0, 1) := by decide +kernel
theorem dL_law_290 : decode cL_law 290 = .ok (.iload_n 3, 1) := by decide +kernel
theorem dL_law_291 : decode cL_law 291 = .ok (.iconst 2, 1) := by decide +kernel
theorem dL_law_292 : decode cL_law 292 = .ok (.iadd, 1) := by decide +kernel
theorem dL_law_293 : decode cL_law 293 = .ok (.iaload, 1) := by decide +kernel
theorem dL_law_294 : decode cL_law 294 = .ok (.invokevirtual 31, 3) := by decide +kernel
theorem dL_law_297 : decode cL_law 297 = .ok (.if_icmp .eq 482, 3) := by decide +kernel
theorem dL_law_300 : decode cL_law 300 = .ok (.iconst 0, 1) := by decide +kernel
theorem dL_law_301 : decode cL_law 301 = .ok (.ireturn, 1) := by decide +kernel
theorem dL_law_302 : decode cL_law 302 = .ok (.aload_n 1, 1) := by decide +kernel
theorem dL_law_303 : decode cL_law 303 = .ok (.aload_n 0, 1) := by decide +kernel
theorem dL_law_304 : decode cL_law 304 = .ok (.iload_n 3, 1) := by decide +kernel
theorem dL_law_305 : decode cL_law 305 = .ok (.iconst 1, 1) := by decide +kernel
theorem dL_law_306 : decode cL_law 306 = .ok (.iadd, 1) := by decide +kernel
theorem dL_law_307 : decode cL_law 307 = .ok (.iaload, 1) := by decide +kernel
theorem dL_law_308 : decode cL_law 308 = .ok (.invokevirtual 32, 3) := by decide +kernel
theorem dL_law_311 : decode cL_law 311 = .ok (.aload_n 2, 1) := by decide +kernel
theorem dL_law_312 : decode cL_law 312 = .ok (.aload_n 0, 1) := by decide +kernel
theorem dL_law_313 : decode cL_law 313 = .ok (.iload_n 3, 1) := by decide +kernel
theorem dL_law_314 : decode cL_law 314 = .ok (.iconst 1, 1) := by decide +kernel
theorem dL_law_315 : decode cL_law 315 = .ok (.iadd, 1) := by decide +kernel
theorem dL_law_316 : decode cL_law 316 = .ok (.iaload, 1) := by decide +kernel
theorem dL_law_317 : decode cL_law 317 = .ok (.invokevirtual 36, 3) := by decide +kernel
theorem dL_law_320 : decode cL_law 320 = .ok (.if_icmp .eq 459, 3) := by decide +kernel
theorem dL_law_323 : decode cL_law 323 = .ok (.iconst 0, 1) := by decide +kernel
theorem dL_law_324 : decode cL_law 324 = .ok (.ireturn, 1) := by decide +kernel
theorem dL_law_325 : decode cL_law 325 = .ok (.aload_n 1, 1) := by decide +kernel
theorem dL_law_326 : decode cL_law 326 = .ok (.aload_n 0, 1) := by decide +kernel
theorem dL_law_327 : decode cL_law 327 = .ok (.iload_n 3, 1) := by decide +kernel
theorem dL_law_328 : decode cL_law 328 = .ok (.iconst 1, 1) := by decide +kernel
theorem dL_law_329 : decode cL_law 329 = .ok (.iadd, 1) := by decide +kernel
theorem dL_law_330 : decode cL_law 330 = .ok (.iaload, 1) := by decide +kernel
theorem dL_law_331 : decode cL_law 331 = .ok (.invokevirtual 37, 3) := by decide +kernel
theorem dL_law_334 : decode cL_law 334 = .ok (.aload_n 2, 1) := by decide +kernel
theorem dL_law_335 : decode cL_law 335 = .ok (.aload_n 0, 1) := by decide +kernel
theorem dL_law_336 : decode cL_law 336 = .ok (.iload_n 3, 1) := by decide +kernel
theorem dL_law_337 : decode cL_law 337 = .ok (.iconst 1, 1) := by decide +kernel
theorem dL_law_338 : decode cL_law 338 = .ok (.iadd, 1) := by decide +kernel
theorem dL_law_339 : decode cL_law 339 = .ok (.iaload, 1) := by decide +kernel
theorem dL_law_340 : decode cL_law 340 = .ok (.invokevirtual 40, 3) := by decide +kernel
theorem dL_law_343 : decode cL_law 343 = .ok (.if_icmp .eq 436, 3) := by decide +kernel
theorem dL_law_346 : decode cL_law 346 = .ok (.iconst 0, 1) := by decide +kernel
theorem dL_law_347 : decode cL_law 347 = .ok (.ireturn, 1) := by decide +kernel
theorem dL_law_348 : decode cL_law 348 = .ok (.aload_n 1, 1) := by decide +kernel
theorem dL_law_349 : decode cL_law 349 = .ok (.aload_n 0, 1) := by decide +kernel
theorem dL_law_350 : decode cL_law 350 = .ok (.iload_n 3, 1) := by decide +kernel
theorem dL_law_351 : decode cL_law 351 = .ok (.iconst 1, 1) := by decide +kernel
theorem dL_law_352 : decode cL_law 352 = .ok (.iadd, 1) := by decide +kernel
theorem dL_law_353 : decode cL_law 353 = .ok (.iaload, 1) := by decide +kernel
theorem dL_law_354 : decode cL_law 354 = .ok (.invokevirtual 41, 3) := by decide +kernel
theorem dL_law_357 : decode cL_law 357 = .ok (.aload_n 2, 1) := by decide +kernel
theorem dL_law_358 : decode cL_law 358 = .ok (.aload_n 0, 1) := by decide +kernel
theorem dL_law_359 : decode cL_law 359 = .ok (.iload_n 3, 1) := by decide +kernel
theorem dL_law_360 : decode cL_law 360 = .ok (.iconst 1, 1) := by decide +kernel
theorem dL_law_361 : decode cL_law 361 = .ok (.iadd, 1) := by decide +kernel
theorem dL_law_362 : decode cL_law 362 = .ok (.iaload, 1) := by decide +kernel
theorem dL_law_363 : decode cL_law 363 = .ok (.invokevirtual 44, 3) := by decide +kernel
theorem dL_law_366 : decode cL_law 366 = .ok (.if_icmp .eq 413, 3) := by decide +kernel
theorem dL_law_369 : decode cL_law 369 = .ok (.iconst 0, 1) := by decide +kernel
theorem dL_law_370 : decode cL_law 370 = .ok (.ireturn, 1) := by decide +kernel
theorem dL_law_371 : decode cL_law 371 = .ok (.aload_n 1, 1) := by decide +kernel
theorem dL_law_372 : decode cL_law 372 = .ok (.aload_n 0, 1) := by decide +kernel
theorem dL_law_373 : decode cL_law 373 = .ok (.iload_n 3, 1) := by decide +kernel
theorem dL_law_374 : decode cL_law 374 = .ok (.iconst 1, 1) := by decide +kernel
theorem dL_law_375 : decode cL_law 375 = .ok (.iadd, 1) := by decide +kernel
theorem dL_law_376 : decode cL_law 376 = .ok (.iaload, 1) := by decide +kernel
theorem dL_law_377 : decode cL_law 377 = .ok (.invokevirtual 45, 3) := by decide +kernel
theorem dL_law_380 : decode cL_law 380 = .ok (.aload_n 2, 1) := by decide +kernel
theorem dL_law_381 : decode cL_law 381 = .ok (.aload_n 0, 1) := by decide +kernel
theorem dL_law_382 : decode cL_law 382 = .ok (.iload_n 3, 1) := by decide +kernel
theorem dL_law_383 : decode cL_law 383 = .ok (.iconst 1, 1) := by decide +kernel
theorem dL_law_384 : decode cL_law 384 = .ok (.iadd, 1) := by decide +kernel
theorem dL_law_385 : decode cL_law 385 = .ok (.iaload, 1) := by decide +kernel
theorem dL_law_386 : decode cL_law 386 = .ok (.invokevirtual 48, 3) := by decide +kernel
theorem dL_law_389 : decode cL_law 389 = .ok (.if_icmp .eq 390, 3) := by decide +kernel
theorem dL_law_392 : decode cL_law 392 = .ok (.iconst 0, 1) := by decide +kernel
theorem dL_law_393 : decode cL_law 393 = .ok (.ireturn, 1) := by decide +kernel
theorem dL_law_394 : decode cL_law 394 = .ok (.aload_n 1, 1) := by decide +kernel
theorem dL_law_395 : decode cL_law 395 = .ok (.invokevirtual 49, 3) := by decide +kernel
theorem dL_law_398 : decode cL_law 398 = .ok (.aload_n 2, 1) := by decide +kernel
theorem dL_law_399 : decode cL_law 399 = .ok (.invokevirtual 53, 3) := by decide +kernel
theorem dL_law_402 : decode cL_law 402 = .ok (.if_icmp .eq 377, 3) := by decide +kernel
theorem dL_law_405 : decode cL_law 405 = .ok (.iconst 0, 1) := by decide +kernel
theorem dL_law_406 : decode cL_law 406 = .ok (.ireturn, 1) := by decide +kernel
theorem dL_law_407 : decode cL_law 407 = .ok (.aload_n 1, 1) := by decide +kernel
theorem dL_law_408 : decode cL_law 408 = .ok (.aload_n 0, 1) := by decide +kernel
theorem dL_law_409 : decode cL_law 409 = .ok (.iload_n 3, 1) := by decide +kernel
theorem dL_law_410 : decode cL_law 410 = .ok (.iconst 1, 1) := by decide +kernel
theorem dL_law_411 : decode cL_law 411 = .ok (.iadd, 1) := by decide +kernel
theorem dL_law_412 : decode cL_law 412 = .ok (.iaload, 1) := by decide +kernel
theorem dL_law_413 : decode cL_law 413 = .ok (.invokevirtual 54, 3) := by decide +kernel
theorem dL_law_416 : decode cL_law 416 = .ok (.aload_n 2, 1) := by decide +kernel
theorem dL_law_417 : decode cL_law 417 = .ok (.aload_n 0, 1) := by decide +kernel
theorem dL_law_418 : decode cL_law 418 = .ok (.iload_n 3, 1) := by decide +kernel
theorem dL_law_419 : decode cL_law 419 = .ok (.iconst 1, 1) := by decide +kernel
theorem dL_law_420 : decode cL_law 420 = .ok (.iadd, 1) := by decide +kernel
theorem dL_law_421 : decode cL_law 421 = .ok (.iaload, 1) := by decide +kernel
theorem dL_law_422 : decode cL_law 422 = .ok (.invokevirtual 57, 3) := by decide +kernel
theorem dL_law_425 : decode cL_law 425 = .ok (.if_icmp .eq 354, 3) := by decide +kernel
theorem dL_law_428 : decode cL_law 428 = .ok (.iconst 0, 1) := by decide +kernel
theorem dL_law_429 : decode cL_law 429 = .ok (.ireturn, 1) := by decide +kernel
theorem dL_law_430 : decode cL_law 430 = .ok (.aload_n 1, 1) := by decide +kernel
theorem dL_law_431 : decode cL_law 431 = .ok (.invokevirtual 58, 3) := by decide +kernel
theorem dL_law_434 : decode cL_law 434 = .ok (.aload_n 2, 1) := by decide +kernel
theorem dL_law_435 : decode cL_law 435 = .ok (.invokevirtual 61, 3) := by decide +kernel
theorem dL_law_438 : decode cL_law 438 = .ok (.if_icmp .eq 341, 3) := by decide +kernel
theorem dL_law_441 : decode cL_law 441 = .ok (.iconst 0, 1) := by decide +kernel
theorem dL_law_442 : decode cL_law 442 = .ok (.ireturn, 1) := by decide +kernel
theorem dL_law_443 : decode cL_law 443 = .ok (.aload_n 1, 1) := by decide +kernel
theorem dL_law_444 : decode cL_law 444 = .ok (.invokevirtual 62, 3) := by decide +kernel
theorem dL_law_447 : decode cL_law 447 = .ok (.aload_n 2, 1) := by decide +kernel
theorem dL_law_448 : decode cL_law 448 = .ok (.invokevirtual 65, 3) := by decide +kernel
theorem dL_law_451 : decode cL_law 451 = .ok (.if_icmp .eq 328, 3) := by decide +kernel
theorem dL_law_454 : decode cL_law 454 = .ok (.iconst 0, 1) := by decide +kernel
theorem dL_law_455 : decode cL_law 455 = .ok (.ireturn, 1) := by decide +kernel
theorem dL_law_456 : decode cL_law 456 = .ok (.aload_n 1, 1) := by decide +kernel
theorem dL_law_457 : decode cL_law 457 = .ok (.aload_n 0, 1) := by decide +kernel
theorem dL_law_458 : decode cL_law 458 = .ok (.iload_n 3, 1) := by decide +kernel
theorem dL_law_459 : decode cL_law 459 = .ok (.iconst 1, 1) := by decide +kernel
theorem dL_law_460 : decode cL_law 460 = .ok (.iadd, 1) := by decide +kernel
theorem dL_law_461 : decode cL_law 461 = .ok (.iaload, 1) := by decide +kernel
theorem dL_law_462 : decode cL_law 462 = .ok (.invokevirtual 66, 3) := by decide +kernel
theorem dL_law_465 : decode cL_law 465 = .ok (.aload_n 2, 1) := by decide +kernel
theorem dL_law_466 : decode cL_law 466 = .ok (.aload_n 0, 1) := by decide +kernel
theorem dL_law_467 : decode cL_law 467 = .ok (.iload_n 3, 1) := by decide +kernel
theorem dL_law_468 : decode cL_law 468 = .ok (.iconst 1, 1) := by decide +kernel
theorem dL_law_469 : decode cL_law 469 = .ok (.iadd, 1) := by decide +kernel
theorem dL_law_470 : decode cL_law 470 = .ok (.iaload, 1) := by decide +kernel
theorem dL_law_471 : decode cL_law 471 = .ok (.invokevirtual 69, 3) := by decide +kernel
theorem dL_law_474 : decode cL_law 474 = .ok (.if_icmp .eq 305, 3) := by decide +kernel
theorem dL_law_477 : decode cL_law 477 = .ok (.iconst 0, 1) := by decide +kernel
theorem dL_law_478 : decode cL_law 478 = .ok (.ireturn, 1) := by decide +kernel
theorem dL_law_479 : decode cL_law 479 = .ok (.aload_n 1, 1) := by decide +kernel
theorem dL_law_480 : decode cL_law 480 = .ok (.aload_n 0, 1) := by decide +kernel
theorem dL_law_481 : decode cL_law 481 = .ok (.iload_n 3, 1) := by decide +kernel
theorem dL_law_482 : decode cL_law 482 = .ok (.iconst 1, 1) := by decide +kernel
theorem dL_law_483 : decode cL_law 483 = .ok (.iadd, 1) := by decide +kernel
theorem dL_law_484 : decode cL_law 484 = .ok (.iaload, 1) := by decide +kernel
theorem dL_law_485 : decode cL_law 485 = .ok (.aload_n 0, 1) := by decide +kernel
theorem dL_law_486 : decode cL_law 486 = .ok (.iload_n 3, 1) := by decide +kernel
theorem dL_law_487 : decode cL_law 487 = .ok (.iconst 2, 1) := by decide +kernel
theorem dL_law_488 : decode cL_law 488 = .ok (.iadd, 1) := by decide +kernel
theorem dL_law_489 : decode cL_law 489 = .ok (.iaload, 1) := by decide +kernel
theorem dL_law_490 : decode cL_law 490 = .ok (.invokevirtual 70, 3) := by decide +kernel
theorem dL_law_493 : decode cL_law 493 = .ok (.aload_n 2, 1) := by decide +kernel
theorem dL_law_494 : decode cL_law 494 = .ok (.aload_n 0, 1) := by decide +kernel
theorem dL_law_495 : decode cL_law 495 = .ok (.iload_n 3, 1) := by decide +kernel
theorem dL_law_496 : decode cL_law 496 = .ok (.iconst 1, 1) := by decide +kernel
theorem dL_law_497 : decode cL_law 497 = .ok (.iadd, 1) := by decide +kernel
theorem dL_law_498 : decode cL_law 498 = .ok (.iaload, 1) := by decide +kernel
theorem dL_law_499 : decode cL_law 499 = .ok (.aload_n 0, 1) := by decide +kernel
theorem dL_law_500 : decode cL_law 500 = .ok (.iload_n 3, 1) := by decide +kernel
theorem dL_law_501 : decode cL_law 501 = .ok (.iconst 2, 1) := by decide +kernel
theorem dL_law_502 : decode cL_law 502 = .ok (.iadd, 1) := by decide +kernel
theorem dL_law_503 : decode cL_law 503 = .ok (.iaload, 1) := by decide +kernel
theorem dL_law_504 : decode cL_law 504 = .ok (.invokevirtual 73, 3) := by decide +kernel
theorem dL_law_507 : decode cL_law 507 = .ok (.if_icmp .eq 272, 3) := by decide +kernel
theorem dL_law_510 : decode cL_law 510 = .ok (.iconst 0, 1) := by decide +kernel
theorem dL_law_511 : decode cL_law 511 = .ok (.ireturn, 1) := by decide +kernel
theorem dL_law_512 : decode cL_law 512 = .ok (.aload_n 1, 1) := by decide +kernel
theorem dL_law_513 : decode cL_law 513 = .ok (.aload_n 0, 1) := by decide +kernel
theorem dL_law_514 : decode cL_law 514 = .ok (.iload_n 3, 1) := by decide +kernel
theorem dL_law_515 : decode cL_law 515 = .ok (.iconst 1, 1) := by decide +kernel
theorem dL_law_516 : decode cL_law 516 = .ok (.iadd, 1) := by decide +kernel
theorem dL_law_517 : decode cL_law 517 = .ok (.iaload, 1) := by decide +kernel
theorem dL_law_518 : decode cL_law 518 = .ok (.aload_n 0, 1) := by decide +kernel
theorem dL_law_519 : decode cL_law 519 = .ok (.iload_n 3, 1) := by decide +kernel
theorem dL_law_520 : decode cL_law 520 = .ok (.iconst 2, 1) := by decide +kernel
theorem dL_law_521 : decode cL_law 521 = .ok (.iadd, 1) := by decide +kernel
theorem dL_law_522 : decode cL_law 522 = .ok (.iaload, 1) := by decide +kernel
theorem dL_law_523 : decode cL_law 523 = .ok (.invokevirtual 74, 3) := by decide +kernel
theorem dL_law_526 : decode cL_law 526 = .ok (.aload_n 2, 1) := by decide +kernel
theorem dL_law_527 : decode cL_law 527 = .ok (.aload_n 0, 1) := by decide +kernel
theorem dL_law_528 : decode cL_law 528 = .ok (.iload_n 3, 1) := by decide +kernel
theorem dL_law_529 : decode cL_law 529 = .ok (.iconst 1, 1) := by decide +kernel
theorem dL_law_530 : decode cL_law 530 = .ok (.iadd, 1) := by decide +kernel
theorem dL_law_531 : decode cL_law 531 = .ok (.iaload, 1) := by decide +kernel
theorem dL_law_532 : decode cL_law 532 = .ok (.aload_n 0, 1) := by decide +kernel
theorem dL_law_533 : decode cL_law 533 = .ok (.iload_n 3, 1) := by decide +kernel
theorem dL_law_534 : decode cL_law 534 = .ok (.iconst 2, 1) := by decide +kernel
theorem dL_law_535 : decode cL_law 535 = .ok (.iadd, 1) := by decide +kernel
theorem dL_law_536 : decode cL_law 536 = .ok (.iaload, 1) := by decide +kernel
theorem dL_law_537 : decode cL_law 537 = .ok (.invokevirtual 77, 3) := by decide +kernel
theorem dL_law_540 : decode cL_law 540 = .ok (.if_icmp .eq 239, 3) := by decide +kernel
theorem dL_law_543 : decode cL_law 543 = .ok (.iconst 0, 1) := by decide +kernel
theorem dL_law_544 : decode cL_law 544 = .ok (.ireturn, 1) := by decide +kernel
theorem dL_law_545 : decode cL_law 545 = .ok (.aload_n 1, 1) := by decide +kernel
theorem dL_law_546 : decode cL_law 546 = .ok (.aload_n 0, 1) := by decide +kernel
theorem dL_law_547 : decode cL_law 547 = .ok (.iload_n 3, 1) := by decide +kernel
theorem dL_law_548 : decode cL_law 548 = .ok (.iconst 1, 1) := by decide +kernel
theorem dL_law_549 : decode cL_law 549 = .ok (.iadd, 1) := by decide +kernel
theorem dL_law_550 : decode cL_law 550 = .ok (.iaload, 1) := by decide +kernel
theorem dL_law_551 : decode cL_law 551 = .ok (.aload_n 0, 1) := by decide +kernel
theorem dL_law_552 : decode cL_law 552 = .ok (.iload_n 3, 1) := by decide +kernel
theorem dL_law_553 : decode cL_law 553 = .ok (.iconst 2, 1) := by decide +kernel
theorem dL_law_554 : decode cL_law 554 = .ok (.iadd, 1) := by decide +kernel
theorem dL_law_555 : decode cL_law 555 = .ok (.iaload, 1) := by decide +kernel
theorem dL_law_556 : decode cL_law 556 = .ok (.invokevirtual 78, 3) := by decide +kernel
theorem dL_law_559 : decode cL_law 559 = .ok (.aload_n 2, 1) := by decide +kernel
theorem dL_law_560 : decode cL_law 560 = .ok (.aload_n 0, 1) := by decide +kernel
theorem dL_law_561 : decode cL_law 561 = .ok (.iload_n 3, 1) := by decide +kernel
theorem dL_law_562 : decode cL_law 562 = .ok (.iconst 1, 1) := by decide +kernel
theorem dL_law_563 : decode cL_law 563 = .ok (.iadd, 1) := by decide +kernel
theorem dL_law_564 : decode cL_law 564 = .ok (.iaload, 1) := by decide +kernel
theorem dL_law_565 : decode cL_law 565 = .ok (.aload_n 0, 1) := by decide +kernel
theorem dL_law_566 : decode cL_law 566 = .ok (.iload_n 3, 1) := by decide +kernel
theorem dL_law_567 : decode cL_law 567 = .ok (.iconst 2, 1) := by decide +kernel
theorem dL_law_568 : decode cL_law 568 = .ok (.iadd, 1) := by decide +kernel
theorem dL_law_569 : decode cL_law 569 = .ok (.iaload, 1) := by decide +kernel
theorem dL_law_570 : decode cL_law 570 = .ok (.invokevirtual 81, 3) := by decide +kernel
theorem dL_law_573 : decode cL_law 573 = .ok (.if_icmp .eq 206, 3) := by decide +kernel
theorem dL_law_576 : decode cL_law 576 = .ok (.iconst 0, 1) := by decide +kernel
theorem dL_law_577 : decode cL_law 577 = .ok (.ireturn, 1) := by decide +kernel
theorem dL_law_578 : decode cL_law 578 = .ok (.aload_n 1, 1) := by decide +kernel
theorem dL_law_579 : decode cL_law 579 = .ok (.aload_n 0, 1) := by decide +kernel
theorem dL_law_580 : decode cL_law 580 = .ok (.iload_n 3, 1) := by decide +kernel
theorem dL_law_581 : decode cL_law 581 = .ok (.iconst 1, 1) := by decide +kernel
theorem dL_law_582 : decode cL_law 582 = .ok (.iadd, 1) := by decide +kernel
theorem dL_law_583 : decode cL_law 583 = .ok (.iaload, 1) := by decide +kernel
theorem dL_law_584 : decode cL_law 584 = .ok (.aload_n 0, 1) := by decide +kernel
theorem dL_law_585 : decode cL_law 585 = .ok (.iload_n 3, 1) := by decide +kernel
theorem dL_law_586 : decode cL_law 586 = .ok (.iconst 2, 1) := by decide +kernel
theorem dL_law_587 : decode cL_law 587 = .ok (.iadd, 1) := by decide +kernel
theorem dL_law_588 : decode cL_law 588 = .ok (.iaload, 1) := by decide +kernel
theorem dL_law_589 : decode cL_law 589 = .ok (.aload_n 0, 1) := by decide +kernel
theorem dL_law_590 : decode cL_law 590 = .ok (.iload_n 3, 1) := by decide +kernel
theorem dL_law_591 : decode cL_law 591 = .ok (.iconst 3, 1) := by decide +kernel
theorem dL_law_592 : decode cL_law 592 = .ok (.iadd, 1) := by decide +kernel
theorem dL_law_593 : decode cL_law 593 = .ok (.iaload, 1) := by decide +kernel
theorem dL_law_594 : decode cL_law 594 = .ok (.invokevirtual 82, 3) := by decide +kernel
theorem dL_law_597 : decode cL_law 597 = .ok (.aload_n 2, 1) := by decide +kernel
theorem dL_law_598 : decode cL_law 598 = .ok (.aload_n 0, 1) := by decide +kernel
theorem dL_law_599 : decode cL_law 599 = .ok (.iload_n 3, 1) := by decide +kernel
theorem dL_law_600 : decode cL_law 600 = .ok (.iconst 1, 1) := by decide +kernel
theorem dL_law_601 : decode cL_law 601 = .ok (.iadd, 1) := by decide +kernel
theorem dL_law_602 : decode cL_law 602 = .ok (.iaload, 1) := by decide +kernel
theorem dL_law_603 : decode cL_law 603 = .ok (.aload_n 0, 1) := by decide +kernel
theorem dL_law_604 : decode cL_law 604 = .ok (.iload_n 3, 1) := by decide +kernel
theorem dL_law_605 : decode cL_law 605 = .ok (.iconst 2, 1) := by decide +kernel
theorem dL_law_606 : decode cL_law 606 = .ok (.iadd, 1) := by decide +kernel
theorem dL_law_607 : decode cL_law 607 = .ok (.iaload, 1) := by decide +kernel
theorem dL_law_608 : decode cL_law 608 = .ok (.aload_n 0, 1) := by decide +kernel
theorem dL_law_609 : decode cL_law 609 = .ok (.iload_n 3, 1) := by decide +kernel
theorem dL_law_610 : decode cL_law 610 = .ok (.iconst 3, 1) := by decide +kernel
theorem dL_law_611 : decode cL_law 611 = .ok (.iadd, 1) := by decide +kernel
theorem dL_law_612 : decode cL_law 612 = .ok (.iaload, 1) := by decide +kernel
theorem dL_law_613 : decode cL_law 613 = .ok (.invokevirtual 85, 3) := by decide +kernel
theorem dL_law_616 : decode cL_law 616 = .ok (.if_icmp .eq 163, 3) := by decide +kernel
theorem dL_law_619 : decode cL_law 619 = .ok (.iconst 0, 1) := by decide +kernel
theorem dL_law_620 : decode cL_law 620 = .ok (.ireturn, 1) := by decide +kernel
theorem dL_law_621 : decode cL_law 621 = .ok (.aload_n 1, 1) := by decide +kernel
theorem dL_law_622 : decode cL_law 622 = .ok (.aload_n 0, 1) := by decide +kernel
theorem dL_law_623 : decode cL_law 623 = .ok (.iload_n 3, 1) := by decide +kernel
theorem dL_law_624 : decode cL_law 624 = .ok (.iconst 1, 1) := by decide +kernel
theorem dL_law_625 : decode cL_law 625 = .ok (.iadd, 1) := by decide +kernel
theorem dL_law_626 : decode cL_law 626 = .ok (.iaload, 1) := by decide +kernel
theorem dL_law_627 : decode cL_law 627 = .ok (.aload_n 0, 1) := by decide +kernel
theorem dL_law_628 : decode cL_law 628 = .ok (.iload_n 3, 1) := by decide +kernel
theorem dL_law_629 : decode cL_law 629 = .ok (.iconst 2, 1) := by decide +kernel
theorem dL_law_630 : decode cL_law 630 = .ok (.iadd, 1) := by decide +kernel
theorem dL_law_631 : decode cL_law 631 = .ok (.iaload, 1) := by decide +kernel
theorem dL_law_632 : decode cL_law 632 = .ok (.invokevirtual 86, 3) := by decide +kernel
theorem dL_law_635 : decode cL_law 635 = .ok (.aload_n 2, 1) := by decide +kernel
theorem dL_law_636 : decode cL_law 636 = .ok (.aload_n 0, 1) := by decide +kernel
theorem dL_law_637 : decode cL_law 637 = .ok (.iload_n 3, 1) := by decide +kernel
theorem dL_law_638 : decode cL_law 638 = .ok (.iconst 1, 1) := by decide +kernel
theorem dL_law_639 : decode cL_law 639 = .ok (.iadd, 1) := by decide +kernel
theorem dL_law_640 : decode cL_law 640 = .ok (.iaload, 1) := by decide +kernel
theorem dL_law_641 : decode cL_law 641 = .ok (.aload_n 0, 1) := by decide +kernel
theorem dL_law_642 : decode cL_law 642 = .ok (.iload_n 3, 1) := by decide +kernel
theorem dL_law_643 : decode cL_law 643 = .ok (.iconst 2, 1) := by decide +kernel
theorem dL_law_644 : decode cL_law 644 = .ok (.iadd, 1) := by decide +kernel
theorem dL_law_645 : decode cL_law 645 = .ok (.iaload, 1) := by decide +kernel
theorem dL_law_646 : decode cL_law 646 = .ok (.invokevirtual 89, 3) := by decide +kernel
theorem dL_law_649 : decode cL_law 649 = .ok (.if_icmp .eq 130, 3) := by decide +kernel
theorem dL_law_652 : decode cL_law 652 = .ok (.iconst 0, 1) := by decide +kernel
theorem dL_law_653 : decode cL_law 653 = .ok (.ireturn, 1) := by decide +kernel
theorem dL_law_654 : decode cL_law 654 = .ok (.aload_n 1, 1) := by decide +kernel
theorem dL_law_655 : decode cL_law 655 = .ok (.invokevirtual 90, 3) := by decide +kernel
theorem dL_law_658 : decode cL_law 658 = .ok (.aload_n 2, 1) := by decide +kernel
theorem dL_law_659 : decode cL_law 659 = .ok (.invokevirtual 93, 3) := by decide +kernel
theorem dL_law_662 : decode cL_law 662 = .ok (.if_icmp .eq 117, 3) := by decide +kernel
theorem dL_law_665 : decode cL_law 665 = .ok (.iconst 0, 1) := by decide +kernel
theorem dL_law_666 : decode cL_law 666 = .ok (.ireturn, 1) := by decide +kernel
theorem dL_law_667 : decode cL_law 667 = .ok (.aload_n 1, 1) := by decide +kernel
theorem dL_law_668 : decode cL_law 668 = .ok (.aload_n 0, 1) := by decide +kernel
theorem dL_law_669 : decode cL_law 669 = .ok (.iload_n 3, 1) := by decide +kernel
theorem dL_law_670 : decode cL_law 670 = .ok (.iconst 1, 1) := by decide +kernel
theorem dL_law_671 : decode cL_law 671 = .ok (.iadd, 1) := by decide +kernel
theorem dL_law_672 : decode cL_law 672 = .ok (.iaload, 1) := by decide +kernel
theorem dL_law_673 : decode cL_law 673 = .ok (.aload_n 0, 1) := by decide +kernel
theorem dL_law_674 : decode cL_law 674 = .ok (.iload_n 3, 1) := by decide +kernel
theorem dL_law_675 : decode cL_law 675 = .ok (.iconst 2, 1) := by decide +kernel
theorem dL_law_676 : decode cL_law 676 = .ok (.iadd, 1) := by decide +kernel
theorem dL_law_677 : decode cL_law 677 = .ok (.iaload, 1) := by decide +kernel
theorem dL_law_678 : decode cL_law 678 = .ok (.invokevirtual 94, 3) := by decide +kernel
theorem dL_law_681 : decode cL_law 681 = .ok (.aload_n 2, 1) := by decide +kernel
theorem dL_law_682 : decode cL_law 682 = .ok (.aload_n 0, 1) := by decide +kernel
theorem dL_law_683 : decode cL_law 683 = .ok (.iload_n 3, 1) := by decide +kernel
theorem dL_law_684 : decode cL_law 684 = .ok (.iconst 1, 1) := by decide +kernel
theorem dL_law_685 : decode cL_law 685 = .ok (.iadd, 1) := by decide +kernel
theorem dL_law_686 : decode cL_law 686 = .ok (.iaload, 1) := by decide +kernel
theorem dL_law_687 : decode cL_law 687 = .ok (.aload_n 0, 1) := by decide +kernel
theorem dL_law_688 : decode cL_law 688 = .ok (.iload_n 3, 1) := by decide +kernel
theorem dL_law_689 : decode cL_law 689 = .ok (.iconst 2, 1) := by decide +kernel
theorem dL_law_690 : decode cL_law 690 = .ok (.iadd, 1) := by decide +kernel
theorem dL_law_691 : decode cL_law 691 = .ok (.iaload, 1) := by decide +kernel
theorem dL_law_692 : decode cL_law 692 = .ok (.invokevirtual 97, 3) := by decide +kernel
theorem dL_law_695 : decode cL_law 695 = .ok (.if_icmp .eq 84, 3) := by decide +kernel
theorem dL_law_698 : decode cL_law 698 = .ok (.iconst 0, 1) := by decide +kernel
theorem dL_law_699 : decode cL_law 699 = .ok (.ireturn, 1) := by decide +kernel
theorem dL_law_700 : decode cL_law 700 = .ok (.aload_n 1, 1) := by decide +kernel
theorem dL_law_701 : decode cL_law 701 = .ok (.aload_n 0, 1) := by decide +kernel
theorem dL_law_702 : decode cL_law 702 = .ok (.iload_n 3, 1) := by decide +kernel
theorem dL_law_703 : decode cL_law 703 = .ok (.iconst 1, 1) := by decide +kernel
theorem dL_law_704 : decode cL_law 704 = .ok (.iadd, 1) := by decide +kernel
theorem dL_law_705 : decode cL_law 705 = .ok (.iaload, 1) := by decide +kernel
theorem dL_law_706 : decode cL_law 706 = .ok (.aload_n 0, 1) := by decide +kernel
theorem dL_law_707 : decode cL_law 707 = .ok (.iload_n 3, 1) := by decide +kernel
theorem dL_law_708 : decode cL_law 708 = .ok (.iconst 2, 1) := by decide +kernel
theorem dL_law_709 : decode cL_law 709 = .ok (.iadd, 1) := by decide +kernel
theorem dL_law_710 : decode cL_law 710 = .ok (.iaload, 1) := by decide +kernel
theorem dL_law_711 : decode cL_law 711 = .ok (.aload_n 0, 1) := by decide +kernel
theorem dL_law_712 : decode cL_law 712 = .ok (.iload_n 3, 1) := by decide +kernel
theorem dL_law_713 : decode cL_law 713 = .ok (.iconst 3, 1) := by decide +kernel
theorem dL_law_714 : decode cL_law 714 = .ok (.iadd, 1) := by decide +kernel
theorem dL_law_715 : decode cL_law 715 = .ok (.iaload, 1) := by decide +kernel
theorem dL_law_716 : decode cL_law 716 = .ok (.invokevirtual 98, 3) := by decide +kernel
theorem dL_law_719 : decode cL_law 719 = .ok (.aload_n 2, 1) := by decide +kernel
theorem dL_law_720 : decode cL_law 720 = .ok (.aload_n 0, 1) := by decide +kernel
theorem dL_law_721 : decode cL_law 721 = .ok (.iload_n 3, 1) := by decide +kernel
theorem dL_law_722 : decode cL_law 722 = .ok (.iconst 1, 1) := by decide +kernel
theorem dL_law_723 : decode cL_law 723 = .ok (.iadd, 1) := by decide +kernel
theorem dL_law_724 : decode cL_law 724 = .ok (.iaload, 1) := by decide +kernel
theorem dL_law_725 : decode cL_law 725 = .ok (.aload_n 0, 1) := by decide +kernel
theorem dL_law_726 : decode cL_law 726 = .ok (.iload_n 3, 1) := by decide +kernel
theorem dL_law_727 : decode cL_law 727 = .ok (.iconst 2, 1) := by decide +kernel
theorem dL_law_728 : decode cL_law 728 = .ok (.iadd, 1) := by decide +kernel
theorem dL_law_729 : decode cL_law 729 = .ok (.iaload, 1) := by decide +kernel
theorem dL_law_730 : decode cL_law 730 = .ok (.aload_n 0, 1) := by decide +kernel
theorem dL_law_731 : decode cL_law 731 = .ok (.iload_n 3, 1) := by decide +kernel
theorem dL_law_732 : decode cL_law 732 = .ok (.iconst 3, 1) := by decide +kernel
theorem dL_law_733 : decode cL_law 733 = .ok (.iadd, 1) := by decide +kernel
theorem dL_law_734 : decode cL_law 734 = .ok (.iaload, 1) := by decide +kernel
theorem dL_law_735 : decode cL_law 735 = .ok (.invokevirtual 101, 3) := by decide +kernel
theorem dL_law_738 : decode cL_law 738 = .ok (.if_icmp .eq 41, 3) := by decide +kernel
theorem dL_law_741 : decode cL_law 741 = .ok (.iconst 0, 1) := by decide +kernel
theorem dL_law_742 : decode cL_law 742 = .ok (.ireturn, 1) := by decide +kernel
theorem dL_law_743 : decode cL_law 743 = .ok (.aload_n 1, 1) := by decide +kernel
theorem dL_law_744 : decode cL_law 744 = .ok (.aload_n 0, 1) := by decide +kernel
theorem dL_law_745 : decode cL_law 745 = .ok (.iload_n 3, 1) := by decide +kernel
theorem dL_law_746 : decode cL_law 746 = .ok (.iconst 1, 1) := by decide +kernel
theorem dL_law_747 : decode cL_law 747 = .ok (.iadd, 1) := by decide +kernel
theorem dL_law_748 : decode cL_law 748 = .ok (.iaload, 1) := by decide +kernel
theorem dL_law_749 : decode cL_law 749 = .ok (.invokevirtual 102, 3) := by decide +kernel
theorem dL_law_752 : decode cL_law 752 = .ok (.aload_n 2, 1) := by decide +kernel
theorem dL_law_753 : decode cL_law 753 = .ok (.aload_n 0, 1) := by decide +kernel
theorem dL_law_754 : decode cL_law 754 = .ok (.iload_n 3, 1) := by decide +kernel
theorem dL_law_755 : decode cL_law 755 = .ok (.iconst 1, 1) := by decide +kernel
theorem dL_law_756 : decode cL_law 756 = .ok (.iadd, 1) := by decide +kernel
theorem dL_law_757 : decode cL_law 757 = .ok (.iaload, 1) := by decide +kernel
theorem dL_law_758 : decode cL_law 758 = .ok (.invokevirtual 105, 3) := by decide +kernel
theorem dL_law_761 : decode cL_law 761 = .ok (.if_icmp .eq 18, 3) := by decide +kernel
theorem dL_law_764 : decode cL_law 764 = .ok (.iconst 0, 1) := by decide +kernel
theorem dL_law_765 : decode cL_law 765 = .ok (.ireturn, 1) := by decide +kernel
theorem dL_law_766 : decode cL_law 766 = .ok (.aload_n 1, 1) := by decide +kernel
theorem dL_law_767 : decode cL_law 767 = .ok (.invokevirtual 106, 3) := by decide +kernel
theorem dL_law_770 : decode cL_law 770 = .ok (.aload_n 2, 1) := by decide +kernel
theorem dL_law_771 : decode cL_law 771 = .ok (.invokevirtual 109, 3) := by decide +kernel
theorem dL_law_774 : decode cL_law 774 = .ok (.if_icmp .eq 5, 3) := by decide +kernel
theorem dL_law_777 : decode cL_law 777 = .ok (.iconst 0, 1) := by decide +kernel
theorem dL_law_778 : decode cL_law 778 = .ok (.ireturn, 1) := by decide +kernel
theorem dL_law_779 : decode cL_law 779 = .ok (.iinc 3 5, 3) := by decide +kernel
theorem dL_law_782 : decode cL_law 782 = .ok (.goto (-764), 3) := by decide +kernel
theorem dL_law_785 : decode cL_law 785 = .ok (.iconst 1, 1) := by decide +kernel
theorem dL_law_786 : decode cL_law 786 = .ok (.ireturn, 1) := by decide +kernel
theorem dJ13_bitCount_95d88_0 : decode cJ13_bitCount_95d88 0 = .ok (.lload_n 0, 1) := by decide +kernel
theorem dJ13_bitCount_95d88_1 : decode cJ13_bitCount_95d88 1 = .ok (.lload_n 0, 1) := by decide +kernel
theorem dJ13_bitCount_95d88_2 : decode cJ13_bitCount_95d88 2 = .ok (.iconst 1, 1) := by decide +kernel
theorem dJ13_bitCount_95d88_3 : decode cJ13_bitCount_95d88 3 = .ok (.lushr, 1) := by decide +kernel
theorem dJ13_bitCount_95d88_4 : decode cJ13_bitCount_95d88 4 = .ok (.ldc2_w 314, 3) := by decide +kernel
theorem dJ13_bitCount_95d88_7 : decode cJ13_bitCount_95d88 7 = .ok (.land, 1) := by decide +kernel
theorem dJ13_bitCount_95d88_8 : decode cJ13_bitCount_95d88 8 = .ok (.lsub, 1) := by decide +kernel
theorem dJ13_bitCount_95d88_9 : decode cJ13_bitCount_95d88 9 = .ok (.lstore_n 0, 1) := by decide +kernel
theorem dJ13_bitCount_95d88_10 : decode cJ13_bitCount_95d88 10 = .ok (.lload_n 0, 1) := by decide +kernel
theorem dJ13_bitCount_95d88_11 : decode cJ13_bitCount_95d88 11 = .ok (.ldc2_w 316, 3) := by decide +kernel
theorem dJ13_bitCount_95d88_14 : decode cJ13_bitCount_95d88 14 = .ok (.land, 1) := by decide +kernel
theorem dJ13_bitCount_95d88_15 : decode cJ13_bitCount_95d88 15 = .ok (.lload_n 0, 1) := by decide +kernel
theorem dJ13_bitCount_95d88_16 : decode cJ13_bitCount_95d88 16 = .ok (.iconst 2, 1) := by decide +kernel
theorem dJ13_bitCount_95d88_17 : decode cJ13_bitCount_95d88 17 = .ok (.lushr, 1) := by decide +kernel
theorem dJ13_bitCount_95d88_18 : decode cJ13_bitCount_95d88 18 = .ok (.ldc2_w 316, 3) := by decide +kernel
theorem dJ13_bitCount_95d88_21 : decode cJ13_bitCount_95d88 21 = .ok (.land, 1) := by decide +kernel
theorem dJ13_bitCount_95d88_22 : decode cJ13_bitCount_95d88 22 = .ok (.ladd, 1) := by decide +kernel
theorem dJ13_bitCount_95d88_23 : decode cJ13_bitCount_95d88 23 = .ok (.lstore_n 0, 1) := by decide +kernel
theorem dJ13_bitCount_95d88_24 : decode cJ13_bitCount_95d88 24 = .ok (.lload_n 0, 1) := by decide +kernel
theorem dJ13_bitCount_95d88_25 : decode cJ13_bitCount_95d88 25 = .ok (.lload_n 0, 1) := by decide +kernel
theorem dJ13_bitCount_95d88_26 : decode cJ13_bitCount_95d88 26 = .ok (.iconst 4, 1) := by decide +kernel
theorem dJ13_bitCount_95d88_27 : decode cJ13_bitCount_95d88 27 = .ok (.lushr, 1) := by decide +kernel
theorem dJ13_bitCount_95d88_28 : decode cJ13_bitCount_95d88 28 = .ok (.ladd, 1) := by decide +kernel
theorem dJ13_bitCount_95d88_29 : decode cJ13_bitCount_95d88 29 = .ok (.ldc2_w 318, 3) := by decide +kernel
theorem dJ13_bitCount_95d88_32 : decode cJ13_bitCount_95d88 32 = .ok (.land, 1) := by decide +kernel
theorem dJ13_bitCount_95d88_33 : decode cJ13_bitCount_95d88 33 = .ok (.lstore_n 0, 1) := by decide +kernel
theorem dJ13_bitCount_95d88_34 : decode cJ13_bitCount_95d88 34 = .ok (.lload_n 0, 1) := by decide +kernel
theorem dJ13_bitCount_95d88_35 : decode cJ13_bitCount_95d88 35 = .ok (.lload_n 0, 1) := by decide +kernel
theorem dJ13_bitCount_95d88_36 : decode cJ13_bitCount_95d88 36 = .ok (.bipush 8, 2) := by decide +kernel
theorem dJ13_bitCount_95d88_38 : decode cJ13_bitCount_95d88 38 = .ok (.lushr, 1) := by decide +kernel
theorem dJ13_bitCount_95d88_39 : decode cJ13_bitCount_95d88 39 = .ok (.ladd, 1) := by decide +kernel
theorem dJ13_bitCount_95d88_40 : decode cJ13_bitCount_95d88 40 = .ok (.lstore_n 0, 1) := by decide +kernel
theorem dJ13_bitCount_95d88_41 : decode cJ13_bitCount_95d88 41 = .ok (.lload_n 0, 1) := by decide +kernel
theorem dJ13_bitCount_95d88_42 : decode cJ13_bitCount_95d88 42 = .ok (.lload_n 0, 1) := by decide +kernel
theorem dJ13_bitCount_95d88_43 : decode cJ13_bitCount_95d88 43 = .ok (.bipush 16, 2) := by decide +kernel
theorem dJ13_bitCount_95d88_45 : decode cJ13_bitCount_95d88 45 = .ok (.lushr, 1) := by decide +kernel
theorem dJ13_bitCount_95d88_46 : decode cJ13_bitCount_95d88 46 = .ok (.ladd, 1) := by decide +kernel
theorem dJ13_bitCount_95d88_47 : decode cJ13_bitCount_95d88 47 = .ok (.lstore_n 0, 1) := by decide +kernel
theorem dJ13_bitCount_95d88_48 : decode cJ13_bitCount_95d88 48 = .ok (.lload_n 0, 1) := by decide +kernel
theorem dJ13_bitCount_95d88_49 : decode cJ13_bitCount_95d88 49 = .ok (.lload_n 0, 1) := by decide +kernel
theorem dJ13_bitCount_95d88_50 : decode cJ13_bitCount_95d88 50 = .ok (.bipush 32, 2) := by decide +kernel
theorem dJ13_bitCount_95d88_52 : decode cJ13_bitCount_95d88 52 = .ok (.lushr, 1) := by decide +kernel
theorem dJ13_bitCount_95d88_53 : decode cJ13_bitCount_95d88 53 = .ok (.ladd, 1) := by decide +kernel
theorem dJ13_bitCount_95d88_54 : decode cJ13_bitCount_95d88 54 = .ok (.lstore_n 0, 1) := by decide +kernel
theorem dJ13_bitCount_95d88_55 : decode cJ13_bitCount_95d88 55 = .ok (.lload_n 0, 1) := by decide +kernel
theorem dJ13_bitCount_95d88_56 : decode cJ13_bitCount_95d88 56 = .ok (.l2i, 1) := by decide +kernel
theorem dJ13_bitCount_95d88_57 : decode cJ13_bitCount_95d88 57 = .ok (.bipush 127, 2) := by decide +kernel
theorem dJ13_bitCount_95d88_59 : decode cJ13_bitCount_95d88 59 = .ok (.iand, 1) := by decide +kernel
theorem dJ13_bitCount_95d88_60 : decode cJ13_bitCount_95d88 60 = .ok (.ireturn, 1) := by decide +kernel
theorem dJ9_max_7cf53_0 : decode cJ9_max_7cf53 0 = .ok (.iload_n 0, 1) := by decide +kernel
theorem dJ9_max_7cf53_1 : decode cJ9_max_7cf53 1 = .ok (.iload_n 1, 1) := by decide +kernel
theorem dJ9_max_7cf53_2 : decode cJ9_max_7cf53 2 = .ok (.if_icmp .lt 7, 3) := by decide +kernel
theorem dJ9_max_7cf53_5 : decode cJ9_max_7cf53 5 = .ok (.iload_n 0, 1) := by decide +kernel
theorem dJ9_max_7cf53_6 : decode cJ9_max_7cf53 6 = .ok (.goto 4, 3) := by decide +kernel
theorem dJ9_max_7cf53_9 : decode cJ9_max_7cf53 9 = .ok (.iload_n 1, 1) := by decide +kernel
theorem dJ9_max_7cf53_10 : decode cJ9_max_7cf53 10 = .ok (.ireturn, 1) := by decide +kernel
theorem dJ9_min_7cf53_0 : decode cJ9_min_7cf53 0 = .ok (.iload_n 0, 1) := by decide +kernel
theorem dJ9_min_7cf53_1 : decode cJ9_min_7cf53 1 = .ok (.iload_n 1, 1) := by decide +kernel
theorem dJ9_min_7cf53_2 : decode cJ9_min_7cf53 2 = .ok (.if_icmp .gt 7, 3) := by decide +kernel
theorem dJ9_min_7cf53_5 : decode cJ9_min_7cf53 5 = .ok (.iload_n 0, 1) := by decide +kernel
theorem dJ9_min_7cf53_6 : decode cJ9_min_7cf53 6 = .ok (.goto 4, 3) := by decide +kernel
theorem dJ9_min_7cf53_9 : decode cJ9_min_7cf53 9 = .ok (.iload_n 1, 1) := by decide +kernel
theorem dJ9_min_7cf53_10 : decode cJ9_min_7cf53 10 = .ok (.ireturn, 1) := by decide +kernel
end
section
/-! THE WORLD: one list of shapes at consecutive addresses from b0 on, and one memory of ints -/
abbrev vv_M : Type := Nat → Nat → Int32
abbrev vv_Sh : Type := (Nat × Nat) ⊕ ((Nat × Nat × Nat × Nat × Nat) ⊕ (Nat × List (Option (Option Nat))))
abbrev vv_cl : List vw_C := [(RX0, TX0, 3), (RX1, TX1, 3), (RX2, TX2, 9), (RX3, TX3, 6), (RX4, TX4, 4), (RX5, TX5, 8)]
abbrev vv_tys (cA : Nat → ClassId) : List (ClassId × FieldType) := [(cA 0, .int), (cA 1, .boolean), (cA 2, .object RX2), (cA 3, .object RX1)]
def vv_fv (b0 : Nat) (r : Nat → Int32) (k : Nat) (o : Option (Option Nat)) : Value := match o with
  | none => .int (r k)
  | some none => .null
  | some (some q) => .ref (b0 + q)
def vv_fs (b0 : Nat) (r : Nat → Int32) (fs : List (Option (Option Nat))) : List Value := fs.mapIdx (fun k o => vv_fv b0 r k o)
def vv_rq (b0 fil base stride : Nat) (j : Nat) : Option Nat := if j < fil then some (b0 + (base + stride * j)) else none
def vv_cell (b0 : Nat) (cA : Nat → ClassId) (r : Nat → Int32) (sh : vv_Sh) : va_E := match sh with
  | .inl (tag, n) => .inl (cA tag, n, .inl r)
  | .inr (.inl (tag, n, fil, base, stride)) => .inl (cA tag, n, .inr (.inr (.inr (.inr (vv_rq b0 fil base stride)))))
  | .inr (.inr (ci, fs)) => .inr (ci, vv_fs b0 r fs)
def vv_ws (b0 : Nat) (cA : Nat → ClassId) (S : List vv_Sh) (M : vv_M) : va_W := S.mapIdx (fun k sh => (b0 + k, vv_cell b0 cA (M k) sh))
def vv_ssz (sh : vv_Sh) : Nat := match sh with
  | .inl (_, n) => n
  | .inr (.inl (_, n, _)) => n
  | .inr (.inr (_, fs)) => fs.length
def vv_sz (S : List vv_Sh) : Nat := (S.map vv_ssz).sum
def vv_A (b0 : Nat) : Nat → Prop := fun q => b0 ≤ q
theorem vv_at (b0 : Nat) (cA : Nat → ClassId) {S : List vv_Sh} (M : vv_M) {q : Nat} {sh : vv_Sh} (h : S[q]? = some sh) : (vv_ws b0 cA S M)[q]? = some (b0 + q, vv_cell b0 cA (M q) sh) := by
  unfold vv_ws
  rw [List.getElem?_mapIdx, h]
  rfl
theorem vv_Dd (b0 : Nat) (cA : Nat → ClassId) (S : List vv_Sh) (M : vv_M) : va_D (vv_A b0) (vv_ws b0 cA S M) := by
  have key : ∀ (k : Nat) (q : Nat × va_E), (vv_ws b0 cA S M)[k]? = some q → q.1 = b0 + k := by
    intro k q h
    unfold vv_ws at h
    rw [List.getElem?_mapIdx] at h
    cases hs : S[k]? with
    | none => rw [hs] at h; cases h
    | some sh => rw [hs] at h; cases h; rfl
  refine ⟨fun i j x y hi hj hxy => ?_, fun k q hk => ?_⟩
  · have h1 := key i x hi
    have h2 := key j y hj
    omega
  · have h1 := key k q hk
    show b0 ≤ q.1
    omega
theorem vv_set {b0 : Nat} {cA : Nat → ClassId} {S : List vv_Sh} {M M' : vv_M} {q : Nat} {sh : vv_Sh} (h : S[q]? = some sh) (hM : ∀ j, j ≠ q → M' j = M j) : (vv_ws b0 cA S M).set q (b0 + q, vv_cell b0 cA (M' q) sh) = vv_ws b0 cA S M' := by
  apply List.ext_getElem?
  intro i
  have hl := (List.getElem?_eq_some_iff.mp h).1
  unfold vv_ws
  rw [List.getElem?_set]
  by_cases hi : q = i
  · subst hi
    rw [if_pos rfl, if_pos (by rw [List.length_mapIdx]; exact hl), List.getElem?_mapIdx, h]
    rfl
  · rw [if_neg hi, List.getElem?_mapIdx, List.getElem?_mapIdx, hM i (Ne.symm hi)]
theorem vv_setS {b0 : Nat} {cA : Nat → ClassId} {S : List vv_Sh} {M : vv_M} {q : Nat} (sh' : vv_Sh) : (vv_ws b0 cA S M).set q (b0 + q, vv_cell b0 cA (M q) sh') = vv_ws b0 cA (S.set q sh') M := by
  apply List.ext_getElem?
  intro i
  unfold vv_ws
  rw [List.getElem?_set, List.getElem?_mapIdx, List.getElem?_mapIdx, List.getElem?_set, List.length_mapIdx]
  by_cases hi : q = i
  · subst hi
    by_cases hl : q < S.length
    · simp [hl]
    · simp [hl]
  · simp [hi]
theorem vv_push {b0 : Nat} {cA : Nat → ClassId} {S : List vv_Sh} {M : vv_M} (sh : vv_Sh) : vv_ws b0 cA S M ++ [(b0 + S.length, vv_cell b0 cA (M S.length) sh)] = vv_ws b0 cA (S ++ [sh]) M := by
  unfold vv_ws
  rw [List.mapIdx_append]
  simp
theorem vv_fs_at {b0 : Nat} {r : Nat → Int32} {fs : List (Option (Option Nat))} {k : Nat} {o : Option (Option Nat)} (h : fs[k]? = some o) : (vv_fs b0 r fs)[k]? = some (vv_fv b0 r k o) := by
  unfold vv_fs
  rw [List.getElem?_mapIdx, h]
  rfl
theorem vv_fs_len {b0 : Nat} {r : Nat → Int32} {fs : List (Option (Option Nat))} : (vv_fs b0 r fs).length = fs.length := by
  unfold vv_fs
  exact List.length_mapIdx
theorem vv_fs_int {b0 : Nat} {r : Nat → Int32} {fs : List (Option (Option Nat))} {k : Nat} {x : Int32} (h : fs[k]? = some none) : (vv_fs b0 r fs).set k (.int x) = vv_fs b0 (upd r k x) fs := by
  apply List.ext_getElem?
  intro i
  unfold vv_fs
  rw [List.getElem?_set, List.getElem?_mapIdx, List.getElem?_mapIdx, List.length_mapIdx]
  by_cases hi : k = i
  · subst hi
    have hl := (List.getElem?_eq_some_iff.mp h).1
    rw [if_pos rfl, if_pos hl, h]
    simp [vv_fv, upd]
  · rw [if_neg hi]
    cases fs[i]? with
    | none => rfl
    | some o =>
      cases o with
      | none => simp [vv_fv, upd, Ne.symm hi]
      | some o => cases o <;> rfl
theorem vv_fs_ref {b0 : Nat} {r : Nat → Int32} {fs : List (Option (Option Nat))} {k q : Nat} : (vv_fs b0 r fs).set k (.ref (b0 + q)) = vv_fs b0 r (fs.set k (some (some q))) := by
  apply List.ext_getElem?
  intro i
  unfold vv_fs
  rw [List.getElem?_set, List.getElem?_mapIdx, List.getElem?_mapIdx, List.length_mapIdx, List.getElem?_set]
  by_cases hi : k = i
  · subst hi
    by_cases hl : k < fs.length
    · simp [hl, vv_fv]
    · simp [hl]
  · simp [hi]
/-! values: positions for addresses; a float's bits for the static tables -/
def vv_rv (b0 : Nat) (tb : Nat → Nat) (v : Value) : Value := match v with
  | .ref k => .ref (b0 + k)
  | .float w => .ref (tb w.toNat)
  | v => v
def vv_st (b0 : Nat) (tb : Nat → Nat) (st : List Value) : List Value := st.map (vv_rv b0 tb)
def vv_L (b0 : Nat) (tb : Nat → Nat) (L : List (Nat × Value)) : List (Nat × Value) := L.map (fun q => (q.1, vv_rv b0 tb q.2))
theorem vv_cat (b0 : Nat) (tb : Nat → Nat) (v : Value) : (vv_rv b0 tb v).category = v.category := by cases v <;> rfl
theorem vv_L_at {b0 : Nat} {tb : Nat → Nat} {L : List (Nat × Value)} {j i : Nat} {v : Value} (h : L[j]? = some (i, v)) : (vv_L b0 tb L)[j]? = some (i, vv_rv b0 tb v) := by
  unfold vv_L
  rw [List.getElem?_map, h]
  rfl
def vv_put (i : Nat) (v : Value) (L : List (Nat × Value)) : List (Nat × Value) := (i, v) :: L.filter (fun q => !(q.1 == i) && !(q.1 + 1 == i && q.2.category == 2))
def vv_putl (i : Nat) (v : Value) (L : List (Nat × Value)) : List (Nat × Value) := (i, v) :: L.filter (fun q => !(q.1 == i) && (!(q.1 == i + 1) && !(q.1 + 1 == i && q.2.category == 2)))
theorem vv_L_put (b0 : Nat) (tb : Nat → Nat) (i : Nat) (v : Value) (L : List (Nat × Value)) : (i, vv_rv b0 tb v) :: (vv_L b0 tb L).filter (fun q => !(q.1 == i) && !(q.1 + 1 == i && q.2.category == 2)) = vv_L b0 tb (vv_put i v L) := by
  unfold vv_L vv_put
  rw [List.map_cons, List.filter_map]
  congr 2
  apply List.filter_congr
  intro q _
  simp [Function.comp, vv_cat]
theorem vv_L_putl (b0 : Nat) (tb : Nat → Nat) (i : Nat) (v : Value) (L : List (Nat × Value)) : (i, vv_rv b0 tb v) :: (vv_L b0 tb L).filter (fun q => !(q.1 == i) && (!(q.1 == i + 1) && !(q.1 + 1 == i && q.2.category == 2))) = vv_L b0 tb (vv_putl i v L) := by
  unfold vv_L vv_putl
  rw [List.map_cons, List.filter_map]
  congr 2
  apply List.filter_congr
  intro q _
  simp [Function.comp, vv_cat]
theorem vv_L_pick (b0 : Nat) (tb : Nat → Nat) (L : List (Nat × Value)) (ks : List Nat) : lv_pick (vv_L b0 tb L) ks = vv_L b0 tb (lv_pick L ks) := by
  unfold lv_pick vv_L
  rw [List.map_filterMap]
  congr 1
  funext k
  rw [List.getElem?_map]
/-! words -/
def vv_T : List Cond := lw_tbl.filter goodWord
def vv_isN (w : Cond) : Bool := match w with
  | .methodLinkNest .. => true
  | .fieldLinkNest .. => true
  | .arrayOver (.object _) => true
  | _ => false
def vv_N : List Cond := lw_tbl.filter vv_isN
theorem vv_mem {w : Cond} (i : Nat) (h : lw_tbl[i]? = some w) (hg : goodWord w = true) : w ∈ vv_T := List.mem_filter.mpr ⟨List.mem_of_getElem? h, hg⟩
theorem vv_memN {w : Cond} (i : Nat) (h : lw_tbl[i]? = some w) (hg : vv_isN w = true) : w ∈ vv_N := List.mem_filter.mpr ⟨List.mem_of_getElem? h, hg⟩
theorem vv_good {ws : List Cond} (h : ∀ w ∈ ws, w ∈ vv_T) : GoodIn vv_T ws := fun w hw => ⟨h w hw, good_of_word (List.mem_filter.mp (h w hw)).2⟩
def vv_Nw (U : State) : Prop := ∀ w ∈ vv_N, va_Nw w U
theorem vv_Nw.warm {s U : State} (hW : s.WarmedH U.vm) (h : vv_Nw s) : vv_Nw U := by
  intro w hw
  have h1 := (List.mem_filter.mp hw).2
  have h2 := h w hw
  cases w with
  | methodLinkNest a i x h => exact va_Nw.warmM hW h2
  | fieldLinkNest a i b n d h => exact va_Nw.warmF hW h2
  | arrayOver ty => cases ty with
    | object C => exact va_AO.moved hW.alike h2
    | _ => cases h1
  | _ => cases h1
theorem vv_Nw.of {s : State} {args : Array Value} (h : ∀ w ∈ lw_tbl, w.before args s = true) : vv_Nw s := by
  intro w hw
  have h1 := (List.mem_filter.mp hw).2
  have h2 := h w (List.mem_filter.mp hw).1
  cases w with
  | methodLinkNest a i x h => exact va_Nw.of rfl h2
  | fieldLinkNest a i b n d h => exact va_Nw.of rfl h2
  | arrayOver ty => cases ty with
    | object C => exact va_AO.of h2
    | _ => cases h1
  | _ => cases h1
/-! static tables -/
def vv_tbs : List (String × List Int32) := [("FIRST_TARGETS", [120, 160, 180, 240, 230, 60]), ("FIRST_NUMBERS", [2, 3, 6, 1]), ("LEAST_NUMBERS", [1, 1, 0, 0]), ("MOST_NUMBERS", [3, 20, 99, 9]), ("FIRST_CURVE", [40, 180, 2, 6, 190, 240]), ("LEAST_OF_CURVE", [1, 20, 0, 0, 20, 20]), ("MOST_OF_CURVE", [99, 300, 99, 99, 300, 300])]
def vv_Tb (b0 : Nat) (tb : Nat → Nat) (U : State) (H : Heap) : Prop := ∀ (i : Nat) (nm : String) (xs : List Int32), vv_tbs[i]? = some (nm, xs) → va_Z RX4 nm "[I" (.ref (tb i)) (vv_A b0) U H ∧ va_T .int (tb i) xs.length (fun j => .int (xs.getD j 0)) (vv_A b0) U H
theorem vv_Tb.next {b0 : Nat} {tb : Nat → Nat} {s U : State} {H : Heap} {locs : List Loc} (hvm : s.vm.Alike U.vm) (hS : va_S (vv_A b0) s.heap H locs) (h : vv_Tb b0 tb s s.heap) : vv_Tb b0 tb U H := by
  intro i nm xs hi
  obtain ⟨h1, h2⟩ := h i nm xs hi
  exact ⟨(va_Z.moved hvm h1).kept hS.2.1, (va_T.moved hvm h2).kept hS.2.1⟩
/-! the judgement -/
def vv_w (y : MethodName) (cc : ByteArray) (nL : Nat) (ret : Option FieldType) : List Cond := Cond.code y cc nL ret :: vv_T
def vv_R (d mc ms : Nat) : Room := { frames := d, cells := mc, slots := ms, locals := 36 * d }
def vv_Sc (sc : List Int32) (b0 : Nat) (tb : Nat → Nat) (s : State) : Prop := sc = [] ∨ (va_X (tb 7) sc.tail.length (fun j => sc.tail.getD j 0) s s.heap ∧ tb 7 < b0)
def vv_E (sc : List Int32) (own mname : String) (cc : ByteArray) (nL : Nat) (ret : Option FieldType) (p : Program) (s : State) (m : MethodId) (args : Array Value) (meth : Method) (c : Code) (D : va_G) (cA : Nat → ClassId) (b0 : Nat) (tb : Nat → Nat) (n0 : Nat) : Prop :=
  p.tables.exec = Jvm.exec ∧ c.code = cc ∧ meth.sig.returnType = ret ∧ c.maxLocals = nL ∧ s.vm.findClass own = some m.cls ∧ (∀ w ∈ vv_T, w.before args s = true) ∧ vv_Nw s ∧ vv_Tb b0 tb s s.heap ∧ va_K D vv_cl (vv_tys cA) s ∧ s.heap.size = b0 + n0 ∧ meth.name = mname ∧ vv_Sc sc b0 tb s
def vv_rt (cc : ByteArray) (ret : Option FieldType) (pc : Nat) (v : Option Value) : Prop := match v with
  | none => decode cc pc = .ok (.return_, 1) ∧ ret = none
  | some (.int x) => decode cc pc = .ok (.ireturn, 1) ∧ ∃ ty, ret = some ty ∧ narrow ty (.int x) = .int x
  | some (.long _) => decode cc pc = .ok (.lreturn, 1) ∧ ret = some .long
  | _ => False
def vv_H (cc : ByteArray) (ret : Option FieldType) (Fin : Option Value → List vv_Sh → vv_M → Prop) (p : Program) (l : Launch) (e : Env) (R : Room) (s : State) (m : MethodId) (args : Array Value) (below : List Frame) (meth : Method) (c : Code) (D : va_G) (cA : Nat → ClassId) (b0 : Nat) (tb : Nat → Nat) (n0 z0 : Nat) (Q : State → Prop) : Prop :=
  ∀ (v : Option Value) (S : List vv_Sh) (M : vv_M) (H : Heap) (locs : List Loc) (pc : Nat) (ls : Array Slot), vv_rt cc ret pc v → Fin v S M → n0 ≤ S.length → z0 ≤ vv_sz S → va_P D vv_cl (vv_ws b0 cA S M) H → va_S (vv_A b0) s.heap H locs →
    W p l e R s m args below meth c H locs (S.length - n0) (vv_sz S - z0) Q (F0 m pc ls (v.map (vv_rv b0 tb)).toList)
def vv_V (sc : List Int32) (own mname : String) (cc : ByteArray) (nL : Nat) (ret : Option FieldType) (R : Room) (n0 z0 : Nat) (Fin : Option Value → List vv_Sh → vv_M → Prop) (pc : Nat) (L : List (Nat × Value)) (st : List Value) (S : List vv_Sh) (M : vv_M) : Prop :=
  ∀ (p : Program) (l : Launch) (e : Env) (s : State) (m : MethodId) (args : Array Value) (below : List Frame) (meth : Method) (c : Code) (D : va_G) (cA : Nat → ClassId) (b0 : Nat) (tb : Nat → Nat) (Q : State → Prop) (H : Heap) (locs : List Loc) (ls : Array Slot),
  vv_E sc own mname cc nL ret p s m args meth c D cA b0 tb n0 → vv_H cc ret Fin p l e R s m args below meth c D cA b0 tb n0 z0 Q → n0 ≤ S.length → z0 ≤ vv_sz S → va_P D vv_cl (vv_ws b0 cA S M) H → va_S (vv_A b0) s.heap H locs → lv_has ls nL (vv_L b0 tb L) →
    W p l e R s m args below meth c H locs (S.length - n0) (vv_sz S - z0) Q (F0 m pc ls (vv_st b0 tb st))
/-- a method's contract: from the world (S, M) with the arguments As it comes to (S', M') with the answer r -/
def vv_Q (D : va_G) (cA : Nat → ClassId) (b0 : Nat) (tb : Nat → Nat) (S : List vv_Sh) (M : vv_M) (r : Option Value) : Array Value → State → Outcome → State → Prop := fun _ st oc t => oc = .returned (r.map (vv_rv b0 tb)) ∧ va_P D vv_cl (vv_ws b0 cA S M) t.heap ∧ va_F (vv_A b0) st t
def vv_B (D : va_G) (cA : Nat → ClassId) (b0 : Nat) (tb : Nat → Nat) (S : List vv_Sh) (M : vv_M) (U : State) : Prop := U.heap.size = b0 + S.length ∧ va_P D vv_cl (vv_ws b0 cA S M) U.heap ∧ va_K D vv_cl (vv_tys cA) U ∧ vv_Tb b0 tb U U.heap ∧ vv_Nw U
def vv_C (y : MethodName) (w : List Cond) (R : Room) (As : List Value) (S : List vv_Sh) (M : vv_M) (r : Option Value) (S' : List vv_Sh) (M' : vv_M) : Prop :=
  ∀ (l : Launch) (D : va_G) (cA : Nat → ClassId) (b0 : Nat) (tb : Nat → Nat), Met l y w R (va_Pc (vv_st b0 tb As) (vv_B D cA b0 tb S M)) (vv_Q D cA b0 tb S' M' r) R.cells R.slots (vv_A b0)
theorem vv_ofV {y : MethodName} {cc : ByteArray} {nL : Nat} {ret : Option FieldType} {R : Room} {As : List Value} {L : List (Nat × Value)} {S S' : List vv_Sh} {M M' : vv_M} {r : Option Value}
    (hy : plainFor y = true) (hsl : ((As.map Value.category).sum) ≤ nL) (hL : lv_args 0 As = L) (hc : S'.length = S.length + R.cells) (hz : vv_sz S' = vv_sz S + R.slots)
    (k : vv_V [] y.cls y.name cc nL ret R S.length (vv_sz S) (fun v S2 M2 => v = r ∧ S2 = S' ∧ M2 = M') 0 L [] S M) : vv_C y (vv_w y cc nL ret) R As S M r S' M' := by
  intro l D cA b0 tb
  refine va_MetF (cc := cc) (maxL := nL) (ret := ret) hy rfl ?_
  intro p e s m args below meth c s₁ B hml hv
  obtain ⟨rfl, hsz, hP, hK, hT, hN⟩ := hv
  have hx := B.exec
  have hb := B.bytes
  have hr := B.returns
  have hts := atoms_spec (ws := vv_w y cc nL ret) B.pre
  have hown : s.vm.findClass y.cls = some m.cls := findClass_of_methodNamed B.named
  have hlocks := B.notSynchronized
  have hin : meth.name = y.name := (name_of_methodNamed B.named B.method).1
  have hargs : ∀ (i : Nat) (As : List Value), lv_args i (vv_st b0 tb As) = vv_L b0 tb (lv_args i As) := by
    intro i As
    induction As generalizing i with
    | nil => rfl
    | cons v vs ih =>
      show (i, vv_rv b0 tb v) :: lv_args (if (vv_rv b0 tb v).category = 2 then i + 2 else i + 1) (vv_st b0 tb vs) = (i, vv_rv b0 tb v) :: vv_L b0 tb (lv_args (if v.category = 2 then i + 2 else i + 1) vs)
      rw [vv_cat, ih]
  have hlen : ∀ As : List Value, (lg_sl (vv_st b0 tb As)).length = (As.map Value.category).sum := by
    intro As
    induction As with
    | nil => rfl
    | cons v vs ih =>
      have e : lg_sl (vv_st b0 tb (v :: vs)) = (if (vv_rv b0 tb v).category = 2 then [Slot.val (vv_rv b0 tb v), Slot.second] else [Slot.val (vv_rv b0 tb v)]) ++ lg_sl (vv_st b0 tb vs) := rfl
      rw [e, List.length_append, ih, vv_cat, List.map_cons, List.sum_cons]
      rcases lv_cat v with h | h <;> simp [h]
  have hl := lv_entry (vv_st b0 tb As) (n := nL) (by rw [hlen]; exact hsl)
  rw [lg_entry_eq]
  generalize (lg_sl (vv_st b0 tb As) ++ List.replicate (nL - (lg_sl (vv_st b0 tb As)).length) Slot.unset).toArray = ls at hl ⊢
  rw [hargs, hL] at hl
  have K := k p l e s m (vv_st b0 tb As).toArray below meth c D cA b0 tb (MQ below (vv_Q D cA b0 tb S' M' r) (vv_st b0 tb As).toArray s R.cells R.slots (vv_A b0)) s.heap [] ls ⟨hx, hb, hr, hml, hown, fun w hw => hts w (List.mem_cons_of_mem _ hw), hN, hT, hK, hsz, hin, Or.inl rfl⟩ ?_ (Nat.le_refl _) (Nat.le_refl _) hP va_S.rf hl
  · rw [Nat.sub_self, Nat.sub_self] at K
    exact K
  · intro v S2 M2 H locs pc ls hrt hfin h1 h2 hP2 hS
    obtain ⟨rfl, rfl, rfl⟩ := hfin
    have e1 : S2.length - S.length = R.cells := by omega
    have e2 : vv_sz S2 - vv_sz S = R.slots := by omega
    rw [e1, e2]
    match v, hrt with
    | none, hrt => exact W.vret hx hb (hr.trans hrt.2) (fun t ht hW => ⟨rfl, by rw [ht]; exact hP2, hS.F ht⟩) hS.2.2 hrt.1 (hlocks := hlocks)
    | some (.int x), hrt =>
      obtain ⟨hd, ty, hty, hn⟩ := hrt
      exact W.zret hx hb (hr.trans hty) hn (fun t ht hW => ⟨rfl, by rw [ht]; exact hP2, hS.F ht⟩) hS.2.2 hd (hlocks := hlocks)
    | some (.long x), hrt => exact W.lret hx hb (hr.trans hrt.2) (fun t ht hW => ⟨rfl, by rw [ht]; exact hP2, hS.F ht⟩) hS.2.2 hrt.1 (hlocks := hlocks)
end
section
theorem vv_sz_set {S : List vv_Sh} {q : Nat} {sh sh' : vv_Sh} (h : S[q]? = some sh) (he : vv_ssz sh' = vv_ssz sh) : vv_sz (S.set q sh') = vv_sz S := by
  unfold vv_sz
  rw [List.map_set]
  have : (S.map vv_ssz).set q (vv_ssz sh') = S.map vv_ssz := by
    apply List.ext_getElem?
    intro i
    rw [List.getElem?_set, List.getElem?_map]
    by_cases hi : q = i
    · subst hi
      have hl := (List.getElem?_eq_some_iff.mp h).1
      rw [if_pos rfl, if_pos (by rw [List.length_map]; exact hl), h]
      exact congrArg some he
    · rw [if_neg hi]
  rw [this]
section VI
variable {sc : List Int32} {own mname : String} {cc : ByteArray} {nL : Nat} {ret : Option FieldType} {R : Room} {n0 z0 : Nat} {Fi : Option Value → List vv_Sh → vv_M → Prop} {pc : Nat} {L : List (Nat × Value)} {st : List Value} {S : List vv_Sh} {M : vv_M}
theorem vi_iconst {n : Int} {v : Int32} (hdg : decode cc pc = .ok (.iconst n, 1)) (hv : Int32.ofInt n = v) (k : vv_V sc own mname cc nL ret R n0 z0 Fi (pc + 1) L (.int v :: st) S M) : vv_V sc own mname cc nL ret R n0 z0 Fi pc L st S M := by
  intro p l e s m args below meth c D cA b0 tb Q H locs ls E Hh h1 h2 hP hS hls
  exact lv_iconst E.1 E.2.1 hdg hv (k p l e s m args below meth c D cA b0 tb Q H locs ls E Hh h1 h2 hP hS hls)
theorem vi_bipush {n : Int} {v : Int32} (hdg : decode cc pc = .ok (.bipush n, 2)) (hv : (Int8.ofInt n).toInt32 = v) (k : vv_V sc own mname cc nL ret R n0 z0 Fi (pc + 2) L (.int v :: st) S M) : vv_V sc own mname cc nL ret R n0 z0 Fi pc L st S M := by
  intro p l e s m args below meth c D cA b0 tb Q H locs ls E Hh h1 h2 hP hS hls
  exact lv_bipush E.1 E.2.1 hdg hv (k p l e s m args below meth c D cA b0 tb Q H locs ls E Hh h1 h2 hP hS hls)
theorem vi_sipush {n : Int} {v : Int32} (hdg : decode cc pc = .ok (.sipush n, 3)) (hv : (Int16.ofInt n).toInt32 = v) (k : vv_V sc own mname cc nL ret R n0 z0 Fi (pc + 3) L (.int v :: st) S M) : vv_V sc own mname cc nL ret R n0 z0 Fi pc L st S M := by
  intro p l e s m args below meth c D cA b0 tb Q H locs ls E Hh h1 h2 hP hS hls
  exact lv_sipush E.1 E.2.1 hdg hv (k p l e s m args below meth c D cA b0 tb Q H locs ls E Hh h1 h2 hP hS hls)
theorem vi_lconst {n : Fin 2} {v : Int64} (hdg : decode cc pc = .ok (.lconst n, 1)) (hv : Int64.ofNat (n : Nat) = v) (k : vv_V sc own mname cc nL ret R n0 z0 Fi (pc + 1) L (.long v :: st) S M) : vv_V sc own mname cc nL ret R n0 z0 Fi pc L st S M := by
  intro p l e s m args below meth c D cA b0 tb Q H locs ls E Hh h1 h2 hP hS hls
  exact lv_lconst E.1 E.2.1 hdg hv (k p l e s m args below meth c D cA b0 tb Q H locs ls E Hh h1 h2 hP hS hls)
theorem vi_ldc2 {index : Nat} {v : Int64} (hw : Cond.constantLong own index v ∈ vv_T) (hdg : decode cc pc = .ok (.ldc2_w index, 3)) (k : vv_V sc own mname cc nL ret R n0 z0 Fi (pc + 3) L (.long v :: st) S M) : vv_V sc own mname cc nL ret R n0 z0 Fi pc L st S M := by
  intro p l e s m args below meth c D cA b0 tb Q H locs ls E Hh h1 h2 hP hS hls
  exact lv_ldc2 E.1 E.2.1 E.2.2.2.2.1 (E.2.2.2.2.2.1 _ hw) hdg (k p l e s m args below meth c D cA b0 tb Q H locs ls E Hh h1 h2 hP hS hls)
theorem vi_iload_n {q : Fin 4} {i : Nat} {x : Int32} (j : Nat) (hdg : decode cc pc = .ok (.iload_n q, 1)) (hi : (q : Nat) = i) (hl : L[j]? = some (i, .int x)) (k : vv_V sc own mname cc nL ret R n0 z0 Fi (pc + 1) L (.int x :: st) S M) : vv_V sc own mname cc nL ret R n0 z0 Fi pc L st S M := by
  intro p l e s m args below meth c D cA b0 tb Q H locs ls E Hh h1 h2 hP hS hls
  exact lv_iload_n E.1 E.2.1 hdg hi (lv_at hls j (vv_L_at hl)) (k p l e s m args below meth c D cA b0 tb Q H locs ls E Hh h1 h2 hP hS hls)
theorem vi_iload {i : Nat} {x : Int32} (j : Nat) (hdg : decode cc pc = .ok (.iload i, 2)) (hl : L[j]? = some (i, .int x)) (k : vv_V sc own mname cc nL ret R n0 z0 Fi (pc + 2) L (.int x :: st) S M) : vv_V sc own mname cc nL ret R n0 z0 Fi pc L st S M := by
  intro p l e s m args below meth c D cA b0 tb Q H locs ls E Hh h1 h2 hP hS hls
  exact lv_iload E.1 E.2.1 hdg (lv_at hls j (vv_L_at hl)) (k p l e s m args below meth c D cA b0 tb Q H locs ls E Hh h1 h2 hP hS hls)
theorem vi_lload_n {q : Fin 4} {i : Nat} {x : Int64} (j : Nat) (hdg : decode cc pc = .ok (.lload_n q, 1)) (hi : (q : Nat) = i) (hl : L[j]? = some (i, .long x)) (k : vv_V sc own mname cc nL ret R n0 z0 Fi (pc + 1) L (.long x :: st) S M) : vv_V sc own mname cc nL ret R n0 z0 Fi pc L st S M := by
  intro p l e s m args below meth c D cA b0 tb Q H locs ls E Hh h1 h2 hP hS hls
  exact lv_lload_n E.1 E.2.1 hdg hi (lv_at hls j (vv_L_at hl)) (k p l e s m args below meth c D cA b0 tb Q H locs ls E Hh h1 h2 hP hS hls)
theorem vi_lload {i : Nat} {x : Int64} (j : Nat) (hdg : decode cc pc = .ok (.lload i, 2)) (hl : L[j]? = some (i, .long x)) (k : vv_V sc own mname cc nL ret R n0 z0 Fi (pc + 2) L (.long x :: st) S M) : vv_V sc own mname cc nL ret R n0 z0 Fi pc L st S M := by
  intro p l e s m args below meth c D cA b0 tb Q H locs ls E Hh h1 h2 hP hS hls
  exact lv_lload E.1 E.2.1 hdg (lv_at hls j (vv_L_at hl)) (k p l e s m args below meth c D cA b0 tb Q H locs ls E Hh h1 h2 hP hS hls)
theorem vi_aload_n {q : Fin 4} {i : Nat} {x : Nat} (j : Nat) (hdg : decode cc pc = .ok (.aload_n q, 1)) (hi : (q : Nat) = i) (hl : L[j]? = some (i, .ref x)) (k : vv_V sc own mname cc nL ret R n0 z0 Fi (pc + 1) L (.ref x :: st) S M) : vv_V sc own mname cc nL ret R n0 z0 Fi pc L st S M := by
  intro p l e s m args below meth c D cA b0 tb Q H locs ls E Hh h1 h2 hP hS hls
  exact lv_aload_n E.1 E.2.1 hdg hi (lv_at hls j (vv_L_at hl)) (k p l e s m args below meth c D cA b0 tb Q H locs ls E Hh h1 h2 hP hS hls)
theorem vi_aload {i : Nat} {x : Nat} (j : Nat) (hdg : decode cc pc = .ok (.aload i, 2)) (hl : L[j]? = some (i, .ref x)) (k : vv_V sc own mname cc nL ret R n0 z0 Fi (pc + 2) L (.ref x :: st) S M) : vv_V sc own mname cc nL ret R n0 z0 Fi pc L st S M := by
  intro p l e s m args below meth c D cA b0 tb Q H locs ls E Hh h1 h2 hP hS hls
  exact lv_aload E.1 E.2.1 hdg (lv_at hls j (vv_L_at hl)) (k p l e s m args below meth c D cA b0 tb Q H locs ls E Hh h1 h2 hP hS hls)
theorem vi_aloadf_n {q : Fin 4} {i : Nat} {x : UInt32} (j : Nat) (hdg : decode cc pc = .ok (.aload_n q, 1)) (hi : (q : Nat) = i) (hl : L[j]? = some (i, .float x)) (k : vv_V sc own mname cc nL ret R n0 z0 Fi (pc + 1) L (.float x :: st) S M) : vv_V sc own mname cc nL ret R n0 z0 Fi pc L st S M := by
  intro p l e s m args below meth c D cA b0 tb Q H locs ls E Hh h1 h2 hP hS hls
  exact lv_aload_n E.1 E.2.1 hdg hi (lv_at hls j (vv_L_at hl)) (k p l e s m args below meth c D cA b0 tb Q H locs ls E Hh h1 h2 hP hS hls)
theorem vi_istore_n {q : Fin 4} {i : Nat} {x : Int32} {L' : List (Nat × Value)} (hdg : decode cc pc = .ok (.istore_n q, 1)) (hi : (q : Nat) = i) (hn : i < nL) (hl : vv_put i (.int x) L = L') (k : vv_V sc own mname cc nL ret R n0 z0 Fi (pc + 1) L' st S M) : vv_V sc own mname cc nL ret R n0 z0 Fi pc L (.int x :: st) S M := by
  intro p l e s m args below meth c D cA b0 tb Q H locs ls E Hh h1 h2 hP hS hls
  subst hl
  exact lv_istore_n E.1 E.2.1 hdg hi hls hn (vv_L_put b0 tb i (.int x) L) (fun ls' hl' => k p l e s m args below meth c D cA b0 tb Q H locs ls' E Hh h1 h2 hP hS hl')
theorem vi_istore {i : Nat} {x : Int32} {L' : List (Nat × Value)} (hdg : decode cc pc = .ok (.istore i, 2)) (hn : i < nL) (hl : vv_put i (.int x) L = L') (k : vv_V sc own mname cc nL ret R n0 z0 Fi (pc + 2) L' st S M) : vv_V sc own mname cc nL ret R n0 z0 Fi pc L (.int x :: st) S M := by
  intro p l e s m args below meth c D cA b0 tb Q H locs ls E Hh h1 h2 hP hS hls
  subst hl
  exact lv_istore E.1 E.2.1 hdg hls hn (vv_L_put b0 tb i (.int x) L) (fun ls' hl' => k p l e s m args below meth c D cA b0 tb Q H locs ls' E Hh h1 h2 hP hS hl')
theorem vi_astore_n {q : Fin 4} {i : Nat} {x : Nat} {L' : List (Nat × Value)} (hdg : decode cc pc = .ok (.astore_n q, 1)) (hi : (q : Nat) = i) (hn : i < nL) (hl : vv_put i (.ref x) L = L') (k : vv_V sc own mname cc nL ret R n0 z0 Fi (pc + 1) L' st S M) : vv_V sc own mname cc nL ret R n0 z0 Fi pc L (.ref x :: st) S M := by
  intro p l e s m args below meth c D cA b0 tb Q H locs ls E Hh h1 h2 hP hS hls
  subst hl
  exact lv_astore_n E.1 E.2.1 hdg hi hls hn (vv_L_put b0 tb i (.ref x) L) (fun ls' hl' => k p l e s m args below meth c D cA b0 tb Q H locs ls' E Hh h1 h2 hP hS hl')
theorem vi_astore {i : Nat} {x : Nat} {L' : List (Nat × Value)} (hdg : decode cc pc = .ok (.astore i, 2)) (hn : i < nL) (hl : vv_put i (.ref x) L = L') (k : vv_V sc own mname cc nL ret R n0 z0 Fi (pc + 2) L' st S M) : vv_V sc own mname cc nL ret R n0 z0 Fi pc L (.ref x :: st) S M := by
  intro p l e s m args below meth c D cA b0 tb Q H locs ls E Hh h1 h2 hP hS hls
  subst hl
  exact lv_astore E.1 E.2.1 hdg hls hn (vv_L_put b0 tb i (.ref x) L) (fun ls' hl' => k p l e s m args below meth c D cA b0 tb Q H locs ls' E Hh h1 h2 hP hS hl')
theorem vi_lstore_n {q : Fin 4} {i : Nat} {x : Int64} {L' : List (Nat × Value)} (hdg : decode cc pc = .ok (.lstore_n q, 1)) (hi : (q : Nat) = i) (hn : i + 1 < nL) (hl : vv_putl i (.long x) L = L') (k : vv_V sc own mname cc nL ret R n0 z0 Fi (pc + 1) L' st S M) : vv_V sc own mname cc nL ret R n0 z0 Fi pc L (.long x :: st) S M := by
  intro p l e s m args below meth c D cA b0 tb Q H locs ls E Hh h1 h2 hP hS hls
  subst hl
  exact lv_lstore_n E.1 E.2.1 hdg hi hls hn (vv_L_putl b0 tb i (.long x) L) (fun ls' hl' => k p l e s m args below meth c D cA b0 tb Q H locs ls' E Hh h1 h2 hP hS hl')
theorem vi_iinc {i : Nat} {n : Int} {x v : Int32} {L' : List (Nat × Value)} (j : Nat) (hdg : decode cc pc = .ok (.iinc i n, 3)) (hj : L[j]? = some (i, .int x)) (hv : x + Int32.ofInt n = v) (hn : i < nL) (hl : vv_put i (.int v) L = L') (k : vv_V sc own mname cc nL ret R n0 z0 Fi (pc + 3) L' st S M) : vv_V sc own mname cc nL ret R n0 z0 Fi pc L st S M := by
  intro p l e s m args below meth c D cA b0 tb Q H locs ls E Hh h1 h2 hP hS hls
  subst hl
  exact lv_iinc E.1 E.2.1 hdg hls (vv_L_at hj) hv hn (vv_L_put b0 tb i (.int v) L) (fun ls' hl' => k p l e s m args below meth c D cA b0 tb Q H locs ls' E Hh h1 h2 hP hS hl')
theorem vi_iadd {x y : Int32} (hdg : decode cc pc = .ok (.iadd, 1)) (k : vv_V sc own mname cc nL ret R n0 z0 Fi (pc + 1) L (.int (x + y) :: st) S M) : vv_V sc own mname cc nL ret R n0 z0 Fi pc L (.int y :: .int x :: st) S M := by
  intro p l e s m args below meth c D cA b0 tb Q H locs ls E Hh h1 h2 hP hS hls
  exact lv_iadd E.1 E.2.1 hdg (k p l e s m args below meth c D cA b0 tb Q H locs ls E Hh h1 h2 hP hS hls)
theorem vi_isub {x y : Int32} (hdg : decode cc pc = .ok (.isub, 1)) (k : vv_V sc own mname cc nL ret R n0 z0 Fi (pc + 1) L (.int (x - y) :: st) S M) : vv_V sc own mname cc nL ret R n0 z0 Fi pc L (.int y :: .int x :: st) S M := by
  intro p l e s m args below meth c D cA b0 tb Q H locs ls E Hh h1 h2 hP hS hls
  exact lv_isub E.1 E.2.1 hdg (k p l e s m args below meth c D cA b0 tb Q H locs ls E Hh h1 h2 hP hS hls)
theorem vi_imul {x y : Int32} (hdg : decode cc pc = .ok (.imul, 1)) (k : vv_V sc own mname cc nL ret R n0 z0 Fi (pc + 1) L (.int (x * y) :: st) S M) : vv_V sc own mname cc nL ret R n0 z0 Fi pc L (.int y :: .int x :: st) S M := by
  intro p l e s m args below meth c D cA b0 tb Q H locs ls E Hh h1 h2 hP hS hls
  exact lv_imul E.1 E.2.1 hdg (k p l e s m args below meth c D cA b0 tb Q H locs ls E Hh h1 h2 hP hS hls)
theorem vi_iand {x y : Int32} (hdg : decode cc pc = .ok (.iand, 1)) (k : vv_V sc own mname cc nL ret R n0 z0 Fi (pc + 1) L (.int (x &&& y) :: st) S M) : vv_V sc own mname cc nL ret R n0 z0 Fi pc L (.int y :: .int x :: st) S M := by
  intro p l e s m args below meth c D cA b0 tb Q H locs ls E Hh h1 h2 hP hS hls
  exact lv_iand E.1 E.2.1 hdg (k p l e s m args below meth c D cA b0 tb Q H locs ls E Hh h1 h2 hP hS hls)
theorem vi_ior {x y : Int32} (hdg : decode cc pc = .ok (.ior, 1)) (k : vv_V sc own mname cc nL ret R n0 z0 Fi (pc + 1) L (.int (x ||| y) :: st) S M) : vv_V sc own mname cc nL ret R n0 z0 Fi pc L (.int y :: .int x :: st) S M := by
  intro p l e s m args below meth c D cA b0 tb Q H locs ls E Hh h1 h2 hP hS hls
  exact lv_ior E.1 E.2.1 hdg (k p l e s m args below meth c D cA b0 tb Q H locs ls E Hh h1 h2 hP hS hls)
theorem vi_ishl {x y : Int32} (hdg : decode cc pc = .ok (.ishl, 1)) (k : vv_V sc own mname cc nL ret R n0 z0 Fi (pc + 1) L (.int (x <<< (y &&& 31)) :: st) S M) : vv_V sc own mname cc nL ret R n0 z0 Fi pc L (.int y :: .int x :: st) S M := by
  intro p l e s m args below meth c D cA b0 tb Q H locs ls E Hh h1 h2 hP hS hls
  exact lv_ishl E.1 E.2.1 hdg (k p l e s m args below meth c D cA b0 tb Q H locs ls E Hh h1 h2 hP hS hls)
theorem vi_ishr {x y : Int32} (hdg : decode cc pc = .ok (.ishr, 1)) (k : vv_V sc own mname cc nL ret R n0 z0 Fi (pc + 1) L (.int (x >>> (y &&& 31)) :: st) S M) : vv_V sc own mname cc nL ret R n0 z0 Fi pc L (.int y :: .int x :: st) S M := by
  intro p l e s m args below meth c D cA b0 tb Q H locs ls E Hh h1 h2 hP hS hls
  exact lv_ishr E.1 E.2.1 hdg (k p l e s m args below meth c D cA b0 tb Q H locs ls E Hh h1 h2 hP hS hls)
theorem vi_idiv {x y : Int32} (hdg : decode cc pc = .ok (.idiv, 1)) (hne : ¬ y = 0) (k : vv_V sc own mname cc nL ret R n0 z0 Fi (pc + 1) L (.int (x / y) :: st) S M) : vv_V sc own mname cc nL ret R n0 z0 Fi pc L (.int y :: .int x :: st) S M := by
  intro p l e s m args below meth c D cA b0 tb Q H locs ls E Hh h1 h2 hP hS hls
  exact lv_idiv E.1 E.2.1 hdg hne (k p l e s m args below meth c D cA b0 tb Q H locs ls E Hh h1 h2 hP hS hls)
theorem vi_irem {x y : Int32} (hdg : decode cc pc = .ok (.irem, 1)) (hne : ¬ y = 0) (k : vv_V sc own mname cc nL ret R n0 z0 Fi (pc + 1) L (.int (x - x / y * y) :: st) S M) : vv_V sc own mname cc nL ret R n0 z0 Fi pc L (.int y :: .int x :: st) S M := by
  intro p l e s m args below meth c D cA b0 tb Q H locs ls E Hh h1 h2 hP hS hls
  exact lv_irem E.1 E.2.1 hdg hne (k p l e s m args below meth c D cA b0 tb Q H locs ls E Hh h1 h2 hP hS hls)
theorem vi_ineg {x : Int32} (hdg : decode cc pc = .ok (.ineg, 1)) (k : vv_V sc own mname cc nL ret R n0 z0 Fi (pc + 1) L (.int (-x) :: st) S M) : vv_V sc own mname cc nL ret R n0 z0 Fi pc L (.int x :: st) S M := by
  intro p l e s m args below meth c D cA b0 tb Q H locs ls E Hh h1 h2 hP hS hls
  exact lv_ineg E.1 E.2.1 hdg (k p l e s m args below meth c D cA b0 tb Q H locs ls E Hh h1 h2 hP hS hls)
theorem vi_ladd {x y : Int64} (hdg : decode cc pc = .ok (.ladd, 1)) (k : vv_V sc own mname cc nL ret R n0 z0 Fi (pc + 1) L (.long (x + y) :: st) S M) : vv_V sc own mname cc nL ret R n0 z0 Fi pc L (.long y :: .long x :: st) S M := by
  intro p l e s m args below meth c D cA b0 tb Q H locs ls E Hh h1 h2 hP hS hls
  exact lv_ladd E.1 E.2.1 hdg (k p l e s m args below meth c D cA b0 tb Q H locs ls E Hh h1 h2 hP hS hls)
theorem vi_lsub {x y : Int64} (hdg : decode cc pc = .ok (.lsub, 1)) (k : vv_V sc own mname cc nL ret R n0 z0 Fi (pc + 1) L (.long (x - y) :: st) S M) : vv_V sc own mname cc nL ret R n0 z0 Fi pc L (.long y :: .long x :: st) S M := by
  intro p l e s m args below meth c D cA b0 tb Q H locs ls E Hh h1 h2 hP hS hls
  exact lv_lsub E.1 E.2.1 hdg (k p l e s m args below meth c D cA b0 tb Q H locs ls E Hh h1 h2 hP hS hls)
theorem vi_land {x y : Int64} (hdg : decode cc pc = .ok (.land, 1)) (k : vv_V sc own mname cc nL ret R n0 z0 Fi (pc + 1) L (.long (x &&& y) :: st) S M) : vv_V sc own mname cc nL ret R n0 z0 Fi pc L (.long y :: .long x :: st) S M := by
  intro p l e s m args below meth c D cA b0 tb Q H locs ls E Hh h1 h2 hP hS hls
  exact lv_land E.1 E.2.1 hdg (k p l e s m args below meth c D cA b0 tb Q H locs ls E Hh h1 h2 hP hS hls)
theorem vi_lor {x y : Int64} (hdg : decode cc pc = .ok (.lor, 1)) (k : vv_V sc own mname cc nL ret R n0 z0 Fi (pc + 1) L (.long (x ||| y) :: st) S M) : vv_V sc own mname cc nL ret R n0 z0 Fi pc L (.long y :: .long x :: st) S M := by
  intro p l e s m args below meth c D cA b0 tb Q H locs ls E Hh h1 h2 hP hS hls
  exact lv_lor E.1 E.2.1 hdg (k p l e s m args below meth c D cA b0 tb Q H locs ls E Hh h1 h2 hP hS hls)
theorem vi_lushr {x : Int64} {y : Int32} (hdg : decode cc pc = .ok (.lushr, 1)) (k : vv_V sc own mname cc nL ret R n0 z0 Fi (pc + 1) L (.long ((x.toUInt64 >>> (y.toInt64.toUInt64 &&& Int64.toUInt64 63)).toInt64) :: st) S M) : vv_V sc own mname cc nL ret R n0 z0 Fi pc L (.int y :: .long x :: st) S M := by
  intro p l e s m args below meth c D cA b0 tb Q H locs ls E Hh h1 h2 hP hS hls
  exact lv_lushr E.1 E.2.1 hdg rfl (k p l e s m args below meth c D cA b0 tb Q H locs ls E Hh h1 h2 hP hS hls)
theorem vi_lshl {x : Int64} {y : Int32} (hdg : decode cc pc = .ok (.lshl, 1)) (k : vv_V sc own mname cc nL ret R n0 z0 Fi (pc + 1) L (.long (x <<< (y.toInt64 &&& 63)) :: st) S M) : vv_V sc own mname cc nL ret R n0 z0 Fi pc L (.int y :: .long x :: st) S M := by
  intro p l e s m args below meth c D cA b0 tb Q H locs ls E Hh h1 h2 hP hS hls
  exact lv_lshl E.1 E.2.1 hdg rfl (k p l e s m args below meth c D cA b0 tb Q H locs ls E Hh h1 h2 hP hS hls)
theorem vi_l2i {x : Int64} (hdg : decode cc pc = .ok (.l2i, 1)) (k : vv_V sc own mname cc nL ret R n0 z0 Fi (pc + 1) L (.int x.toInt32 :: st) S M) : vv_V sc own mname cc nL ret R n0 z0 Fi pc L (.long x :: st) S M := by
  intro p l e s m args below meth c D cA b0 tb Q H locs ls E Hh h1 h2 hP hS hls
  exact lv_l2i E.1 E.2.1 hdg rfl (k p l e s m args below meth c D cA b0 tb Q H locs ls E Hh h1 h2 hP hS hls)
theorem vi_dup {v : Value} (hdg : decode cc pc = .ok (.dup, 1)) (hv : v.category = 1) (k : vv_V sc own mname cc nL ret R n0 z0 Fi (pc + 1) L (v :: v :: st) S M) : vv_V sc own mname cc nL ret R n0 z0 Fi pc L (v :: st) S M := by
  intro p l e s m args below meth c D cA b0 tb Q H locs ls E Hh h1 h2 hP hS hls
  exact lv_dup E.1 E.2.1 hdg ((vv_cat b0 tb v).trans hv) (k p l e s m args below meth c D cA b0 tb Q H locs ls E Hh h1 h2 hP hS hls)
theorem vi_pop {v : Value} (hdg : decode cc pc = .ok (.pop, 1)) (hv : v.category = 1) (k : vv_V sc own mname cc nL ret R n0 z0 Fi (pc + 1) L st S M) : vv_V sc own mname cc nL ret R n0 z0 Fi pc L (v :: st) S M := by
  intro p l e s m args below meth c D cA b0 tb Q H locs ls E Hh h1 h2 hP hS hls
  exact lv_pop E.1 E.2.1 hdg ((vv_cat b0 tb v).trans hv) (k p l e s m args below meth c D cA b0 tb Q H locs ls E Hh h1 h2 hP hS hls)
theorem vi_dup2 {v w : Value} (hdg : decode cc pc = .ok (.dup2, 1)) (hv : v.category = 1) (hw : w.category = 1) (k : vv_V sc own mname cc nL ret R n0 z0 Fi (pc + 1) L (v :: w :: v :: w :: st) S M) : vv_V sc own mname cc nL ret R n0 z0 Fi pc L (v :: w :: st) S M := by
  intro p l e s m args below meth c D cA b0 tb Q H locs ls E Hh h1 h2 hP hS hls
  exact lv_dup2_11 E.1 E.2.1 hdg ((vv_cat b0 tb v).trans hv) ((vv_cat b0 tb w).trans hw) (k p l e s m args below meth c D cA b0 tb Q H locs ls E Hh h1 h2 hP hS hls)
theorem vi_if_eq {x : Int32} {off : Int} (tgt : Nat) (hdg : decode cc pc = .ok (.ifCond .eq off, 3)) (ht : (pc : Int) + off = (tgt : Int)) (kt : x = 0 → vv_V sc own mname cc nL ret R n0 z0 Fi tgt L st S M) (kf : ¬ x = 0 → vv_V sc own mname cc nL ret R n0 z0 Fi (pc + 3) L st S M) : vv_V sc own mname cc nL ret R n0 z0 Fi pc L (.int x :: st) S M := by
  intro p l e s m args below meth c D cA b0 tb Q H locs ls E Hh h1 h2 hP hS hls
  exact lv_if_eq E.1 E.2.1 hdg ht (fun h => kt h p l e s m args below meth c D cA b0 tb Q H locs ls E Hh h1 h2 hP hS hls) (fun h => kf h p l e s m args below meth c D cA b0 tb Q H locs ls E Hh h1 h2 hP hS hls)
theorem vi_if_ne {x : Int32} {off : Int} (tgt : Nat) (hdg : decode cc pc = .ok (.ifCond .ne off, 3)) (ht : (pc : Int) + off = (tgt : Int)) (kt : ¬ x = 0 → vv_V sc own mname cc nL ret R n0 z0 Fi tgt L st S M) (kf : x = 0 → vv_V sc own mname cc nL ret R n0 z0 Fi (pc + 3) L st S M) : vv_V sc own mname cc nL ret R n0 z0 Fi pc L (.int x :: st) S M := by
  intro p l e s m args below meth c D cA b0 tb Q H locs ls E Hh h1 h2 hP hS hls
  exact lv_if_ne E.1 E.2.1 hdg ht (fun h => kt h p l e s m args below meth c D cA b0 tb Q H locs ls E Hh h1 h2 hP hS hls) (fun h => kf h p l e s m args below meth c D cA b0 tb Q H locs ls E Hh h1 h2 hP hS hls)
theorem vi_if_lt {x : Int32} {off : Int} (tgt : Nat) (hdg : decode cc pc = .ok (.ifCond .lt off, 3)) (ht : (pc : Int) + off = (tgt : Int)) (kt : x < 0 → vv_V sc own mname cc nL ret R n0 z0 Fi tgt L st S M) (kf : ¬ x < 0 → vv_V sc own mname cc nL ret R n0 z0 Fi (pc + 3) L st S M) : vv_V sc own mname cc nL ret R n0 z0 Fi pc L (.int x :: st) S M := by
  intro p l e s m args below meth c D cA b0 tb Q H locs ls E Hh h1 h2 hP hS hls
  exact lv_if_lt E.1 E.2.1 hdg ht (fun h => kt h p l e s m args below meth c D cA b0 tb Q H locs ls E Hh h1 h2 hP hS hls) (fun h => kf h p l e s m args below meth c D cA b0 tb Q H locs ls E Hh h1 h2 hP hS hls)
theorem vi_if_ge {x : Int32} {off : Int} (tgt : Nat) (hdg : decode cc pc = .ok (.ifCond .ge off, 3)) (ht : (pc : Int) + off = (tgt : Int)) (kt : 0 ≤ x → vv_V sc own mname cc nL ret R n0 z0 Fi tgt L st S M) (kf : ¬ 0 ≤ x → vv_V sc own mname cc nL ret R n0 z0 Fi (pc + 3) L st S M) : vv_V sc own mname cc nL ret R n0 z0 Fi pc L (.int x :: st) S M := by
  intro p l e s m args below meth c D cA b0 tb Q H locs ls E Hh h1 h2 hP hS hls
  exact lv_if_ge E.1 E.2.1 hdg ht (fun h => kt h p l e s m args below meth c D cA b0 tb Q H locs ls E Hh h1 h2 hP hS hls) (fun h => kf h p l e s m args below meth c D cA b0 tb Q H locs ls E Hh h1 h2 hP hS hls)
theorem vi_if_gt {x : Int32} {off : Int} (tgt : Nat) (hdg : decode cc pc = .ok (.ifCond .gt off, 3)) (ht : (pc : Int) + off = (tgt : Int)) (kt : 0 < x → vv_V sc own mname cc nL ret R n0 z0 Fi tgt L st S M) (kf : ¬ 0 < x → vv_V sc own mname cc nL ret R n0 z0 Fi (pc + 3) L st S M) : vv_V sc own mname cc nL ret R n0 z0 Fi pc L (.int x :: st) S M := by
  intro p l e s m args below meth c D cA b0 tb Q H locs ls E Hh h1 h2 hP hS hls
  exact lv_if_gt E.1 E.2.1 hdg ht (fun h => kt h p l e s m args below meth c D cA b0 tb Q H locs ls E Hh h1 h2 hP hS hls) (fun h => kf h p l e s m args below meth c D cA b0 tb Q H locs ls E Hh h1 h2 hP hS hls)
theorem vi_if_le {x : Int32} {off : Int} (tgt : Nat) (hdg : decode cc pc = .ok (.ifCond .le off, 3)) (ht : (pc : Int) + off = (tgt : Int)) (kt : x ≤ 0 → vv_V sc own mname cc nL ret R n0 z0 Fi tgt L st S M) (kf : ¬ x ≤ 0 → vv_V sc own mname cc nL ret R n0 z0 Fi (pc + 3) L st S M) : vv_V sc own mname cc nL ret R n0 z0 Fi pc L (.int x :: st) S M := by
  intro p l e s m args below meth c D cA b0 tb Q H locs ls E Hh h1 h2 hP hS hls
  exact lv_if_le E.1 E.2.1 hdg ht (fun h => kt h p l e s m args below meth c D cA b0 tb Q H locs ls E Hh h1 h2 hP hS hls) (fun h => kf h p l e s m args below meth c D cA b0 tb Q H locs ls E Hh h1 h2 hP hS hls)
theorem vi_icmp_eq {x y : Int32} {off : Int} (tgt : Nat) (hdg : decode cc pc = .ok (.if_icmp .eq off, 3)) (ht : (pc : Int) + off = (tgt : Int)) (kt : x = y → vv_V sc own mname cc nL ret R n0 z0 Fi tgt L st S M) (kf : ¬ x = y → vv_V sc own mname cc nL ret R n0 z0 Fi (pc + 3) L st S M) : vv_V sc own mname cc nL ret R n0 z0 Fi pc L (.int y :: .int x :: st) S M := by
  intro p l e s m args below meth c D cA b0 tb Q H locs ls E Hh h1 h2 hP hS hls
  exact lv_icmp_eq E.1 E.2.1 hdg ht (fun h => kt h p l e s m args below meth c D cA b0 tb Q H locs ls E Hh h1 h2 hP hS hls) (fun h => kf h p l e s m args below meth c D cA b0 tb Q H locs ls E Hh h1 h2 hP hS hls)
theorem vi_icmp_ne {x y : Int32} {off : Int} (tgt : Nat) (hdg : decode cc pc = .ok (.if_icmp .ne off, 3)) (ht : (pc : Int) + off = (tgt : Int)) (kt : ¬ x = y → vv_V sc own mname cc nL ret R n0 z0 Fi tgt L st S M) (kf : x = y → vv_V sc own mname cc nL ret R n0 z0 Fi (pc + 3) L st S M) : vv_V sc own mname cc nL ret R n0 z0 Fi pc L (.int y :: .int x :: st) S M := by
  intro p l e s m args below meth c D cA b0 tb Q H locs ls E Hh h1 h2 hP hS hls
  exact lv_icmp_ne E.1 E.2.1 hdg ht (fun h => kt h p l e s m args below meth c D cA b0 tb Q H locs ls E Hh h1 h2 hP hS hls) (fun h => kf h p l e s m args below meth c D cA b0 tb Q H locs ls E Hh h1 h2 hP hS hls)
theorem vi_icmp_lt {x y : Int32} {off : Int} (tgt : Nat) (hdg : decode cc pc = .ok (.if_icmp .lt off, 3)) (ht : (pc : Int) + off = (tgt : Int)) (kt : x < y → vv_V sc own mname cc nL ret R n0 z0 Fi tgt L st S M) (kf : ¬ x < y → vv_V sc own mname cc nL ret R n0 z0 Fi (pc + 3) L st S M) : vv_V sc own mname cc nL ret R n0 z0 Fi pc L (.int y :: .int x :: st) S M := by
  intro p l e s m args below meth c D cA b0 tb Q H locs ls E Hh h1 h2 hP hS hls
  exact lv_icmp_lt E.1 E.2.1 hdg ht (fun h => kt h p l e s m args below meth c D cA b0 tb Q H locs ls E Hh h1 h2 hP hS hls) (fun h => kf h p l e s m args below meth c D cA b0 tb Q H locs ls E Hh h1 h2 hP hS hls)
theorem vi_icmp_ge {x y : Int32} {off : Int} (tgt : Nat) (hdg : decode cc pc = .ok (.if_icmp .ge off, 3)) (ht : (pc : Int) + off = (tgt : Int)) (kt : y ≤ x → vv_V sc own mname cc nL ret R n0 z0 Fi tgt L st S M) (kf : ¬ y ≤ x → vv_V sc own mname cc nL ret R n0 z0 Fi (pc + 3) L st S M) : vv_V sc own mname cc nL ret R n0 z0 Fi pc L (.int y :: .int x :: st) S M := by
  intro p l e s m args below meth c D cA b0 tb Q H locs ls E Hh h1 h2 hP hS hls
  exact lv_icmp_ge E.1 E.2.1 hdg ht (fun h => kt h p l e s m args below meth c D cA b0 tb Q H locs ls E Hh h1 h2 hP hS hls) (fun h => kf h p l e s m args below meth c D cA b0 tb Q H locs ls E Hh h1 h2 hP hS hls)
theorem vi_icmp_gt {x y : Int32} {off : Int} (tgt : Nat) (hdg : decode cc pc = .ok (.if_icmp .gt off, 3)) (ht : (pc : Int) + off = (tgt : Int)) (kt : y < x → vv_V sc own mname cc nL ret R n0 z0 Fi tgt L st S M) (kf : ¬ y < x → vv_V sc own mname cc nL ret R n0 z0 Fi (pc + 3) L st S M) : vv_V sc own mname cc nL ret R n0 z0 Fi pc L (.int y :: .int x :: st) S M := by
  intro p l e s m args below meth c D cA b0 tb Q H locs ls E Hh h1 h2 hP hS hls
  exact lv_icmp_gt E.1 E.2.1 hdg ht (fun h => kt h p l e s m args below meth c D cA b0 tb Q H locs ls E Hh h1 h2 hP hS hls) (fun h => kf h p l e s m args below meth c D cA b0 tb Q H locs ls E Hh h1 h2 hP hS hls)
theorem vi_icmp_le {x y : Int32} {off : Int} (tgt : Nat) (hdg : decode cc pc = .ok (.if_icmp .le off, 3)) (ht : (pc : Int) + off = (tgt : Int)) (kt : x ≤ y → vv_V sc own mname cc nL ret R n0 z0 Fi tgt L st S M) (kf : ¬ x ≤ y → vv_V sc own mname cc nL ret R n0 z0 Fi (pc + 3) L st S M) : vv_V sc own mname cc nL ret R n0 z0 Fi pc L (.int y :: .int x :: st) S M := by
  intro p l e s m args below meth c D cA b0 tb Q H locs ls E Hh h1 h2 hP hS hls
  exact lv_icmp_le E.1 E.2.1 hdg ht (fun h => kt h p l e s m args below meth c D cA b0 tb Q H locs ls E Hh h1 h2 hP hS hls) (fun h => kf h p l e s m args below meth c D cA b0 tb Q H locs ls E Hh h1 h2 hP hS hls)
theorem vi_goto {off : Int} (tgt : Nat) (hdg : decode cc pc = .ok (.goto off, 3)) (ht : (pc : Int) + off = (tgt : Int)) (k : vv_V sc own mname cc nL ret R n0 z0 Fi tgt L st S M) : vv_V sc own mname cc nL ret R n0 z0 Fi pc L st S M := by
  intro p l e s m args below meth c D cA b0 tb Q H locs ls E Hh h1 h2 hP hS hls
  exact lv_goto E.1 E.2.1 hdg ht (k p l e s m args below meth c D cA b0 tb Q H locs ls E Hh h1 h2 hP hS hls)
theorem vi_tableAt {dflt lo hi : Int} {offs : Array Int} {len : Nat} {x v : Int32} {off : Int} (tgt : Nat) (hx : x = v) (hdg : decode cc pc = .ok (.tableswitch dflt lo hi offs, len)) (h1' : ¬ v.toInt < lo) (h2' : ¬ hi < v.toInt) (ho : offs[(v.toInt - lo).toNat]? = some off) (ht : (pc : Int) + off = (tgt : Int)) (k : vv_V sc own mname cc nL ret R n0 z0 Fi tgt L st S M) : vv_V sc own mname cc nL ret R n0 z0 Fi pc L (.int x :: st) S M := by
  intro p l e s m args below meth c D cA b0 tb Q H locs ls E Hh h1 h2 hP hS hls
  subst hx
  exact lv_tableIn E.1 E.2.1 hdg h1' h2' ho ht (k p l e s m args below meth c D cA b0 tb Q H locs ls E Hh h1 h2 hP hS hls)
theorem vi_tableOut {dflt lo hi : Int} {offs : Array Int} {len : Nat} {x : Int32} (tgt : Nat) (hdg : decode cc pc = .ok (.tableswitch dflt lo hi offs, len)) (h : x.toInt < lo ∨ hi < x.toInt) (ht : (pc : Int) + dflt = (tgt : Int)) (k : vv_V sc own mname cc nL ret R n0 z0 Fi tgt L st S M) : vv_V sc own mname cc nL ret R n0 z0 Fi pc L (.int x :: st) S M := by
  intro p l e s m args below meth c D cA b0 tb Q H locs ls E Hh h1 h2 hP hS hls
  exact lv_tableOut E.1 E.2.1 hdg h ht (k p l e s m args below meth c D cA b0 tb Q H locs ls E Hh h1 h2 hP hS hls)
theorem vi_lookup {dflt : Int} {ps : Array (Int × Int)} {len : Nat} {x : Int32} {off : Int} (tgt : Nat) (hdg : decode cc pc = .ok (.lookupswitch dflt ps, len)) (hp : (ps.toList.zip (ps.toList.drop 1)).all (fun (a, next) => a.1 < next.1) = true) (ho : Op.lookupswitch.offset ps.toList dflt x.toInt = off) (ht : (pc : Int) + off = (tgt : Int)) (k : vv_V sc own mname cc nL ret R n0 z0 Fi tgt L st S M) : vv_V sc own mname cc nL ret R n0 z0 Fi pc L (.int x :: st) S M := by
  intro p l e s m args below meth c D cA b0 tb Q H locs ls E Hh h1 h2 hP hS hls
  exact lv_lookup E.1 E.2.1 hdg hp ho ht (k p l e s m args below meth c D cA b0 tb Q H locs ls E Hh h1 h2 hP hS hls)
theorem vi_sub {L' : List (Nat × Value)} (ks : List Nat) (hl : lv_pick L ks = L') (k : vv_V sc own mname cc nL ret R n0 z0 Fi pc L' st S M) : vv_V sc own mname cc nL ret R n0 z0 Fi pc L st S M := by
  intro p l e s m args below meth c D cA b0 tb Q H locs ls E Hh h1 h2 hP hS hls
  exact k p l e s m args below meth c D cA b0 tb Q H locs ls E Hh h1 h2 hP hS (lv_sub hls ks (by rw [vv_L_pick, hl]))
theorem vi_ret {v : Option Value} (hst : st = v.toList) (hrt : vv_rt cc ret pc v) (hf : Fi v S M) : vv_V sc own mname cc nL ret R n0 z0 Fi pc L st S M := by
  intro p l e s m args below meth c D cA b0 tb Q H locs ls E Hh h1 h2 hP hS hls
  subst hst
  have K := Hh v S M H locs pc ls hrt hf h1 h2 hP hS
  have e : vv_st b0 tb v.toList = (v.map (vv_rv b0 tb)).toList := by cases v <;> rfl
  rw [e]
  exact K
theorem vi_geti {index ci q : Nat} {C : String} {T : u_T} {N : Nat} {fs : List (Option (Option Nat))} (k : Nat) (hf : fs[k]? = some none) (hsh : S[q]? = some (.inr (.inr (ci, fs)))) (hcl : vv_cl[ci]? = some (C, T, N)) (hin : ∀ w ∈ u_ws C T N, w ∈ vv_T) (hk : k < N) (hw : Cond.fieldLink own index (T k).1 (T k).2.1 (T k).2.2.1 ∈ vv_T) (hdg : decode cc pc = .ok (.getfield index, 3)) (kk : vv_V sc own mname cc nL ret R n0 z0 Fi (pc + 3) L (.int (M q k) :: st) S M) : vv_V sc own mname cc nL ret R n0 z0 Fi pc L (.ref q :: st) S M := by
  intro p l e s m args below meth c D cA b0 tb Q H locs ls E Hh h1 h2 hP hS hls
  exact va_get E.1 E.2.1 E.2.2.2.2.2.1 hin E.2.2.2.2.1 E.2.2.2.2.2.2.2.2.1 hP q (vv_at b0 cA M hsh) hcl k hk (E.2.2.2.2.2.1 _ hw) (fun _ h9 => h9) (vv_fs_at hf) hdg (kk p l e s m args below meth c D cA b0 tb Q H locs ls E Hh h1 h2 hP hS hls)
theorem vi_getr {index ci q : Nat} {C : String} {T : u_T} {N : Nat} {fs : List (Option (Option Nat))} (k : Nat) {t : Nat} (hf : fs[k]? = some (some (some t))) (hsh : S[q]? = some (.inr (.inr (ci, fs)))) (hcl : vv_cl[ci]? = some (C, T, N)) (hin : ∀ w ∈ u_ws C T N, w ∈ vv_T) (hk : k < N) (hw : Cond.fieldLink own index (T k).1 (T k).2.1 (T k).2.2.1 ∈ vv_T) (hdg : decode cc pc = .ok (.getfield index, 3)) (kk : vv_V sc own mname cc nL ret R n0 z0 Fi (pc + 3) L (.ref t :: st) S M) : vv_V sc own mname cc nL ret R n0 z0 Fi pc L (.ref q :: st) S M := by
  intro p l e s m args below meth c D cA b0 tb Q H locs ls E Hh h1 h2 hP hS hls
  exact va_get E.1 E.2.1 E.2.2.2.2.2.1 hin E.2.2.2.2.1 E.2.2.2.2.2.2.2.2.1 hP q (vv_at b0 cA M hsh) hcl k hk (E.2.2.2.2.2.1 _ hw) (fun _ h9 => h9) (vv_fs_at hf) hdg (kk p l e s m args below meth c D cA b0 tb Q H locs ls E Hh h1 h2 hP hS hls)
theorem vi_puti {index ci q : Nat} {C : String} {T : u_T} {N : Nat} {fs : List (Option (Option Nat))} {x : Int32} {M' : vv_M} (k : Nat) (hf : fs[k]? = some none) (hM : va_up M q (upd (M q) k x) = M') (hsh : S[q]? = some (.inr (.inr (ci, fs)))) (hcl : vv_cl[ci]? = some (C, T, N)) (hin : ∀ w ∈ u_ws C T N, w ∈ vv_T) (ty0 : Nat → FieldType) (hty : ∀ k, k < N → parseFieldDescriptor (T k).2.2.1 = some (ty0 k)) (hnm : ∀ a, a < N → ∀ b, b < N → a ≠ b → (T a).2.1 ≠ (T b).2.1) (hk : k < N) (hfin : (T k).2.2.2 = false) (hd : parseFieldDescriptor (T k).2.2.1 = some .int) (hw : Cond.fieldLink own index (T k).1 (T k).2.1 (T k).2.2.1 ∈ vv_T) (hdg : decode cc pc = .ok (.putfield index, 3)) (kk : vv_V sc own mname cc nL ret R n0 z0 Fi (pc + 3) L st S M') : vv_V sc own mname cc nL ret R n0 z0 Fi pc L (.int x :: .ref q :: st) S M := by
  intro p l e s m args below meth c D cA b0 tb Q H locs ls E Hh h1 h2 hP hS hls
  subst hM
  have hl := (List.getElem?_eq_some_iff.mp hf).1
  refine va_put E.1 E.2.1 E.2.2.2.2.2.1 hin ty0 hty hnm E.2.2.2.2.1 E.2.2.2.2.2.2.2.2.1 hP (vv_Dd b0 cA S M) hS q (vv_at b0 cA M hsh) hcl k hk (E.2.2.2.2.2.1 _ hw) (fun _ h9 => h9) hfin (ty := .int) hd rfl rfl (by rw [vv_fs_len]; exact hl) hdg (fun H1 locs1 hP1 hD1 hS1 => ?_)
  have ee : (vv_ws b0 cA S M).set q (b0 + q, .inr (ci, (vv_fs b0 (M q) fs).set k (.int x))) = vv_ws b0 cA S (va_up M q (upd (M q) k x)) := by
    rw [vv_fs_int hf, ← vv_set (M' := va_up M q (upd (M q) k x)) hsh (fun j hj => if_neg hj)]
    rw [show va_up M q (upd (M q) k x) q = upd (M q) k x from if_pos rfl]
    rfl
  have hP1 : va_P D vv_cl ((vv_ws b0 cA S M).set q (b0 + q, .inr (ci, (vv_fs b0 (M q) fs).set k (.int x)))) H1 := hP1
  rw [ee] at hP1
  exact kk p l e s m args below meth c D cA b0 tb Q H1 locs1 ls E Hh h1 h2 hP1 hS1 hls
theorem vi_putr {index ci q t : Nat} {C : String} {T : u_T} {N : Nat} {fs : List (Option (Option Nat))} {ty : FieldType} {S' : List vv_Sh} (k : Nat) (hf : k < fs.length) (hS' : S.set q (.inr (.inr (ci, fs.set k (some (some t))))) = S') (hsh : S[q]? = some (.inr (.inr (ci, fs)))) (hcl : vv_cl[ci]? = some (C, T, N)) (hin : ∀ w ∈ u_ws C T N, w ∈ vv_T) (ty0 : Nat → FieldType) (hty : ∀ k, k < N → parseFieldDescriptor (T k).2.2.1 = some (ty0 k)) (hnm : ∀ a, a < N → ∀ b, b < N → a ≠ b → (T a).2.1 ≠ (T b).2.1) (hk : k < N) (hfin : (T k).2.2.2 = true) (hdecl : (T k).1 = own) (hini : mname = "<init>") (hd : parseFieldDescriptor (T k).2.2.1 = some ty) (hnw : ∀ t : Nat, narrow ty (.ref t) = .ref t) (hft : ∀ t : Nat, fits ty (.ref t) = true) (hw : Cond.fieldLink own index (T k).1 (T k).2.1 (T k).2.2.1 ∈ vv_T) (hdg : decode cc pc = .ok (.putfield index, 3)) (kk : vv_V sc own mname cc nL ret R n0 z0 Fi (pc + 3) L st S' M) : vv_V sc own mname cc nL ret R n0 z0 Fi pc L (.ref t :: .ref q :: st) S M := by
  intro p l e s m args below meth c D cA b0 tb Q H locs ls E Hh h1 h2 hP hS hls
  subst hS'
  refine va_putF E.1 E.2.1 E.2.2.2.2.2.1 hin ty0 hty hnm E.2.2.2.2.1 E.2.2.2.2.2.2.2.2.1 hP (vv_Dd b0 cA S M) hS q (vv_at b0 cA M hsh) hcl k hk (E.2.2.2.2.2.1 _ hw) (fun _ h9 => h9) hfin (E.2.2.2.2.2.2.2.2.2.2.1.trans hini) hdecl (ty := ty) hd (hnw _) (hft _) (by rw [vv_fs_len]; exact hf) hdg (fun H1 locs1 hP1 hD1 hS1 => ?_)
  have ee : (vv_ws b0 cA S M).set q (b0 + q, .inr (ci, (vv_fs b0 (M q) fs).set k (.ref (b0 + t)))) = vv_ws b0 cA (S.set q (.inr (.inr (ci, fs.set k (some (some t)))))) M := by
    rw [vv_fs_ref, ← vv_setS]
    rfl
  have hP1 : va_P D vv_cl ((vv_ws b0 cA S M).set q (b0 + q, .inr (ci, (vv_fs b0 (M q) fs).set k (.ref (b0 + t))))) H1 := hP1
  rw [ee] at hP1
  have hlen : (S.set q (.inr (.inr (ci, fs.set k (some (some t)))))).length = S.length := List.length_set
  have hsz : vv_sz (S.set q (.inr (.inr (ci, fs.set k (some (some t)))))) = vv_sz S := vv_sz_set hsh (by show (fs.set k _).length = fs.length; exact List.length_set)
  have K := kk p l e s m args below meth c D cA b0 tb Q H1 locs1 ls E Hh (by rw [hlen]; exact h1) (by rw [hsz]; exact h2) hP1 hS1 hls
  rw [hlen, hsz] at K
  exact K
theorem vi_iald {q n : Nat} {i : Int32} (hsh : S[q]? = some (.inl (0, n))) (hin : vp_in i n) (hdg : decode cc pc = .ok (.iaload, 1)) (kk : vv_V sc own mname cc nL ret R n0 z0 Fi (pc + 1) L (.int (M q i.toNatClampNeg) :: st) S M) : vv_V sc own mname cc nL ret R n0 z0 Fi pc L (.int i :: .ref q :: st) S M := by
  intro p l e s m args below meth c D cA b0 tb Q H locs ls E Hh h1 h2 hP hS hls
  exact va_iald E.1 E.2.1 E.2.2.2.2.2.2.2.2.1 hP q 0 (vv_at b0 cA M hsh) rfl hin hdg (kk p l e s m args below meth c D cA b0 tb Q H locs ls E Hh h1 h2 hP hS hls)
theorem vi_zald {q n : Nat} {i : Int32} (hsh : S[q]? = some (.inl (1, n))) (hin : vp_in i n) (hdg : decode cc pc = .ok (.baload, 1)) (kk : vv_V sc own mname cc nL ret R n0 z0 Fi (pc + 1) L (.int (M q i.toNatClampNeg) :: st) S M) : vv_V sc own mname cc nL ret R n0 z0 Fi pc L (.int i :: .ref q :: st) S M := by
  intro p l e s m args below meth c D cA b0 tb Q H locs ls E Hh h1 h2 hP hS hls
  exact va_zald E.1 E.2.1 E.2.2.2.2.2.2.2.2.1 hP q 1 (vv_at b0 cA M hsh) rfl hin hdg (kk p l e s m args below meth c D cA b0 tb Q H locs ls E Hh h1 h2 hP hS hls)
theorem vi_iast {q n : Nat} {i x : Int32} {M' : vv_M} (hsh : S[q]? = some (.inl (0, n))) (hin : vp_in i n) (hM : va_up M q (upd (M q) i.toNatClampNeg x) = M') (hdg : decode cc pc = .ok (.iastore, 1)) (kk : vv_V sc own mname cc nL ret R n0 z0 Fi (pc + 1) L st S M') : vv_V sc own mname cc nL ret R n0 z0 Fi pc L (.int x :: .int i :: .ref q :: st) S M := by
  intro p l e s m args below meth c D cA b0 tb Q H locs ls E Hh h1 h2 hP hS hls
  subst hM
  refine va_iast E.1 E.2.1 E.2.2.2.2.2.2.2.2.1 hP (vv_Dd b0 cA S M) hS q 0 (vv_at b0 cA M hsh) rfl hin hdg (fun H1 locs1 hP1 hD1 hS1 => ?_)
  have ee : (vv_ws b0 cA S M).set q (b0 + q, .inl (cA 0, n, .inl (upd (M q) i.toNatClampNeg x))) = vv_ws b0 cA S (va_up M q (upd (M q) i.toNatClampNeg x)) := by
    rw [← vv_set (M' := va_up M q (upd (M q) i.toNatClampNeg x)) hsh (fun j hj => if_neg hj)]
    rw [show va_up M q (upd (M q) i.toNatClampNeg x) q = upd (M q) i.toNatClampNeg x from if_pos rfl]
    rfl
  rw [ee] at hP1
  exact kk p l e s m args below meth c D cA b0 tb Q H1 locs1 ls E Hh h1 h2 hP1 hS1 hls
theorem vi_zast {q n : Nat} {i x : Int32} {M' : vv_M} (hsh : S[q]? = some (.inl (1, n))) (hin : vp_in i n) (hM : va_up M q (upd (M q) i.toNatClampNeg (vp_nar .boolean x)) = M') (hdg : decode cc pc = .ok (.bastore, 1)) (kk : vv_V sc own mname cc nL ret R n0 z0 Fi (pc + 1) L st S M') : vv_V sc own mname cc nL ret R n0 z0 Fi pc L (.int x :: .int i :: .ref q :: st) S M := by
  intro p l e s m args below meth c D cA b0 tb Q H locs ls E Hh h1 h2 hP hS hls
  subst hM
  refine va_zast E.1 E.2.1 E.2.2.2.2.2.2.2.2.1 hP (vv_Dd b0 cA S M) hS q 1 (vv_at b0 cA M hsh) rfl hin hdg (fun H1 locs1 hP1 hD1 hS1 => ?_)
  have ee : (vv_ws b0 cA S M).set q (b0 + q, .inl (cA 1, n, .inl (upd (M q) i.toNatClampNeg (vp_nar .boolean x)))) = vv_ws b0 cA S (va_up M q (upd (M q) i.toNatClampNeg (vp_nar .boolean x))) := by
    rw [← vv_set (M' := va_up M q (upd (M q) i.toNatClampNeg (vp_nar .boolean x))) hsh (fun j hj => if_neg hj)]
    rw [show va_up M q (upd (M q) i.toNatClampNeg (vp_nar .boolean x)) q = upd (M q) i.toNatClampNeg (vp_nar .boolean x) from if_pos rfl]
    rfl
  rw [ee] at hP1
  exact kk p l e s m args below meth c D cA b0 tb Q H1 locs1 ls E Hh h1 h2 hP1 hS1 hls
theorem vi_aald2 {q n fil base stride : Nat} {i : Int32} (hsh : S[q]? = some (.inr (.inl (2, n, fil, base, stride)))) (hin : vp_in i n) (hfil : i.toNatClampNeg < fil) (hdg : decode cc pc = .ok (.aaload, 1)) (kk : vv_V sc own mname cc nL ret R n0 z0 Fi (pc + 1) L (.ref (base + stride * i.toNatClampNeg) :: st) S M) : vv_V sc own mname cc nL ret R n0 z0 Fi pc L (.int i :: .ref q :: st) S M := by
  intro p l e s m args below meth c D cA b0 tb Q H locs ls E Hh h1 h2 hP hS hls
  refine va_aldq (C := RX2) E.1 E.2.1 E.2.2.2.2.2.2.2.2.1 hP q 2 (vv_at b0 cA M hsh) rfl hin hdg ?_
  unfold vv_rq
  rw [if_pos hfil]
  exact kk p l e s m args below meth c D cA b0 tb Q H locs ls E Hh h1 h2 hP hS hls
theorem vi_aald3 {q n fil base stride : Nat} {i : Int32} (hsh : S[q]? = some (.inr (.inl (3, n, fil, base, stride)))) (hin : vp_in i n) (hfil : i.toNatClampNeg < fil) (hdg : decode cc pc = .ok (.aaload, 1)) (kk : vv_V sc own mname cc nL ret R n0 z0 Fi (pc + 1) L (.ref (base + stride * i.toNatClampNeg) :: st) S M) : vv_V sc own mname cc nL ret R n0 z0 Fi pc L (.int i :: .ref q :: st) S M := by
  intro p l e s m args below meth c D cA b0 tb Q H locs ls E Hh h1 h2 hP hS hls
  refine va_aldq (C := RX1) E.1 E.2.1 E.2.2.2.2.2.2.2.2.1 hP q 3 (vv_at b0 cA M hsh) rfl hin hdg ?_
  unfold vv_rq
  rw [if_pos hfil]
  exact kk p l e s m args below meth c D cA b0 tb Q H locs ls E Hh h1 h2 hP hS hls
end VI
end
section
section VCALL
variable {p : Program} {l : Launch} {e : Env} {R : Room} {s : State} {m : MethodId} {args : Array Value} {below : List Frame} {meth : Method} {c : Code} {H : Heap} {locs : List Loc} {cells slots : Nat} {Q : State → Prop}
variable {pc : Nat} {ls : Array Slot} {rest st0 : List Value} {a : Array Value} {mc ms : Nat}
/-- behind a call by contract -/
theorem vv_call {D : va_G} {cA : Nat → ClassId} {b0 : Nat} {tb : Nat → Nat} {S' : List vv_Sh} {M' : vv_M} {r : Option Value} (hr : va_Run p l e R s m args below meth c H locs cells slots mc ms (F0 m pc ls st0) rest (vv_Q D cA b0 tb S' M' r a) (vv_A b0)) (hS : va_S (vv_A b0) s.heap H locs)
    (kk : ∀ (H1 : Heap) (locs1 : List Loc), va_P D vv_cl (vv_ws b0 cA S' M') H1 → va_S (vv_A b0) s.heap H1 locs1 → W p l e R s m args below meth c H1 locs1 (cells + mc) (slots + ms) Q (F0 m (pc + 3) ls ((r.map (vv_rv b0 tb)).toList ++ rest))) : W p l e R s m args below meth c H locs cells slots Q (F0 m pc ls st0) := by
  intro T hT X
  obtain ⟨v, st₀, t, T', L, h0, X', hL, e1, e2, ⟨hv, hp, hz, hk⟩, st⟩ := hr T hT X
  obtain rfl : v = r.map (vv_rv b0 tb) := by injection hv
  rw [h0] at hz hk
  obtain ⟨t2, a1, b1⟩ := kk T'.heap (locs ++ L) (by rw [e1]; exact hp)
    ⟨Nat.le_trans hS.1 (by rw [e1]; exact hz), fun q h1 h2 => by rw [e1, hk q (Nat.lt_of_lt_of_le h1 hS.1) h2]; exact hS.2.1 q h1 h2, fun q hq => by
      rcases List.mem_append.mp hq with h | h
      · exact hS.2.2 q h
      · exact hL q h⟩ T' rfl X'
  exact ⟨t2, st t2 a1, b1⟩
/-- the heap ends where the world ends -/
theorem vv_size {D : va_G} {cA : Nat → ClassId} {b0 n0 : Nat} {S : List vv_Sh} {M : vv_M} {T : State} (hT : T.heap = H) (X : Stand p l e R s m args below meth c T locs (S.length - n0) slots) (hn : s.heap.size = b0 + n0) (h1 : n0 ≤ S.length) (hP : va_P D vv_cl (vv_ws b0 cA S M) H) (hS : va_S (vv_A b0) s.heap H locs) : H.size = b0 + S.length := by
  have hu := X.heapSize
  rw [hT, hn] at hu
  have hlo := hS.1
  rw [hn] at hlo
  rcases Nat.eq_zero_or_pos S.length with h0 | h0
  · omega
  · have hl : S.length - 1 < S.length := by omega
    have ha := (hP (S.length - 1) _ (vv_at b0 cA M (List.getElem?_eq_getElem hl))).lt
    have ha' : b0 + (S.length - 1) < H.size := ha
    omega
end VCALL
theorem vv_blind {D : va_G} {cA : Nat → ClassId} {b0 : Nat} {tb : Nat → Nat} {S : List vv_Sh} {M : vv_M} {av : List Value} : FrameBlind (va_Pc av (vv_B D cA b0 tb S M)) := by
  intro a U g mk q
  obtain ⟨h0, h1, h2, h3, h4, h5⟩ := q
  have hvm : U.vm.Alike (U.calling g mk a).vm := Vm.Alike.refl U.vm
  refine ⟨h0, h1, h2, va_K.moved (u := U) (U := U.calling g mk a) hvm h3, fun i nm xs hi => ?_, fun w hw => ?_⟩
  · obtain ⟨g1, g2⟩ := h4 i nm xs hi
    exact ⟨va_Z.moved (u := U) (U := U.calling g mk a) hvm g1, va_T.moved (u := U) (U := U.calling g mk a) hvm g2⟩
  · have hw2 := (List.mem_filter.mp hw).2
    have h6 := h5 w hw
    cases w with
    | methodLinkNest a i x h => exact va_Nw.same rfl (u := U) (U := U.calling g mk _) rfl h6
    | fieldLinkNest a i b n d h => exact va_Nw.same rfl (u := U) (U := U.calling g mk _) rfl h6
    | arrayOver ty => cases ty with
      | object C => exact va_AO.moved (u := U) (U := U.calling g mk _) (Vm.Alike.refl U.vm) h6
      | _ => cases hw2
    | _ => cases hw2
theorem vv_next {sc : List Int32} {own mname : String} {cc : ByteArray} {nL : Nat} {ret : Option FieldType} {p : Program} {s : State} {m : MethodId} {args : Array Value} {meth : Method} {c : Code} {D : va_G} {cA : Nat → ClassId} {b0 : Nat} {tb : Nat → Nat} {n0 : Nat} {S : List vv_Sh} {M : vv_M} {H : Heap} {locs : List Loc} {As : List Value}
    (E : vv_E sc own mname cc nL ret p s m args meth c D cA b0 tb n0) (hz : H.size = b0 + S.length) (hP : va_P D vv_cl (vv_ws b0 cA S M) H) (hS : va_S (vv_A b0) s.heap H locs) : ∀ U : State, U.heap = H → s.WarmedH U.vm → va_Pc (vv_st b0 tb As) (vv_B D cA b0 tb S M) (vv_st b0 tb As).toArray U := by
  intro U hU hW
  obtain ⟨-, -, -, -, -, -, hN, hT, hK, -, -⟩ := E
  refine ⟨rfl, by rw [hU]; exact hz, by rw [hU]; exact hP, va_K.moved hW.alike hK, ?_, hN.warm hW⟩
  rw [hU]
  exact vv_Tb.next hW.alike hS hT
theorem vv_catsum (b0 : Nat) (tb : Nat → Nat) (st : List Value) : ((vv_st b0 tb st).map fun v => v.category).sum = (st.map fun v => v.category).sum := by
  unfold vv_st
  rw [List.map_map]
  congr 1
  apply List.map_congr_left
  intro v _
  exact vv_cat b0 tb v
theorem vv_rev (b0 : Nat) (tb : Nat → Nat) (As st : List Value) : vv_st b0 tb (As.reverse ++ st) = (vv_st b0 tb As).reverse ++ vv_st b0 tb st := by
  unfold vv_st
  rw [List.map_append, List.map_reverse]
def vv_yok (y : MethodName) (n : Nat) : Prop := y.cls ≠ "java/lang/invoke/MethodHandle" ∧ y.cls ≠ "java/lang/invoke/VarHandle" ∧ (parseMethodDescriptor y.desc).map (fun d => d.parameters.length) = some n
def vv_rm (R : Room) (n0 z0 : Nat) (S : List vv_Sh) (R' : Room) : Prop := S.length - n0 + R'.cells ≤ R.cells ∧ vv_sz S - z0 + R'.slots ≤ R.slots
def vv_fr (R R' : Room) (nL' : Nat) : Prop := R'.frames + 1 ≤ R.frames ∧ 8 + (nL' + 11) + R'.locals ≤ R.locals
section VI2
variable {sc : List Int32} {own mname : String} {cc : ByteArray} {nL : Nat} {ret : Option FieldType} {R : Room} {n0 z0 : Nat} {Fi : Option Value → List vv_Sh → vv_M → Prop} {pc : Nat} {L : List (Nat × Value)} {st stk : List Value} {S S' : List vv_Sh} {M M' : vv_M}
variable {idx : Nat} {y : MethodName} {cc' : ByteArray} {nL' : Nat} {ret' : Option FieldType} {R' : Room} {As : List Value} {r : Option Value}
theorem vv_goes {H : Heap} {locs : List Loc} {p : Program} {l : Launch} {e : Env} {s : State} {m : MethodId} {args : Array Value} {below : List Frame} {meth : Method} {c : Code} {D : va_G} {cA : Nat → ClassId} {b0 : Nat} {tb : Nat → Nat} {Q : State → Prop} {ls : Array Slot} {a : Array Value} {st0 : List Value}
    (hr : va_Run p l e R s m args below meth c H locs (S.length - n0) (vv_sz S - z0) R'.cells R'.slots (F0 m pc ls st0) (vv_st b0 tb st) (vv_Q D cA b0 tb S' M' r a) (vv_A b0)) (hS : va_S (vv_A b0) s.heap H locs) (hlen : S'.length = S.length + R'.cells) (hsz : vv_sz S' = vv_sz S + R'.slots)
    (E : vv_E sc own mname cc nL ret p s m args meth c D cA b0 tb n0) (Hh : vv_H cc ret Fi p l e R s m args below meth c D cA b0 tb n0 z0 Q) (h1 : n0 ≤ S.length) (h2 : z0 ≤ vv_sz S) (hls : lv_has ls nL (vv_L b0 tb L))
    (k : vv_V sc own mname cc nL ret R n0 z0 Fi (pc + 3) L (r.toList ++ st) S' M') : W p l e R s m args below meth c H locs (S.length - n0) (vv_sz S - z0) Q (F0 m pc ls st0) := by
  refine vv_call hr hS (fun H1 locs1 hP1 hS1 => ?_)
  have K := k p l e s m args below meth c D cA b0 tb Q H1 locs1 ls E Hh (by omega) (by omega) hP1 hS1 hls
  have e1 : S.length - n0 + R'.cells = S'.length - n0 := by omega
  have e2 : vv_sz S - z0 + R'.slots = vv_sz S' - z0 := by omega
  have e3 : (r.map (vv_rv b0 tb)).toList ++ vv_st b0 tb st = vv_st b0 tb (r.toList ++ st) := by cases r <;> rfl
  rw [e1, e2, e3]
  exact K
theorem vi_callV {q ci : Nat} {fs : List (Option (Option Nat))} {T : u_T} {N : Nat} (hC : vv_C y (vv_w y cc' nL' ret') R' (.ref q :: As) S M r S' M') (hst : stk = As.reverse ++ .ref q :: st) (hy : vv_yok y As.length)
    (w1 : Cond.methodLink own idx y ∈ vv_T) (w2 : Cond.instanceMethod y ∈ vv_T) (w3 : Cond.selects y.cls y y ∈ vv_T) (w4 : Cond.initialized y.cls ∈ vv_T) (w5 : Cond.code y cc' nL' ret' ∈ vv_T) (hsh : S[q]? = some (.inr (.inr (ci, fs)))) (hcl : vv_cl[ci]? = some (y.cls, T, N))
    (hfr : vv_fr R R' nL') (hrm : vv_rm R n0 z0 S R') (hcs : (st.map fun v => v.category).sum ≤ 8) (hlen : S'.length = S.length + R'.cells) (hsz : vv_sz S' = vv_sz S + R'.slots) (hdg : decode cc pc = .ok (.invokevirtual idx, 3))
    (k : vv_V sc own mname cc nL ret R n0 z0 Fi (pc + 3) L (r.toList ++ st) S' M') : vv_V sc own mname cc nL ret R n0 z0 Fi pc L stk S M := by
  intro p l e s m args below meth c D cA b0 tb Q H locs ls E Hh h1 h2 hP hS hls T hT X
  subst hst
  have hz := vv_size hT X E.2.2.2.2.2.2.2.2.2.1 h1 hP hS
  have hG : GoodIn vv_T (wsV own idx y.cls y (vv_w y cc' nL' ret')) := vv_good (fun w hw => by
    simp only [wsV, vv_w, List.mem_append, List.mem_cons, List.not_mem_nil, or_false] at hw
    rcases hw with (rfl | rfl | rfl | rfl) | (rfl | h)
    · exact w1
    · exact w2
    · exact w3
    · exact w4
    · exact w5
    · exact h)
  refine vv_goes (va_runV (As := vv_st b0 tb As) (b := b0 + q) (rest := vv_st b0 tb st) ⟨E.1, E.2.1, E.2.2.2.1, E.2.2.2.2.1, E.2.2.2.2.2.1⟩ (hC l D cA b0 tb) (cwV As.length E.2.2.2.2.2.1 hG rfl rfl rfl ⟨rfl, hy⟩ hfr) ⟨vv_blind, va_recv E.2.2.2.2.2.2.2.2.1 hP hcl (vv_at b0 cA M hsh), vv_next (As := .ref q :: As) E hz hP hS⟩ rfl (by simp [vv_st]) hls.1 ?_ (lv_room (by rw [vv_catsum]; exact hcs)) hdg hrm) hS hlen hsz E Hh h1 h2 hls k T hT X
  show vv_st b0 tb (As.reverse ++ .ref q :: st) = _
  rw [vv_rev]
  rfl
theorem vi_callI {q ci : Nat} {fs : List (Option (Option Nat))} {T : u_T} {N : Nat} (hC : vv_C y (vv_w y cc' nL' none) R' (.ref q :: As) S M r S' M') (hst : stk = As.reverse ++ .ref q :: st) (hy : vv_yok y As.length) (hy1 : y.name = "<init>")
    (w1 : Cond.methodLink own idx y ∈ vv_T) (w2 : Cond.instanceMethod y ∈ vv_T) (w4 : Cond.initialized y.cls ∈ vv_T) (w5 : Cond.code y cc' nL' none ∈ vv_T)
    (hfr : vv_fr R R' nL') (hrm : vv_rm R n0 z0 S R') (hcs : (st.map fun v => v.category).sum ≤ 8) (hlen : S'.length = S.length + R'.cells) (hsz : vv_sz S' = vv_sz S + R'.slots) (hdg : decode cc pc = .ok (.invokespecial idx, 3))
    (k : vv_V sc own mname cc nL ret R n0 z0 Fi (pc + 3) L (r.toList ++ st) S' M') : vv_V sc own mname cc nL ret R n0 z0 Fi pc L stk S M := by
  intro p l e s m args below meth c D cA b0 tb Q H locs ls E Hh h1 h2 hP hS hls T hT X
  subst hst
  have hz := vv_size hT X E.2.2.2.2.2.2.2.2.2.1 h1 hP hS
  have hG : GoodIn vv_T (vv_w y cc' nL' none) := vv_good (fun w hw => by
    simp only [vv_w, List.mem_cons] at hw
    rcases hw with rfl | h
    · exact w5
    · exact h)
  refine vv_goes (va_runI (As := vv_st b0 tb As) (b := b0 + q) (rest := vv_st b0 tb st) ⟨E.1, E.2.1, E.2.2.2.1, E.2.2.2.2.1, E.2.2.2.2.2.1⟩ (hC l D cA b0 tb) (cwI As.length E.2.2.2.2.2.1 hG rfl rfl rfl (E.2.2.2.2.2.1 _ w4) (E.2.2.2.2.2.1 _ w1) (E.2.2.2.2.2.1 _ w2) hy1 hy hfr) ⟨vv_blind, vv_next (As := .ref q :: As) E hz hP hS⟩ rfl (by simp [vv_st]) hls.1 ?_ (lv_room (by rw [vv_catsum]; exact hcs)) hdg hrm) hS hlen hsz E Hh h1 h2 hls k T hT X
  show vv_st b0 tb (As.reverse ++ .ref q :: st) = _
  rw [vv_rev]
  rfl
theorem vi_callIN {q ci : Nat} {fs : List (Option (Option Nat))} {T : u_T} {N : Nat} {host : String} (hC : vv_C y (vv_w y cc' nL' none) R' (.ref q :: As) S M r S' M') (hst : stk = As.reverse ++ .ref q :: st) (hy : vv_yok y As.length) (hy1 : y.name = "<init>")
    (w1 : Cond.methodLinkNest own idx y host ∈ vv_N) (w2 : Cond.instanceMethod y ∈ vv_T) (w4 : Cond.initialized y.cls ∈ vv_T) (w5 : Cond.code y cc' nL' none ∈ vv_T)
    (hfr : vv_fr R R' nL') (hrm : vv_rm R n0 z0 S R') (hcs : (st.map fun v => v.category).sum ≤ 8) (hlen : S'.length = S.length + R'.cells) (hsz : vv_sz S' = vv_sz S + R'.slots) (hdg : decode cc pc = .ok (.invokespecial idx, 3))
    (k : vv_V sc own mname cc nL ret R n0 z0 Fi (pc + 3) L (r.toList ++ st) S' M') : vv_V sc own mname cc nL ret R n0 z0 Fi pc L stk S M := by
  intro p l e s m args below meth c D cA b0 tb Q H locs ls E Hh h1 h2 hP hS hls T hT X
  subst hst
  have hz := vv_size hT X E.2.2.2.2.2.2.2.2.2.1 h1 hP hS
  have hG : GoodIn vv_T (vv_w y cc' nL' none) := vv_good (fun w hw => by
    simp only [vv_w, List.mem_cons] at hw
    rcases hw with rfl | h
    · exact w5
    · exact h)
  refine vv_goes (va_runIN (As := vv_st b0 tb As) (b := b0 + q) (rest := vv_st b0 tb st) (host := host) ⟨E.1, E.2.1, E.2.2.2.1, E.2.2.2.2.1, E.2.2.2.2.2.1⟩ (hC l D cA b0 tb) ⟨va_cnB As.length E.2.2.2.2.2.1 hG rfl rfl rfl (E.2.2.2.2.2.2.1 _ w1) (E.2.2.2.2.2.1 _ w4) hy hfr, hy1, E.2.2.2.2.2.1 _ w2⟩ ⟨vv_blind, vv_next (As := .ref q :: As) E hz hP hS⟩ rfl (by simp [vv_st]) hls.1 ?_ (lv_room (by rw [vv_catsum]; exact hcs)) hdg hrm) hS hlen hsz E Hh h1 h2 hls k T hT X
  show vv_st b0 tb (As.reverse ++ .ref q :: st) = _
  rw [vv_rev]
  rfl
theorem vi_callS (hC : vv_C y (vv_w y cc' nL' ret') R' As S M r S' M') (hst : stk = As.reverse ++ st) (hy : vv_yok y As.length)
    (w1 : Cond.methodLink own idx y ∈ vv_T) (w2 : Cond.static y ∈ vv_T) (w4 : Cond.initialized y.cls ∈ vv_T) (w5 : Cond.code y cc' nL' ret' ∈ vv_T)
    (hfr : vv_fr R R' nL') (hrm : vv_rm R n0 z0 S R') (hcs : (st.map fun v => v.category).sum ≤ 8) (hlen : S'.length = S.length + R'.cells) (hsz : vv_sz S' = vv_sz S + R'.slots) (hdg : decode cc pc = .ok (.invokestatic idx, 3))
    (k : vv_V sc own mname cc nL ret R n0 z0 Fi (pc + 3) L (r.toList ++ st) S' M') : vv_V sc own mname cc nL ret R n0 z0 Fi pc L stk S M := by
  intro p l e s m args below meth c D cA b0 tb Q H locs ls E Hh h1 h2 hP hS hls T hT X
  subst hst
  have hz := vv_size hT X E.2.2.2.2.2.2.2.2.2.1 h1 hP hS
  have hG : GoodIn vv_T (va_wsS own idx y (vv_w y cc' nL' ret')) := vv_good (fun w hw => by
    simp only [va_wsS, vv_w, List.mem_append, List.mem_cons, List.not_mem_nil, or_false] at hw
    rcases hw with (rfl | rfl | rfl) | (rfl | h)
    · exact w1
    · exact w2
    · exact w4
    · exact w5
    · exact h)
  refine vv_goes (va_runS (As := vv_st b0 tb As) (rest := vv_st b0 tb st) ⟨E.1, E.2.1, E.2.2.2.1, E.2.2.2.2.1, E.2.2.2.2.2.1⟩ (hC l D cA b0 tb) (va_cwS As.length E.2.2.2.2.2.1 hG rfl rfl rfl hy hfr) ⟨vv_blind, vv_next (As := As) E hz hP hS⟩ rfl (by simp [vv_st]) hls.1 ?_ (lv_room (by rw [vv_catsum]; exact hcs)) hdg hrm) hS hlen hsz E Hh h1 h2 hls k T hT X
  show vv_st b0 tb (As.reverse ++ st) = _
  rw [vv_rev]
theorem vi_callSN {host : String} (hC : vv_C y (vv_w y cc' nL' ret') R' As S M r S' M') (hst : stk = As.reverse ++ st) (hy : vv_yok y As.length)
    (w1 : Cond.methodLinkNest own idx y host ∈ vv_N) (w2 : Cond.static y ∈ vv_T) (w4 : Cond.initialized y.cls ∈ vv_T) (w5 : Cond.code y cc' nL' ret' ∈ vv_T)
    (hfr : vv_fr R R' nL') (hrm : vv_rm R n0 z0 S R') (hcs : (st.map fun v => v.category).sum ≤ 8) (hlen : S'.length = S.length + R'.cells) (hsz : vv_sz S' = vv_sz S + R'.slots) (hdg : decode cc pc = .ok (.invokestatic idx, 3))
    (k : vv_V sc own mname cc nL ret R n0 z0 Fi (pc + 3) L (r.toList ++ st) S' M') : vv_V sc own mname cc nL ret R n0 z0 Fi pc L stk S M := by
  intro p l e s m args below meth c D cA b0 tb Q H locs ls E Hh h1 h2 hP hS hls T hT X
  subst hst
  have hz := vv_size hT X E.2.2.2.2.2.2.2.2.2.1 h1 hP hS
  have hG : GoodIn vv_T (vv_w y cc' nL' ret') := vv_good (fun w hw => by
    simp only [vv_w, List.mem_cons] at hw
    rcases hw with rfl | h
    · exact w5
    · exact h)
  refine vv_goes (va_runSN (As := vv_st b0 tb As) (rest := vv_st b0 tb st) (host := host) ⟨E.1, E.2.1, E.2.2.2.1, E.2.2.2.2.1, E.2.2.2.2.2.1⟩ (hC l D cA b0 tb) ⟨va_cnB As.length E.2.2.2.2.2.1 hG rfl rfl rfl (E.2.2.2.2.2.2.1 _ w1) (E.2.2.2.2.2.1 _ w4) hy hfr, E.2.2.2.2.2.1 _ w2, trivial⟩ ⟨vv_blind, vv_next (As := As) E hz hP hS⟩ rfl (by simp [vv_st]) hls.1 ?_ (lv_room (by rw [vv_catsum]; exact hcs)) hdg hrm) hS hlen hsz E Hh h1 h2 hls k T hT X
  show vv_st b0 tb (As.reverse ++ st) = _
  rw [vv_rev]
/-- System.arraycopy from one int row of the world to another -/
theorem vi_copy {q1 q2 n1 n2 : Nat} {sp dp n : Int32} (hs1 : S[q1]? = some (.inl (0, n1))) (hs2 : S[q2]? = some (.inl (0, n2))) (h1' : ¬ sp < 0) (h2' : ¬ dp < 0) (h3' : ¬ n < 0) (h4' : sp.toNatClampNeg + n.toNatClampNeg ≤ n1) (h5' : dp.toNatClampNeg + n.toNatClampNeg ≤ n2)
    (w1 : Cond.methodLink own idx arraycopyName ∈ vv_T) (w2 : Cond.native arraycopyName ∈ vv_T) (w3 : Cond.static arraycopyName ∈ vv_T) (w4 : Cond.initialized "java/lang/System" ∈ vv_T) (hR1 : 1 ≤ R.frames) (hR2 : (st.map fun v => v.category).sum + (nativeFrameWords "java/lang/System" "arraycopy" 5 + 11) ≤ R.locals)
    (hM : va_up M q2 (va_cpy (M q1) (M q2) sp.toNatClampNeg dp.toNatClampNeg n.toNatClampNeg) = M') (hdg : decode cc pc = .ok (.invokestatic idx, 3))
    (kk : vv_V sc own mname cc nL ret R n0 z0 Fi (pc + 3) L st S M') : vv_V sc own mname cc nL ret R n0 z0 Fi pc L (.int n :: .int dp :: .ref q2 :: .int sp :: .ref q1 :: st) S M := by
  intro p l e s m args below meth c D cA b0 tb Q H locs ls E Hh h1 h2 hP hS hls
  subst hM
  refine va_copyi E.1 E.2.1 (E.2.2.2.1.trans hls.1.symm) E.2.2.2.2.1 (E.2.2.2.2.2.1 _ w1) (E.2.2.2.2.2.1 _ w2) (E.2.2.2.2.2.1 _ w3) (E.2.2.2.2.2.1 _ w4) E.2.2.2.2.2.2.2.2.1 hP (vv_Dd b0 cA S M) hS q1 q2 0 0 (vv_at b0 cA M hs1) (vv_at b0 cA M hs2) rfl rfl rfl h1' h2' h3' h4' h5' (fun _ _ => rfl) hR1 (by rw [show List.map (vv_rv b0 tb) st = vv_st b0 tb st from rfl, vv_catsum]; exact hR2) hdg (fun H1 locs1 hP1 hD1 hS1 => ?_)
  have ee : (vv_ws b0 cA S M).set q2 (b0 + q2, .inl (cA 0, n2, .inl (va_cpy (M q1) (M q2) sp.toNatClampNeg dp.toNatClampNeg n.toNatClampNeg))) = vv_ws b0 cA S (va_up M q2 (va_cpy (M q1) (M q2) sp.toNatClampNeg dp.toNatClampNeg n.toNatClampNeg)) := by
    rw [← vv_set (M' := va_up M q2 (va_cpy (M q1) (M q2) sp.toNatClampNeg dp.toNatClampNeg n.toNatClampNeg)) hs2 (fun j hj => if_neg hj)]
    rw [show va_up M q2 (va_cpy (M q1) (M q2) sp.toNatClampNeg dp.toNatClampNeg n.toNatClampNeg) q2 = va_cpy (M q1) (M q2) sp.toNatClampNeg dp.toNatClampNeg n.toNatClampNeg from if_pos rfl]
    rfl
  rw [ee] at hP1
  exact kk p l e s m args below meth c D cA b0 tb Q H1 locs1 ls E Hh h1 h2 hP1 hS1 hls
/-- a static table, and one of its places -/
theorem vi_gets {i : Nat} {nm host : String} {xs : List Int32} (w : UInt32) (hi : w.toNat = i) (ht : vv_tbs[i]? = some (nm, xs)) (w1 : Cond.fieldLinkNest own idx RX4 nm "[I" host ∈ vv_N) (hdg : decode cc pc = .ok (.getstatic idx, 3))
    (kk : vv_V sc own mname cc nL ret R n0 z0 Fi (pc + 3) L (.float w :: st) S M) : vv_V sc own mname cc nL ret R n0 z0 Fi pc L st S M := by
  intro p l e s m args below meth c D cA b0 tb Q H locs ls E Hh h1 h2 hP hS hls
  subst hi
  exact va_getsN E.1 E.2.1 (E.2.2.2.2.2.2.2.1 _ nm xs ht).1 hS E.2.2.2.2.1 (va_Nw.use rfl (E.2.2.2.2.2.2.1 _ w1)) (fun _ h9 => h9) hdg (kk p l e s m args below meth c D cA b0 tb Q H locs ls E Hh h1 h2 hP hS hls)
theorem vi_tald {w : UInt32} {i : Nat} {nm : String} {xs : List Int32} {j : Int32} (hi : w.toNat = i) (ht : vv_tbs[i]? = some (nm, xs)) (hin : vp_in j xs.length) (hdg : decode cc pc = .ok (.iaload, 1))
    (kk : vv_V sc own mname cc nL ret R n0 z0 Fi (pc + 1) L (.int (xs.getD j.toNatClampNeg 0) :: st) S M) : vv_V sc own mname cc nL ret R n0 z0 Fi pc L (.int j :: .float w :: st) S M := by
  intro p l e s m args below meth c D cA b0 tb Q H locs ls E Hh h1 h2 hP hS hls
  subst hi
  exact va_ti E.1 E.2.1 (E.2.2.2.2.2.2.2.1 _ nm xs ht).2 hS hin rfl hdg (kk p l e s m args below meth c D cA b0 tb Q H locs ls E Hh h1 h2 hP hS hls)
end VI2
end
section
theorem wu_X0 : ∀ w ∈ u_ws RX0 TX0 3, w ∈ vv_T := fun w hw => List.mem_filter.mpr ⟨(by decide +kernel : ∀ w ∈ u_ws RX0 TX0 3, w ∈ lw_tbl) w hw, (by decide +kernel : ∀ w ∈ u_ws RX0 TX0 3, goodWord w = true) w hw⟩
theorem wu_X1 : ∀ w ∈ u_ws RX1 TX1 3, w ∈ vv_T := fun w hw => List.mem_filter.mpr ⟨(by decide +kernel : ∀ w ∈ u_ws RX1 TX1 3, w ∈ lw_tbl) w hw, (by decide +kernel : ∀ w ∈ u_ws RX1 TX1 3, goodWord w = true) w hw⟩
theorem wu_X2 : ∀ w ∈ u_ws RX2 TX2 9, w ∈ vv_T := fun w hw => List.mem_filter.mpr ⟨(by decide +kernel : ∀ w ∈ u_ws RX2 TX2 9, w ∈ lw_tbl) w hw, (by decide +kernel : ∀ w ∈ u_ws RX2 TX2 9, goodWord w = true) w hw⟩
theorem wu_X3 : ∀ w ∈ u_ws RX3 TX3 6, w ∈ vv_T := fun w hw => List.mem_filter.mpr ⟨(by decide +kernel : ∀ w ∈ u_ws RX3 TX3 6, w ∈ lw_tbl) w hw, (by decide +kernel : ∀ w ∈ u_ws RX3 TX3 6, goodWord w = true) w hw⟩
theorem wu_X4 : ∀ w ∈ u_ws RX4 TX4 4, w ∈ vv_T := fun w hw => List.mem_filter.mpr ⟨(by decide +kernel : ∀ w ∈ u_ws RX4 TX4 4, w ∈ lw_tbl) w hw, (by decide +kernel : ∀ w ∈ u_ws RX4 TX4 4, goodWord w = true) w hw⟩
theorem wu_X5 : ∀ w ∈ u_ws RX5 TX5 8, w ∈ vv_T := fun w hw => List.mem_filter.mpr ⟨(by decide +kernel : ∀ w ∈ u_ws RX5 TX5 8, w ∈ lw_tbl) w hw, (by decide +kernel : ∀ w ∈ u_ws RX5 TX5 8, goodWord w = true) w hw⟩
theorem wI_L : Cond.initialized RL ∈ vv_T := vv_mem 50 (by decide +kernel) rfl
theorem wI_X4 : Cond.initialized RX4 ∈ vv_T := vv_mem 51 (by decide +kernel) rfl
theorem wI_X1 : Cond.initialized RX1 ∈ vv_T := vv_mem 52 (by decide +kernel) rfl
theorem wI_X2 : Cond.initialized RX2 ∈ vv_T := vv_mem 53 (by decide +kernel) rfl
theorem wI_sys : Cond.initialized "java/lang/System" ∈ vv_T := vv_mem 54 (by decide +kernel) rfl
theorem wI_X0 : Cond.initialized RX0 ∈ vv_T := vv_mem 55 (by decide +kernel) rfl
theorem wI_X3 : Cond.initialized RX3 ∈ vv_T := vv_mem 56 (by decide +kernel) rfl
theorem wI_X5 : Cond.initialized RX5 ∈ vv_T := vv_mem 57 (by decide +kernel) rfl
theorem wI_J9 : Cond.initialized RJ9 ∈ vv_T := vv_mem 58 (by decide +kernel) rfl
theorem wI_J13 : Cond.initialized RJ13 ∈ vv_T := vv_mem 59 (by decide +kernel) rfl
theorem wc_X0_init : Cond.code yX0_init cX0_init 2 none ∈ vv_T := vv_mem 144 (by decide +kernel) rfl
theorem wi_X0_init : Cond.instanceMethod yX0_init ∈ vv_T := vv_mem 143 (by decide +kernel) rfl
theorem yo_X0_init : vv_yok yX0_init 0 := ⟨by decide +kernel, by decide +kernel, by decide +kernel⟩
theorem wc_X0_keep : Cond.code yX0_keep cX0_keep 2 none ∈ vv_T := vv_mem 211 (by decide +kernel) rfl
theorem wi_X0_keep : Cond.instanceMethod yX0_keep ∈ vv_T := vv_mem 209 (by decide +kernel) rfl
theorem ws_X0_keep : Cond.selects yX0_keep.cls yX0_keep yX0_keep ∈ vv_T := vv_mem 210 (by decide +kernel) rfl
theorem yo_X0_keep : vv_yok yX0_keep 1 := ⟨by decide +kernel, by decide +kernel, by decide +kernel⟩
theorem wc_X0_recordUnlessError : Cond.code yX0_recordUnlessError cX0_recordUnlessError 2 (some .int) ∈ vv_T := vv_mem 242 (by decide +kernel) rfl
theorem wi_X0_recordUnlessError : Cond.instanceMethod yX0_recordUnlessError ∈ vv_T := vv_mem 240 (by decide +kernel) rfl
theorem ws_X0_recordUnlessError : Cond.selects yX0_recordUnlessError.cls yX0_recordUnlessError yX0_recordUnlessError ∈ vv_T := vv_mem 241 (by decide +kernel) rfl
theorem yo_X0_recordUnlessError : vv_yok yX0_recordUnlessError 1 := ⟨by decide +kernel, by decide +kernel, by decide +kernel⟩
theorem wc_X0_goBack : Cond.code yX0_goBack cX0_goBack 2 (some .int) ∈ vv_T := vv_mem 385 (by decide +kernel) rfl
theorem wi_X0_goBack : Cond.instanceMethod yX0_goBack ∈ vv_T := vv_mem 383 (by decide +kernel) rfl
theorem ws_X0_goBack : Cond.selects yX0_goBack.cls yX0_goBack yX0_goBack ∈ vv_T := vv_mem 384 (by decide +kernel) rfl
theorem yo_X0_goBack : vv_yok yX0_goBack 1 := ⟨by decide +kernel, by decide +kernel, by decide +kernel⟩
theorem wc_X1_init : Cond.code yX1_init cX1_init 2 none ∈ vv_T := vv_mem 72 (by decide +kernel) rfl
theorem wi_X1_init : Cond.instanceMethod yX1_init ∈ vv_T := vv_mem 71 (by decide +kernel) rfl
theorem yo_X1_init : vv_yok yX1_init 0 := ⟨by decide +kernel, by decide +kernel, by decide +kernel⟩
theorem wc_X1_become : Cond.code yX1_become cX1_become 3 none ∈ vv_T := vv_mem 215 (by decide +kernel) rfl
theorem wi_X1_become : Cond.instanceMethod yX1_become ∈ vv_T := vv_mem 213 (by decide +kernel) rfl
theorem ws_X1_become : Cond.selects yX1_become.cls yX1_become yX1_become ∈ vv_T := vv_mem 214 (by decide +kernel) rfl
theorem yo_X1_become : vv_yok yX1_become 1 := ⟨by decide +kernel, by decide +kernel, by decide +kernel⟩
theorem wc_X1_takeSnapshot : Cond.code yX1_takeSnapshot cX1_takeSnapshot 2 (some .int) ∈ vv_T := vv_mem 368 (by decide +kernel) rfl
theorem wi_X1_takeSnapshot : Cond.instanceMethod yX1_takeSnapshot ∈ vv_T := vv_mem 366 (by decide +kernel) rfl
theorem ws_X1_takeSnapshot : Cond.selects yX1_takeSnapshot.cls yX1_takeSnapshot yX1_takeSnapshot ∈ vv_T := vv_mem 367 (by decide +kernel) rfl
theorem yo_X1_takeSnapshot : vv_yok yX1_takeSnapshot 1 := ⟨by decide +kernel, by decide +kernel, by decide +kernel⟩
theorem wc_X1_restoreSnapshot : Cond.code yX1_restoreSnapshot cX1_restoreSnapshot 2 (some .int) ∈ vv_T := vv_mem 377 (by decide +kernel) rfl
theorem wi_X1_restoreSnapshot : Cond.instanceMethod yX1_restoreSnapshot ∈ vv_T := vv_mem 375 (by decide +kernel) rfl
theorem ws_X1_restoreSnapshot : Cond.selects yX1_restoreSnapshot.cls yX1_restoreSnapshot yX1_restoreSnapshot ∈ vv_T := vv_mem 376 (by decide +kernel) rfl
theorem yo_X1_restoreSnapshot : vv_yok yX1_restoreSnapshot 1 := ⟨by decide +kernel, by decide +kernel, by decide +kernel⟩
theorem wc_X1_snapshots : Cond.code yX1_snapshots cX1_snapshots 3 (some .int) ∈ vv_T := vv_mem 448 (by decide +kernel) rfl
theorem wi_X1_snapshots : Cond.instanceMethod yX1_snapshots ∈ vv_T := vv_mem 446 (by decide +kernel) rfl
theorem ws_X1_snapshots : Cond.selects yX1_snapshots.cls yX1_snapshots yX1_snapshots ∈ vv_T := vv_mem 447 (by decide +kernel) rfl
theorem yo_X1_snapshots : vv_yok yX1_snapshots 0 := ⟨by decide +kernel, by decide +kernel, by decide +kernel⟩
theorem wc_X2_init : Cond.code yX2_init cX2_init 3 none ∈ vv_T := vv_mem 78 (by decide +kernel) rfl
theorem wi_X2_init : Cond.instanceMethod yX2_init ∈ vv_T := vv_mem 77 (by decide +kernel) rfl
theorem yo_X2_init : vv_yok yX2_init 0 := ⟨by decide +kernel, by decide +kernel, by decide +kernel⟩
theorem wc_X2_become : Cond.code yX2_become cX2_become 2 none ∈ vv_T := vv_mem 219 (by decide +kernel) rfl
theorem wi_X2_become : Cond.instanceMethod yX2_become ∈ vv_T := vv_mem 217 (by decide +kernel) rfl
theorem ws_X2_become : Cond.selects yX2_become.cls yX2_become yX2_become ∈ vv_T := vv_mem 218 (by decide +kernel) rfl
theorem yo_X2_become : vv_yok yX2_become 1 := ⟨by decide +kernel, by decide +kernel, by decide +kernel⟩
theorem wc_X2_changeZone : Cond.code yX2_changeZone cX2_changeZone 6 (some .int) ∈ vv_T := vv_mem 223 (by decide +kernel) rfl
theorem wi_X2_changeZone : Cond.instanceMethod yX2_changeZone ∈ vv_T := vv_mem 221 (by decide +kernel) rfl
theorem ws_X2_changeZone : Cond.selects yX2_changeZone.cls yX2_changeZone yX2_changeZone ∈ vv_T := vv_mem 222 (by decide +kernel) rfl
theorem yo_X2_changeZone : vv_yok yX2_changeZone 4 := ⟨by decide +kernel, by decide +kernel, by decide +kernel⟩
theorem wc_X2_changeCurve : Cond.code yX2_changeCurve cX2_changeCurve 5 (some .int) ∈ vv_T := vv_mem 250 (by decide +kernel) rfl
theorem wi_X2_changeCurve : Cond.instanceMethod yX2_changeCurve ∈ vv_T := vv_mem 248 (by decide +kernel) rfl
theorem ws_X2_changeCurve : Cond.selects yX2_changeCurve.cls yX2_changeCurve yX2_changeCurve ∈ vv_T := vv_mem 249 (by decide +kernel) rfl
theorem yo_X2_changeCurve : vv_yok yX2_changeCurve 3 := ⟨by decide +kernel, by decide +kernel, by decide +kernel⟩
theorem wc_X2_changeNumber : Cond.code yX2_changeNumber cX2_changeNumber 4 (some .int) ∈ vv_T := vv_mem 262 (by decide +kernel) rfl
theorem wi_X2_changeNumber : Cond.instanceMethod yX2_changeNumber ∈ vv_T := vv_mem 260 (by decide +kernel) rfl
theorem ws_X2_changeNumber : Cond.selects yX2_changeNumber.cls yX2_changeNumber yX2_changeNumber ∈ vv_T := vv_mem 261 (by decide +kernel) rfl
theorem yo_X2_changeNumber : vv_yok yX2_changeNumber 2 := ⟨by decide +kernel, by decide +kernel, by decide +kernel⟩
theorem wc_X2_addBoard : Cond.code yX2_addBoard cX2_addBoard 3 (some .int) ∈ vv_T := vv_mem 274 (by decide +kernel) rfl
theorem wi_X2_addBoard : Cond.instanceMethod yX2_addBoard ∈ vv_T := vv_mem 272 (by decide +kernel) rfl
theorem ws_X2_addBoard : Cond.selects yX2_addBoard.cls yX2_addBoard yX2_addBoard ∈ vv_T := vv_mem 273 (by decide +kernel) rfl
theorem yo_X2_addBoard : vv_yok yX2_addBoard 2 := ⟨by decide +kernel, by decide +kernel, by decide +kernel⟩
theorem wc_X2_removeBoard : Cond.code yX2_removeBoard cX2_removeBoard 4 (some .int) ∈ vv_T := vv_mem 294 (by decide +kernel) rfl
theorem wi_X2_removeBoard : Cond.instanceMethod yX2_removeBoard ∈ vv_T := vv_mem 292 (by decide +kernel) rfl
theorem ws_X2_removeBoard : Cond.selects yX2_removeBoard.cls yX2_removeBoard yX2_removeBoard ∈ vv_T := vv_mem 293 (by decide +kernel) rfl
theorem yo_X2_removeBoard : vv_yok yX2_removeBoard 1 := ⟨by decide +kernel, by decide +kernel, by decide +kernel⟩
theorem wc_X2_letPass : Cond.code yX2_letPass cX2_letPass 4 (some .int) ∈ vv_T := vv_mem 306 (by decide +kernel) rfl
theorem wi_X2_letPass : Cond.instanceMethod yX2_letPass ∈ vv_T := vv_mem 304 (by decide +kernel) rfl
theorem ws_X2_letPass : Cond.selects yX2_letPass.cls yX2_letPass yX2_letPass ∈ vv_T := vv_mem 305 (by decide +kernel) rfl
theorem yo_X2_letPass : vv_yok yX2_letPass 1 := ⟨by decide +kernel, by decide +kernel, by decide +kernel⟩
theorem wc_X2_obey : Cond.code yX2_obey cX2_obey 4 (some .int) ∈ vv_T := vv_mem 430 (by decide +kernel) rfl
theorem wi_X2_obey : Cond.instanceMethod yX2_obey ∈ vv_T := vv_mem 428 (by decide +kernel) rfl
theorem ws_X2_obey : Cond.selects yX2_obey.cls yX2_obey yX2_obey ∈ vv_T := vv_mem 429 (by decide +kernel) rfl
theorem yo_X2_obey : vv_yok yX2_obey 3 := ⟨by decide +kernel, by decide +kernel, by decide +kernel⟩
theorem wc_X2_placeBoard : Cond.code yX2_placeBoard cX2_placeBoard 5 (some .int) ∈ vv_T := vv_mem 286 (by decide +kernel) rfl
theorem wi_X2_placeBoard : Cond.instanceMethod yX2_placeBoard ∈ vv_T := vv_mem 284 (by decide +kernel) rfl
theorem ws_X2_placeBoard : Cond.selects yX2_placeBoard.cls yX2_placeBoard yX2_placeBoard ∈ vv_T := vv_mem 285 (by decide +kernel) rfl
theorem yo_X2_placeBoard : vv_yok yX2_placeBoard 2 := ⟨by decide +kernel, by decide +kernel, by decide +kernel⟩
theorem wc_X2_passUntilLeft : Cond.code yX2_passUntilLeft cX2_passUntilLeft 3 (some .int) ∈ vv_T := vv_mem 507 (by decide +kernel) rfl
theorem wi_X2_passUntilLeft : Cond.instanceMethod yX2_passUntilLeft ∈ vv_T := vv_mem 505 (by decide +kernel) rfl
theorem ws_X2_passUntilLeft : Cond.selects yX2_passUntilLeft.cls yX2_passUntilLeft yX2_passUntilLeft ∈ vv_T := vv_mem 506 (by decide +kernel) rfl
theorem yo_X2_passUntilLeft : vv_yok yX2_passUntilLeft 1 := ⟨by decide +kernel, by decide +kernel, by decide +kernel⟩
theorem wc_X2_passUntilFree : Cond.code yX2_passUntilFree cX2_passUntilFree 2 (some .int) ∈ vv_T := vv_mem 528 (by decide +kernel) rfl
theorem wi_X2_passUntilFree : Cond.instanceMethod yX2_passUntilFree ∈ vv_T := vv_mem 526 (by decide +kernel) rfl
theorem ws_X2_passUntilFree : Cond.selects yX2_passUntilFree.cls yX2_passUntilFree yX2_passUntilFree ∈ vv_T := vv_mem 527 (by decide +kernel) rfl
theorem yo_X2_passUntilFree : vv_yok yX2_passUntilFree 0 := ⟨by decide +kernel, by decide +kernel, by decide +kernel⟩
theorem wc_X2_letOnePass : Cond.code yX2_letOnePass cX2_letOnePass 2 (some .int) ∈ vv_T := vv_mem 310 (by decide +kernel) rfl
theorem wi_X2_letOnePass : Cond.instanceMethod yX2_letOnePass ∈ vv_T := vv_mem 309 (by decide +kernel) rfl
theorem ws_X2_letOnePass : Cond.selects yX2_letOnePass.cls yX2_letOnePass yX2_letOnePass ∈ vv_T := vv_mem 1 (by decide +kernel) rfl
theorem yo_X2_letOnePass : vv_yok yX2_letOnePass 0 := ⟨by decide +kernel, by decide +kernel, by decide +kernel⟩
theorem wc_X2_moveBoards : Cond.code yX2_moveBoards cX2_moveBoards 6 (some .int) ∈ vv_T := vv_mem 314 (by decide +kernel) rfl
theorem wi_X2_moveBoards : Cond.instanceMethod yX2_moveBoards ∈ vv_T := vv_mem 313 (by decide +kernel) rfl
theorem ws_X2_moveBoards : Cond.selects yX2_moveBoards.cls yX2_moveBoards yX2_moveBoards ∈ vv_T := vv_mem 2 (by decide +kernel) rfl
theorem yo_X2_moveBoards : vv_yok yX2_moveBoards 0 := ⟨by decide +kernel, by decide +kernel, by decide +kernel⟩
theorem wc_X2_leave : Cond.code yX2_leave cX2_leave 4 none ∈ vv_T := vv_mem 322 (by decide +kernel) rfl
theorem wi_X2_leave : Cond.instanceMethod yX2_leave ∈ vv_T := vv_mem 321 (by decide +kernel) rfl
theorem ws_X2_leave : Cond.selects yX2_leave.cls yX2_leave yX2_leave ∈ vv_T := vv_mem 4 (by decide +kernel) rfl
theorem yo_X2_leave : vv_yok yX2_leave 2 := ⟨by decide +kernel, by decide +kernel, by decide +kernel⟩
theorem wc_X2_changeWarmths : Cond.code yX2_changeWarmths cX2_changeWarmths 6 none ∈ vv_T := vv_mem 330 (by decide +kernel) rfl
theorem wi_X2_changeWarmths : Cond.instanceMethod yX2_changeWarmths ∈ vv_T := vv_mem 329 (by decide +kernel) rfl
theorem ws_X2_changeWarmths : Cond.selects yX2_changeWarmths.cls yX2_changeWarmths yX2_changeWarmths ∈ vv_T := vv_mem 6 (by decide +kernel) rfl
theorem yo_X2_changeWarmths : vv_yok yX2_changeWarmths 0 := ⟨by decide +kernel, by decide +kernel, by decide +kernel⟩
theorem wc_X2_sumWeights : Cond.code yX2_sumWeights cX2_sumWeights 3 none ∈ vv_T := vv_mem 334 (by decide +kernel) rfl
theorem wi_X2_sumWeights : Cond.instanceMethod yX2_sumWeights ∈ vv_T := vv_mem 333 (by decide +kernel) rfl
theorem ws_X2_sumWeights : Cond.selects yX2_sumWeights.cls yX2_sumWeights yX2_sumWeights ∈ vv_T := vv_mem 7 (by decide +kernel) rfl
theorem yo_X2_sumWeights : vv_yok yX2_sumWeights 0 := ⟨by decide +kernel, by decide +kernel, by decide +kernel⟩
theorem wc_X2_warmBoards : Cond.code yX2_warmBoards cX2_warmBoards 3 none ∈ vv_T := vv_mem 344 (by decide +kernel) rfl
theorem wi_X2_warmBoards : Cond.instanceMethod yX2_warmBoards ∈ vv_T := vv_mem 343 (by decide +kernel) rfl
theorem ws_X2_warmBoards : Cond.selects yX2_warmBoards.cls yX2_warmBoards yX2_warmBoards ∈ vv_T := vv_mem 8 (by decide +kernel) rfl
theorem yo_X2_warmBoards : vv_yok yX2_warmBoards 0 := ⟨by decide +kernel, by decide +kernel, by decide +kernel⟩
theorem wc_X2_warm : Cond.code yX2_warm cX2_warm 5 none ∈ vv_T := vv_mem 348 (by decide +kernel) rfl
theorem wi_X2_warm : Cond.instanceMethod yX2_warm ∈ vv_T := vv_mem 347 (by decide +kernel) rfl
theorem ws_X2_warm : Cond.selects yX2_warm.cls yX2_warm yX2_warm ∈ vv_T := vv_mem 9 (by decide +kernel) rfl
theorem yo_X2_warm : vv_yok yX2_warm 1 := ⟨by decide +kernel, by decide +kernel, by decide +kernel⟩
theorem wc_X2_judgeOnBelt : Cond.code yX2_judgeOnBelt cX2_judgeOnBelt 5 none ∈ vv_T := vv_mem 352 (by decide +kernel) rfl
theorem wi_X2_judgeOnBelt : Cond.instanceMethod yX2_judgeOnBelt ∈ vv_T := vv_mem 351 (by decide +kernel) rfl
theorem ws_X2_judgeOnBelt : Cond.selects yX2_judgeOnBelt.cls yX2_judgeOnBelt yX2_judgeOnBelt ∈ vv_T := vv_mem 10 (by decide +kernel) rfl
theorem yo_X2_judgeOnBelt : vv_yok yX2_judgeOnBelt 1 := ⟨by decide +kernel, by decide +kernel, by decide +kernel⟩
theorem wc_X2_noteFault : Cond.code yX2_noteFault cX2_noteFault 5 none ∈ vv_T := vv_mem 326 (by decide +kernel) rfl
theorem wi_X2_noteFault : Cond.instanceMethod yX2_noteFault ∈ vv_T := vv_mem 325 (by decide +kernel) rfl
theorem ws_X2_noteFault : Cond.selects yX2_noteFault.cls yX2_noteFault yX2_noteFault ∈ vv_T := vv_mem 5 (by decide +kernel) rfl
theorem yo_X2_noteFault : vv_yok yX2_noteFault 3 := ⟨by decide +kernel, by decide +kernel, by decide +kernel⟩
theorem wc_X2_hearPleas : Cond.code yX2_hearPleas cX2_hearPleas 4 none ∈ vv_T := vv_mem 356 (by decide +kernel) rfl
theorem wi_X2_hearPleas : Cond.instanceMethod yX2_hearPleas ∈ vv_T := vv_mem 355 (by decide +kernel) rfl
theorem ws_X2_hearPleas : Cond.selects yX2_hearPleas.cls yX2_hearPleas yX2_hearPleas ∈ vv_T := vv_mem 11 (by decide +kernel) rfl
theorem yo_X2_hearPleas : vv_yok yX2_hearPleas 0 := ⟨by decide +kernel, by decide +kernel, by decide +kernel⟩
theorem wc_X2_weightForSlower : Cond.code yX2_weightForSlower cX2_weightForSlower 4 (some .int) ∈ vv_T := vv_mem 360 (by decide +kernel) rfl
theorem wi_X2_weightForSlower : Cond.instanceMethod yX2_weightForSlower ∈ vv_T := vv_mem 359 (by decide +kernel) rfl
theorem ws_X2_weightForSlower : Cond.selects yX2_weightForSlower.cls yX2_weightForSlower yX2_weightForSlower ∈ vv_T := vv_mem 12 (by decide +kernel) rfl
theorem yo_X2_weightForSlower : vv_yok yX2_weightForSlower 0 := ⟨by decide +kernel, by decide +kernel, by decide +kernel⟩
theorem wc_X2_hasBoard : Cond.code yX2_hasBoard cX2_hasBoard 2 (some .boolean) ∈ vv_T := vv_mem 298 (by decide +kernel) rfl
theorem wi_X2_hasBoard : Cond.instanceMethod yX2_hasBoard ∈ vv_T := vv_mem 296 (by decide +kernel) rfl
theorem ws_X2_hasBoard : Cond.selects yX2_hasBoard.cls yX2_hasBoard yX2_hasBoard ∈ vv_T := vv_mem 297 (by decide +kernel) rfl
theorem yo_X2_hasBoard : vv_yok yX2_hasBoard 1 := ⟨by decide +kernel, by decide +kernel, by decide +kernel⟩
theorem wc_X2_isOnBelt : Cond.code yX2_isOnBelt cX2_isOnBelt 2 (some .boolean) ∈ vv_T := vv_mem 282 (by decide +kernel) rfl
theorem wi_X2_isOnBelt : Cond.instanceMethod yX2_isOnBelt ∈ vv_T := vv_mem 280 (by decide +kernel) rfl
theorem ws_X2_isOnBelt : Cond.selects yX2_isOnBelt.cls yX2_isOnBelt yX2_isOnBelt ∈ vv_T := vv_mem 281 (by decide +kernel) rfl
theorem yo_X2_isOnBelt : vv_yok yX2_isOnBelt 1 := ⟨by decide +kernel, by decide +kernel, by decide +kernel⟩
theorem wc_X2_isStartFree : Cond.code yX2_isStartFree cX2_isStartFree 2 (some .boolean) ∈ vv_T := vv_mem 278 (by decide +kernel) rfl
theorem wi_X2_isStartFree : Cond.instanceMethod yX2_isStartFree ∈ vv_T := vv_mem 277 (by decide +kernel) rfl
theorem ws_X2_isStartFree : Cond.selects yX2_isStartFree.cls yX2_isStartFree yX2_isStartFree ∈ vv_T := vv_mem 0 (by decide +kernel) rfl
theorem yo_X2_isStartFree : vv_yok yX2_isStartFree 0 := ⟨by decide +kernel, by decide +kernel, by decide +kernel⟩
theorem wc_X2_beltLength : Cond.code yX2_beltLength cX2_beltLength 1 (some .int) ∈ vv_T := vv_mem 234 (by decide +kernel) rfl
theorem wi_X2_beltLength : Cond.instanceMethod yX2_beltLength ∈ vv_T := vv_mem 232 (by decide +kernel) rfl
theorem ws_X2_beltLength : Cond.selects yX2_beltLength.cls yX2_beltLength yX2_beltLength ∈ vv_T := vv_mem 233 (by decide +kernel) rfl
theorem yo_X2_beltLength : vv_yok yX2_beltLength 0 := ⟨by decide +kernel, by decide +kernel, by decide +kernel⟩
theorem wc_X2_firstCellOf : Cond.code yX2_firstCellOf cX2_firstCellOf 4 (some .int) ∈ vv_T := vv_mem 238 (by decide +kernel) rfl
theorem wi_X2_firstCellOf : Cond.instanceMethod yX2_firstCellOf ∈ vv_T := vv_mem 236 (by decide +kernel) rfl
theorem ws_X2_firstCellOf : Cond.selects yX2_firstCellOf.cls yX2_firstCellOf yX2_firstCellOf ∈ vv_T := vv_mem 237 (by decide +kernel) rfl
theorem yo_X2_firstCellOf : vv_yok yX2_firstCellOf 1 := ⟨by decide +kernel, by decide +kernel, by decide +kernel⟩
theorem wc_X2_zoneAt : Cond.code yX2_zoneAt cX2_zoneAt 4 (some .int) ∈ vv_T := vv_mem 318 (by decide +kernel) rfl
theorem wi_X2_zoneAt : Cond.instanceMethod yX2_zoneAt ∈ vv_T := vv_mem 317 (by decide +kernel) rfl
theorem ws_X2_zoneAt : Cond.selects yX2_zoneAt.cls yX2_zoneAt yX2_zoneAt ∈ vv_T := vv_mem 3 (by decide +kernel) rfl
theorem yo_X2_zoneAt : vv_yok yX2_zoneAt 1 := ⟨by decide +kernel, by decide +kernel, by decide +kernel⟩
theorem wc_X2_boardsThatAre : Cond.code yX2_boardsThatAre cX2_boardsThatAre 4 (some .int) ∈ vv_T := vv_mem 230 (by decide +kernel) rfl
theorem wi_X2_boardsThatAre : Cond.instanceMethod yX2_boardsThatAre ∈ vv_T := vv_mem 228 (by decide +kernel) rfl
theorem ws_X2_boardsThatAre : Cond.selects yX2_boardsThatAre.cls yX2_boardsThatAre yX2_boardsThatAre ∈ vv_T := vv_mem 229 (by decide +kernel) rfl
theorem yo_X2_boardsThatAre : vv_yok yX2_boardsThatAre 1 := ⟨by decide +kernel, by decide +kernel, by decide +kernel⟩
theorem wc_X2_boardsLeftFaultless : Cond.code yX2_boardsLeftFaultless cX2_boardsLeftFaultless 4 (some .int) ∈ vv_T := vv_mem 443 (by decide +kernel) rfl
theorem wi_X2_boardsLeftFaultless : Cond.instanceMethod yX2_boardsLeftFaultless ∈ vv_T := vv_mem 441 (by decide +kernel) rfl
theorem ws_X2_boardsLeftFaultless : Cond.selects yX2_boardsLeftFaultless.cls yX2_boardsLeftFaultless yX2_boardsLeftFaultless ∈ vv_T := vv_mem 442 (by decide +kernel) rfl
theorem yo_X2_boardsLeftFaultless : vv_yok yX2_boardsLeftFaultless 0 := ⟨by decide +kernel, by decide +kernel, by decide +kernel⟩
theorem wc_X2_boardsIn : Cond.code yX2_boardsIn cX2_boardsIn 4 (some .int) ∈ vv_T := vv_mem 458 (by decide +kernel) rfl
theorem wi_X2_boardsIn : Cond.instanceMethod yX2_boardsIn ∈ vv_T := vv_mem 456 (by decide +kernel) rfl
theorem ws_X2_boardsIn : Cond.selects yX2_boardsIn.cls yX2_boardsIn yX2_boardsIn ∈ vv_T := vv_mem 457 (by decide +kernel) rfl
theorem yo_X2_boardsIn : vv_yok yX2_boardsIn 1 := ⟨by decide +kernel, by decide +kernel, by decide +kernel⟩
theorem wc_X2_weightIn : Cond.code yX2_weightIn cX2_weightIn 4 (some .int) ∈ vv_T := vv_mem 462 (by decide +kernel) rfl
theorem wi_X2_weightIn : Cond.instanceMethod yX2_weightIn ∈ vv_T := vv_mem 460 (by decide +kernel) rfl
theorem ws_X2_weightIn : Cond.selects yX2_weightIn.cls yX2_weightIn yX2_weightIn ∈ vv_T := vv_mem 461 (by decide +kernel) rfl
theorem yo_X2_weightIn : vv_yok yX2_weightIn 1 := ⟨by decide +kernel, by decide +kernel, by decide +kernel⟩
theorem wc_X2_boardsWithFault : Cond.code yX2_boardsWithFault cX2_boardsWithFault 5 (some .int) ∈ vv_T := vv_mem 483 (by decide +kernel) rfl
theorem wi_X2_boardsWithFault : Cond.instanceMethod yX2_boardsWithFault ∈ vv_T := vv_mem 481 (by decide +kernel) rfl
theorem ws_X2_boardsWithFault : Cond.selects yX2_boardsWithFault.cls yX2_boardsWithFault yX2_boardsWithFault ∈ vv_T := vv_mem 482 (by decide +kernel) rfl
theorem yo_X2_boardsWithFault : vv_yok yX2_boardsWithFault 2 := ⟨by decide +kernel, by decide +kernel, by decide +kernel⟩
theorem wc_X2_setOfFaultCells : Cond.code yX2_setOfFaultCells cX2_setOfFaultCells 6 (some .long) ∈ vv_T := vv_mem 491 (by decide +kernel) rfl
theorem wi_X2_setOfFaultCells : Cond.instanceMethod yX2_setOfFaultCells ∈ vv_T := vv_mem 489 (by decide +kernel) rfl
theorem ws_X2_setOfFaultCells : Cond.selects yX2_setOfFaultCells.cls yX2_setOfFaultCells yX2_setOfFaultCells ∈ vv_T := vv_mem 490 (by decide +kernel) rfl
theorem yo_X2_setOfFaultCells : vv_yok yX2_setOfFaultCells 0 := ⟨by decide +kernel, by decide +kernel, by decide +kernel⟩
theorem wc_X3_init : Cond.code yX3_init cX3_init 1 none ∈ vv_T := vv_mem 164 (by decide +kernel) rfl
theorem wi_X3_init : Cond.instanceMethod yX3_init ∈ vv_T := vv_mem 163 (by decide +kernel) rfl
theorem yo_X3_init : vv_yok yX3_init 0 := ⟨by decide +kernel, by decide +kernel, by decide +kernel⟩
theorem wc_X3_add : Cond.code yX3_add cX3_add 2 (some .int) ∈ vv_T := vv_mem 393 (by decide +kernel) rfl
theorem wi_X3_add : Cond.instanceMethod yX3_add ∈ vv_T := vv_mem 391 (by decide +kernel) rfl
theorem ws_X3_add : Cond.selects yX3_add.cls yX3_add yX3_add ∈ vv_T := vv_mem 392 (by decide +kernel) rfl
theorem yo_X3_add : vv_yok yX3_add 1 := ⟨by decide +kernel, by decide +kernel, by decide +kernel⟩
theorem wc_X3_wipe : Cond.code yX3_wipe cX3_wipe 2 (some .int) ∈ vv_T := vv_mem 402 (by decide +kernel) rfl
theorem wi_X3_wipe : Cond.instanceMethod yX3_wipe ∈ vv_T := vv_mem 400 (by decide +kernel) rfl
theorem ws_X3_wipe : Cond.selects yX3_wipe.cls yX3_wipe yX3_wipe ∈ vv_T := vv_mem 401 (by decide +kernel) rfl
theorem yo_X3_wipe : vv_yok yX3_wipe 0 := ⟨by decide +kernel, by decide +kernel, by decide +kernel⟩
theorem wc_X3_firstFault : Cond.code yX3_firstFault cX3_firstFault 3 (some .int) ∈ vv_T := vv_mem 410 (by decide +kernel) rfl
theorem wi_X3_firstFault : Cond.instanceMethod yX3_firstFault ∈ vv_T := vv_mem 408 (by decide +kernel) rfl
theorem ws_X3_firstFault : Cond.selects yX3_firstFault.cls yX3_firstFault yX3_firstFault ∈ vv_T := vv_mem 409 (by decide +kernel) rfl
theorem yo_X3_firstFault : vv_yok yX3_firstFault 0 := ⟨by decide +kernel, by decide +kernel, by decide +kernel⟩
theorem wc_X3_placeAfter : Cond.code yX3_placeAfter cX3_placeAfter 2 (some .int) ∈ vv_T := vv_mem 413 (by decide +kernel) rfl
theorem wi_X3_placeAfter : Cond.static yX3_placeAfter ∈ vv_T := vv_mem 412 (by decide +kernel) rfl
theorem yo_X3_placeAfter : vv_yok yX3_placeAfter 2 := ⟨by decide +kernel, by decide +kernel, by decide +kernel⟩
theorem wc_X3_placeAfterLetter : Cond.code yX3_placeAfterLetter cX3_placeAfterLetter 1 (some .int) ∈ vv_T := vv_mem 416 (by decide +kernel) rfl
theorem wi_X3_placeAfterLetter : Cond.static yX3_placeAfterLetter ∈ vv_T := vv_mem 415 (by decide +kernel) rfl
theorem yo_X3_placeAfterLetter : vv_yok yX3_placeAfterLetter 1 := ⟨by decide +kernel, by decide +kernel, by decide +kernel⟩
theorem wc_X3_placeAfterFirstDigit : Cond.code yX3_placeAfterFirstDigit cX3_placeAfterFirstDigit 3 (some .int) ∈ vv_T := vv_mem 419 (by decide +kernel) rfl
theorem wi_X3_placeAfterFirstDigit : Cond.static yX3_placeAfterFirstDigit ∈ vv_T := vv_mem 418 (by decide +kernel) rfl
theorem yo_X3_placeAfterFirstDigit : vv_yok yX3_placeAfterFirstDigit 3 := ⟨by decide +kernel, by decide +kernel, by decide +kernel⟩
theorem wc_X3_isDigit : Cond.code yX3_isDigit cX3_isDigit 1 (some .boolean) ∈ vv_T := vv_mem 422 (by decide +kernel) rfl
theorem wi_X3_isDigit : Cond.static yX3_isDigit ∈ vv_T := vv_mem 421 (by decide +kernel) rfl
theorem yo_X3_isDigit : vv_yok yX3_isDigit 1 := ⟨by decide +kernel, by decide +kernel, by decide +kernel⟩
theorem wc_X3_readOrder : Cond.code yX3_readOrder cX3_readOrder 1 (some .boolean) ∈ vv_T := vv_mem 426 (by decide +kernel) rfl
theorem wi_X3_readOrder : Cond.instanceMethod yX3_readOrder ∈ vv_T := vv_mem 424 (by decide +kernel) rfl
theorem ws_X3_readOrder : Cond.selects yX3_readOrder.cls yX3_readOrder yX3_readOrder ∈ vv_T := vv_mem 425 (by decide +kernel) rfl
theorem yo_X3_readOrder : vv_yok yX3_readOrder 0 := ⟨by decide +kernel, by decide +kernel, by decide +kernel⟩
theorem wc_X4_init : Cond.code yX4_init cX4_init 1 none ∈ vv_T := vv_mem 64 (by decide +kernel) rfl
theorem wi_X4_init : Cond.instanceMethod yX4_init ∈ vv_T := vv_mem 63 (by decide +kernel) rfl
theorem yo_X4_init : vv_yok yX4_init 0 := ⟨by decide +kernel, by decide +kernel, by decide +kernel⟩
theorem wc_X4_setZone : Cond.code yX4_setZone cX4_setZone 5 (some .int) ∈ vv_T := vv_mem 207 (by decide +kernel) rfl
theorem wi_X4_setZone : Cond.instanceMethod yX4_setZone ∈ vv_T := vv_mem 205 (by decide +kernel) rfl
theorem ws_X4_setZone : Cond.selects yX4_setZone.cls yX4_setZone yX4_setZone ∈ vv_T := vv_mem 206 (by decide +kernel) rfl
theorem yo_X4_setZone : vv_yok yX4_setZone 4 := ⟨by decide +kernel, by decide +kernel, by decide +kernel⟩
theorem wc_X4_setCurve : Cond.code yX4_setCurve cX4_setCurve 4 (some .int) ∈ vv_T := vv_mem 246 (by decide +kernel) rfl
theorem wi_X4_setCurve : Cond.instanceMethod yX4_setCurve ∈ vv_T := vv_mem 244 (by decide +kernel) rfl
theorem ws_X4_setCurve : Cond.selects yX4_setCurve.cls yX4_setCurve yX4_setCurve ∈ vv_T := vv_mem 245 (by decide +kernel) rfl
theorem yo_X4_setCurve : vv_yok yX4_setCurve 3 := ⟨by decide +kernel, by decide +kernel, by decide +kernel⟩
theorem wc_X4_set : Cond.code yX4_set cX4_set 3 (some .int) ∈ vv_T := vv_mem 258 (by decide +kernel) rfl
theorem wi_X4_set : Cond.instanceMethod yX4_set ∈ vv_T := vv_mem 256 (by decide +kernel) rfl
theorem ws_X4_set : Cond.selects yX4_set.cls yX4_set yX4_set ∈ vv_T := vv_mem 257 (by decide +kernel) rfl
theorem yo_X4_set : vv_yok yX4_set 2 := ⟨by decide +kernel, by decide +kernel, by decide +kernel⟩
theorem wc_X4_load : Cond.code yX4_load cX4_load 3 (some .int) ∈ vv_T := vv_mem 270 (by decide +kernel) rfl
theorem wi_X4_load : Cond.instanceMethod yX4_load ∈ vv_T := vv_mem 268 (by decide +kernel) rfl
theorem ws_X4_load : Cond.selects yX4_load.cls yX4_load yX4_load ∈ vv_T := vv_mem 269 (by decide +kernel) rfl
theorem yo_X4_load : vv_yok yX4_load 2 := ⟨by decide +kernel, by decide +kernel, by decide +kernel⟩
theorem wc_X4_takeOff : Cond.code yX4_takeOff cX4_takeOff 2 (some .int) ∈ vv_T := vv_mem 290 (by decide +kernel) rfl
theorem wi_X4_takeOff : Cond.instanceMethod yX4_takeOff ∈ vv_T := vv_mem 288 (by decide +kernel) rfl
theorem ws_X4_takeOff : Cond.selects yX4_takeOff.cls yX4_takeOff yX4_takeOff ∈ vv_T := vv_mem 289 (by decide +kernel) rfl
theorem yo_X4_takeOff : vv_yok yX4_takeOff 1 := ⟨by decide +kernel, by decide +kernel, by decide +kernel⟩
theorem wc_X4_pass : Cond.code yX4_pass cX4_pass 2 (some .int) ∈ vv_T := vv_mem 302 (by decide +kernel) rfl
theorem wi_X4_pass : Cond.instanceMethod yX4_pass ∈ vv_T := vv_mem 300 (by decide +kernel) rfl
theorem ws_X4_pass : Cond.selects yX4_pass.cls yX4_pass yX4_pass ∈ vv_T := vv_mem 301 (by decide +kernel) rfl
theorem yo_X4_pass : vv_yok yX4_pass 1 := ⟨by decide +kernel, by decide +kernel, by decide +kernel⟩
theorem wc_X4_take : Cond.code yX4_take cX4_take 2 (some .int) ∈ vv_T := vv_mem 364 (by decide +kernel) rfl
theorem wi_X4_take : Cond.instanceMethod yX4_take ∈ vv_T := vv_mem 362 (by decide +kernel) rfl
theorem ws_X4_take : Cond.selects yX4_take.cls yX4_take yX4_take ∈ vv_T := vv_mem 363 (by decide +kernel) rfl
theorem yo_X4_take : vv_yok yX4_take 1 := ⟨by decide +kernel, by decide +kernel, by decide +kernel⟩
theorem wc_X4_restore : Cond.code yX4_restore cX4_restore 2 (some .int) ∈ vv_T := vv_mem 373 (by decide +kernel) rfl
theorem wi_X4_restore : Cond.instanceMethod yX4_restore ∈ vv_T := vv_mem 371 (by decide +kernel) rfl
theorem ws_X4_restore : Cond.selects yX4_restore.cls yX4_restore yX4_restore ∈ vv_T := vv_mem 372 (by decide +kernel) rfl
theorem yo_X4_restore : vv_yok yX4_restore 1 := ⟨by decide +kernel, by decide +kernel, by decide +kernel⟩
theorem wc_X4_undo : Cond.code yX4_undo cX4_undo 1 (some .int) ∈ vv_T := vv_mem 381 (by decide +kernel) rfl
theorem wi_X4_undo : Cond.instanceMethod yX4_undo ∈ vv_T := vv_mem 379 (by decide +kernel) rfl
theorem ws_X4_undo : Cond.selects yX4_undo.cls yX4_undo yX4_undo ∈ vv_T := vv_mem 380 (by decide +kernel) rfl
theorem yo_X4_undo : vv_yok yX4_undo 0 := ⟨by decide +kernel, by decide +kernel, by decide +kernel⟩
theorem wc_X4_append : Cond.code yX4_append cX4_append 2 (some .int) ∈ vv_T := vv_mem 389 (by decide +kernel) rfl
theorem wi_X4_append : Cond.instanceMethod yX4_append ∈ vv_T := vv_mem 387 (by decide +kernel) rfl
theorem ws_X4_append : Cond.selects yX4_append.cls yX4_append yX4_append ∈ vv_T := vv_mem 388 (by decide +kernel) rfl
theorem yo_X4_append : vv_yok yX4_append 1 := ⟨by decide +kernel, by decide +kernel, by decide +kernel⟩
theorem wc_X4_clearText : Cond.code yX4_clearText cX4_clearText 1 (some .int) ∈ vv_T := vv_mem 398 (by decide +kernel) rfl
theorem wi_X4_clearText : Cond.instanceMethod yX4_clearText ∈ vv_T := vv_mem 396 (by decide +kernel) rfl
theorem ws_X4_clearText : Cond.selects yX4_clearText.cls yX4_clearText yX4_clearText ∈ vv_T := vv_mem 397 (by decide +kernel) rfl
theorem yo_X4_clearText : vv_yok yX4_clearText 0 := ⟨by decide +kernel, by decide +kernel, by decide +kernel⟩
theorem wc_X4_carryOut : Cond.code yX4_carryOut cX4_carryOut 3 (some .int) ∈ vv_T := vv_mem 406 (by decide +kernel) rfl
theorem wi_X4_carryOut : Cond.instanceMethod yX4_carryOut ∈ vv_T := vv_mem 404 (by decide +kernel) rfl
theorem ws_X4_carryOut : Cond.selects yX4_carryOut.cls yX4_carryOut yX4_carryOut ∈ vv_T := vv_mem 405 (by decide +kernel) rfl
theorem yo_X4_carryOut : vv_yok yX4_carryOut 0 := ⟨by decide +kernel, by decide +kernel, by decide +kernel⟩
theorem wc_X4_count : Cond.code yX4_count cX4_count 3 (some .int) ∈ vv_T := vv_mem 438 (by decide +kernel) rfl
theorem wi_X4_count : Cond.instanceMethod yX4_count ∈ vv_T := vv_mem 436 (by decide +kernel) rfl
theorem ws_X4_count : Cond.selects yX4_count.cls yX4_count yX4_count ∈ vv_T := vv_mem 437 (by decide +kernel) rfl
theorem yo_X4_count : vv_yok yX4_count 1 := ⟨by decide +kernel, by decide +kernel, by decide +kernel⟩
theorem wc_X4_zone : Cond.code yX4_zone cX4_zone 3 (some .int) ∈ vv_T := vv_mem 452 (by decide +kernel) rfl
theorem wi_X4_zone : Cond.instanceMethod yX4_zone ∈ vv_T := vv_mem 450 (by decide +kernel) rfl
theorem ws_X4_zone : Cond.selects yX4_zone.cls yX4_zone yX4_zone ∈ vv_T := vv_mem 451 (by decide +kernel) rfl
theorem yo_X4_zone : vv_yok yX4_zone 2 := ⟨by decide +kernel, by decide +kernel, by decide +kernel⟩
theorem wc_X4_curve : Cond.code yX4_curve cX4_curve 3 (some .int) ∈ vv_T := vv_mem 466 (by decide +kernel) rfl
theorem wi_X4_curve : Cond.instanceMethod yX4_curve ∈ vv_T := vv_mem 464 (by decide +kernel) rfl
theorem ws_X4_curve : Cond.selects yX4_curve.cls yX4_curve yX4_curve ∈ vv_T := vv_mem 465 (by decide +kernel) rfl
theorem yo_X4_curve : vv_yok yX4_curve 2 := ⟨by decide +kernel, by decide +kernel, by decide +kernel⟩
theorem wc_X4_board : Cond.code yX4_board cX4_board 3 (some .int) ∈ vv_T := vv_mem 470 (by decide +kernel) rfl
theorem wi_X4_board : Cond.instanceMethod yX4_board ∈ vv_T := vv_mem 468 (by decide +kernel) rfl
theorem ws_X4_board : Cond.selects yX4_board.cls yX4_board yX4_board ∈ vv_T := vv_mem 469 (by decide +kernel) rfl
theorem yo_X4_board : vv_yok yX4_board 2 := ⟨by decide +kernel, by decide +kernel, by decide +kernel⟩
theorem wc_X4_fault : Cond.code yX4_fault cX4_fault 5 (some .int) ∈ vv_T := vv_mem 475 (by decide +kernel) rfl
theorem wi_X4_fault : Cond.instanceMethod yX4_fault ∈ vv_T := vv_mem 473 (by decide +kernel) rfl
theorem ws_X4_fault : Cond.selects yX4_fault.cls yX4_fault yX4_fault ∈ vv_T := vv_mem 474 (by decide +kernel) rfl
theorem yo_X4_fault : vv_yok yX4_fault 3 := ⟨by decide +kernel, by decide +kernel, by decide +kernel⟩
theorem wc_X4_worstCell : Cond.code yX4_worstCell cX4_worstCell 7 (some .int) ∈ vv_T := vv_mem 479 (by decide +kernel) rfl
theorem wi_X4_worstCell : Cond.instanceMethod yX4_worstCell ∈ vv_T := vv_mem 477 (by decide +kernel) rfl
theorem ws_X4_worstCell : Cond.selects yX4_worstCell.cls yX4_worstCell yX4_worstCell ∈ vv_T := vv_mem 478 (by decide +kernel) rfl
theorem yo_X4_worstCell : vv_yok yX4_worstCell 2 := ⟨by decide +kernel, by decide +kernel, by decide +kernel⟩
theorem wc_X4_faultCells : Cond.code yX4_faultCells cX4_faultCells 1 (some .int) ∈ vv_T := vv_mem 487 (by decide +kernel) rfl
theorem wi_X4_faultCells : Cond.instanceMethod yX4_faultCells ∈ vv_T := vv_mem 485 (by decide +kernel) rfl
theorem ws_X4_faultCells : Cond.selects yX4_faultCells.cls yX4_faultCells yX4_faultCells ∈ vv_T := vv_mem 486 (by decide +kernel) rfl
theorem yo_X4_faultCells : vv_yok yX4_faultCells 0 := ⟨by decide +kernel, by decide +kernel, by decide +kernel⟩
theorem wc_X4_foretell : Cond.code yX4_foretell cX4_foretell 5 (some .int) ∈ vv_T := vv_mem 501 (by decide +kernel) rfl
theorem wi_X4_foretell : Cond.instanceMethod yX4_foretell ∈ vv_T := vv_mem 499 (by decide +kernel) rfl
theorem ws_X4_foretell : Cond.selects yX4_foretell.cls yX4_foretell yX4_foretell ∈ vv_T := vv_mem 500 (by decide +kernel) rfl
theorem yo_X4_foretell : vv_yok yX4_foretell 2 := ⟨by decide +kernel, by decide +kernel, by decide +kernel⟩
theorem wc_X4_wouldFail : Cond.code yX4_wouldFail cX4_wouldFail 4 (some .int) ∈ vv_T := vv_mem 511 (by decide +kernel) rfl
theorem wi_X4_wouldFail : Cond.instanceMethod yX4_wouldFail ∈ vv_T := vv_mem 509 (by decide +kernel) rfl
theorem ws_X4_wouldFail : Cond.selects yX4_wouldFail.cls yX4_wouldFail yX4_wouldFail ∈ vv_T := vv_mem 510 (by decide +kernel) rfl
theorem yo_X4_wouldFail : vv_yok yX4_wouldFail 3 := ⟨by decide +kernel, by decide +kernel, by decide +kernel⟩
theorem wc_X4_heaviest : Cond.code yX4_heaviest cX4_heaviest 3 (some .int) ∈ vv_T := vv_mem 520 (by decide +kernel) rfl
theorem wi_X4_heaviest : Cond.instanceMethod yX4_heaviest ∈ vv_T := vv_mem 518 (by decide +kernel) rfl
theorem ws_X4_heaviest : Cond.selects yX4_heaviest.cls yX4_heaviest yX4_heaviest ∈ vv_T := vv_mem 519 (by decide +kernel) rfl
theorem yo_X4_heaviest : vv_yok yX4_heaviest 1 := ⟨by decide +kernel, by decide +kernel, by decide +kernel⟩
theorem wc_X4_room : Cond.code yX4_room cX4_room 1 (some .int) ∈ vv_T := vv_mem 524 (by decide +kernel) rfl
theorem wi_X4_room : Cond.instanceMethod yX4_room ∈ vv_T := vv_mem 522 (by decide +kernel) rfl
theorem ws_X4_room : Cond.selects yX4_room.cls yX4_room yX4_room ∈ vv_T := vv_mem 523 (by decide +kernel) rfl
theorem yo_X4_room : vv_yok yX4_room 0 := ⟨by decide +kernel, by decide +kernel, by decide +kernel⟩
theorem wc_X4_faultsInTrial : Cond.code yX4_faultsInTrial cX4_faultsInTrial 5 (some .int) ∈ vv_T := vv_mem 515 (by decide +kernel) rfl
theorem wi_X4_faultsInTrial : Cond.instanceMethod yX4_faultsInTrial ∈ vv_T := vv_mem 514 (by decide +kernel) rfl
theorem ws_X4_faultsInTrial : Cond.selects yX4_faultsInTrial.cls yX4_faultsInTrial yX4_faultsInTrial ∈ vv_T := vv_mem 13 (by decide +kernel) rfl
theorem yo_X4_faultsInTrial : vv_yok yX4_faultsInTrial 3 := ⟨by decide +kernel, by decide +kernel, by decide +kernel⟩
theorem wc_X4_isWithin : Cond.code yX4_isWithin cX4_isWithin 3 (some .boolean) ∈ vv_T := vv_mem 226 (by decide +kernel) rfl
theorem wi_X4_isWithin : Cond.static yX4_isWithin ∈ vv_T := vv_mem 225 (by decide +kernel) rfl
theorem yo_X4_isWithin : vv_yok yX4_isWithin 3 := ⟨by decide +kernel, by decide +kernel, by decide +kernel⟩
theorem wc_X5_init : Cond.code yX5_init cX5_init 3 none ∈ vv_T := vv_mem 533 (by decide +kernel) rfl
theorem wi_X5_init : Cond.instanceMethod yX5_init ∈ vv_T := vv_mem 532 (by decide +kernel) rfl
theorem yo_X5_init : vv_yok yX5_init 0 := ⟨by decide +kernel, by decide +kernel, by decide +kernel⟩
theorem wc_X5_in : Cond.code yX5_in cX5_in 3 (some .boolean) ∈ vv_T := vv_mem 580 (by decide +kernel) rfl
theorem wi_X5_in : Cond.static yX5_in ∈ vv_T := vv_mem 579 (by decide +kernel) rfl
theorem yo_X5_in : vv_yok yX5_in 3 := ⟨by decide +kernel, by decide +kernel, by decide +kernel⟩
theorem wc_X5_ofZone : Cond.code yX5_ofZone cX5_ofZone 2 (some .int) ∈ vv_T := vv_mem 537 (by decide +kernel) rfl
theorem wi_X5_ofZone : Cond.static yX5_ofZone ∈ vv_T := vv_mem 536 (by decide +kernel) rfl
theorem yo_X5_ofZone : vv_yok yX5_ofZone 2 := ⟨by decide +kernel, by decide +kernel, by decide +kernel⟩
theorem wc_X5_ofCurve : Cond.code yX5_ofCurve cX5_ofCurve 2 (some .int) ∈ vv_T := vv_mem 540 (by decide +kernel) rfl
theorem wi_X5_ofCurve : Cond.static yX5_ofCurve ∈ vv_T := vv_mem 539 (by decide +kernel) rfl
theorem yo_X5_ofCurve : vv_yok yX5_ofCurve 2 := ⟨by decide +kernel, by decide +kernel, by decide +kernel⟩
theorem wc_X5_of : Cond.code yX5_of cX5_of 2 (some .int) ∈ vv_T := vv_mem 602 (by decide +kernel) rfl
theorem wi_X5_of : Cond.static yX5_of ∈ vv_T := vv_mem 601 (by decide +kernel) rfl
theorem yo_X5_of : vv_yok yX5_of 2 := ⟨by decide +kernel, by decide +kernel, by decide +kernel⟩
theorem wc_X5_isZone : Cond.code yX5_isZone cX5_isZone 1 (some .boolean) ∈ vv_T := vv_mem 595 (by decide +kernel) rfl
theorem wi_X5_isZone : Cond.static yX5_isZone ∈ vv_T := vv_mem 594 (by decide +kernel) rfl
theorem yo_X5_isZone : vv_yok yX5_isZone 1 := ⟨by decide +kernel, by decide +kernel, by decide +kernel⟩
theorem wc_X5_isCurve : Cond.code yX5_isCurve cX5_isCurve 1 (some .boolean) ∈ vv_T := vv_mem 613 (by decide +kernel) rfl
theorem wi_X5_isCurve : Cond.static yX5_isCurve ∈ vv_T := vv_mem 612 (by decide +kernel) rfl
theorem yo_X5_isCurve : vv_yok yX5_isCurve 1 := ⟨by decide +kernel, by decide +kernel, by decide +kernel⟩
theorem wc_X5_isBoard : Cond.code yX5_isBoard cX5_isBoard 2 (some .boolean) ∈ vv_T := vv_mem 663 (by decide +kernel) rfl
theorem wi_X5_isBoard : Cond.instanceMethod yX5_isBoard ∈ vv_T := vv_mem 662 (by decide +kernel) rfl
theorem ws_X5_isBoard : Cond.selects yX5_isBoard.cls yX5_isBoard yX5_isBoard ∈ vv_T := vv_mem 25 (by decide +kernel) rfl
theorem yo_X5_isBoard : vv_yok yX5_isBoard 1 := ⟨by decide +kernel, by decide +kernel, by decide +kernel⟩
theorem wc_X5_isOn : Cond.code yX5_isOn cX5_isOn 2 (some .boolean) ∈ vv_T := vv_mem 643 (by decide +kernel) rfl
theorem wi_X5_isOn : Cond.instanceMethod yX5_isOn ∈ vv_T := vv_mem 642 (by decide +kernel) rfl
theorem ws_X5_isOn : Cond.selects yX5_isOn.cls yX5_isOn yX5_isOn ∈ vv_T := vv_mem 21 (by decide +kernel) rfl
theorem yo_X5_isOn : vv_yok yX5_isOn 1 := ⟨by decide +kernel, by decide +kernel, by decide +kernel⟩
theorem wc_X5_copy : Cond.code yX5_copy cX5_copy 5 none ∈ vv_T := vv_mem 573 (by decide +kernel) rfl
theorem wi_X5_copy : Cond.instanceMethod yX5_copy ∈ vv_T := vv_mem 572 (by decide +kernel) rfl
theorem ws_X5_copy : Cond.selects yX5_copy.cls yX5_copy yX5_copy ∈ vv_T := vv_mem 14 (by decide +kernel) rfl
theorem yo_X5_copy : vv_yok yX5_copy 3 := ⟨by decide +kernel, by decide +kernel, by decide +kernel⟩
theorem wc_X5_record : Cond.code yX5_record cX5_record 2 none ∈ vv_T := vv_mem 584 (by decide +kernel) rfl
theorem wi_X5_record : Cond.instanceMethod yX5_record ∈ vv_T := vv_mem 583 (by decide +kernel) rfl
theorem ws_X5_record : Cond.selects yX5_record.cls yX5_record yX5_record ∈ vv_T := vv_mem 15 (by decide +kernel) rfl
theorem yo_X5_record : vv_yok yX5_record 0 := ⟨by decide +kernel, by decide +kernel, by decide +kernel⟩
theorem wc_X5_undo : Cond.code yX5_undo cX5_undo 1 (some .int) ∈ vv_T := vv_mem 569 (by decide +kernel) rfl
theorem wi_X5_undo : Cond.instanceMethod yX5_undo ∈ vv_T := vv_mem 567 (by decide +kernel) rfl
theorem ws_X5_undo : Cond.selects yX5_undo.cls yX5_undo yX5_undo ∈ vv_T := vv_mem 568 (by decide +kernel) rfl
theorem yo_X5_undo : vv_yok yX5_undo 0 := ⟨by decide +kernel, by decide +kernel, by decide +kernel⟩
theorem wc_X5_take : Cond.code yX5_take cX5_take 2 (some .int) ∈ vv_T := vv_mem 577 (by decide +kernel) rfl
theorem wi_X5_take : Cond.instanceMethod yX5_take ∈ vv_T := vv_mem 575 (by decide +kernel) rfl
theorem ws_X5_take : Cond.selects yX5_take.cls yX5_take yX5_take ∈ vv_T := vv_mem 576 (by decide +kernel) rfl
theorem yo_X5_take : vv_yok yX5_take 1 := ⟨by decide +kernel, by decide +kernel, by decide +kernel⟩
theorem wc_X5_restore : Cond.code yX5_restore cX5_restore 2 (some .int) ∈ vv_T := vv_mem 588 (by decide +kernel) rfl
theorem wi_X5_restore : Cond.instanceMethod yX5_restore ∈ vv_T := vv_mem 586 (by decide +kernel) rfl
theorem ws_X5_restore : Cond.selects yX5_restore.cls yX5_restore yX5_restore ∈ vv_T := vv_mem 587 (by decide +kernel) rfl
theorem yo_X5_restore : vv_yok yX5_restore 1 := ⟨by decide +kernel, by decide +kernel, by decide +kernel⟩
theorem wc_X5_belt : Cond.code yX5_belt cX5_belt 3 (some .int) ∈ vv_T := vv_mem 606 (by decide +kernel) rfl
theorem wi_X5_belt : Cond.instanceMethod yX5_belt ∈ vv_T := vv_mem 605 (by decide +kernel) rfl
theorem ws_X5_belt : Cond.selects yX5_belt.cls yX5_belt yX5_belt ∈ vv_T := vv_mem 17 (by decide +kernel) rfl
theorem yo_X5_belt : vv_yok yX5_belt 0 := ⟨by decide +kernel, by decide +kernel, by decide +kernel⟩
theorem wc_X5_zoneOf : Cond.code yX5_zoneOf cX5_zoneOf 4 (some .int) ∈ vv_T := vv_mem 703 (by decide +kernel) rfl
theorem wi_X5_zoneOf : Cond.instanceMethod yX5_zoneOf ∈ vv_T := vv_mem 702 (by decide +kernel) rfl
theorem ws_X5_zoneOf : Cond.selects yX5_zoneOf.cls yX5_zoneOf yX5_zoneOf ∈ vv_T := vv_mem 34 (by decide +kernel) rfl
theorem yo_X5_zoneOf : vv_yok yX5_zoneOf 1 := ⟨by decide +kernel, by decide +kernel, by decide +kernel⟩
theorem wc_X5_many : Cond.code yX5_many cX5_many 4 (some .int) ∈ vv_T := vv_mem 599 (by decide +kernel) rfl
theorem wi_X5_many : Cond.instanceMethod yX5_many ∈ vv_T := vv_mem 598 (by decide +kernel) rfl
theorem ws_X5_many : Cond.selects yX5_many.cls yX5_many yX5_many ∈ vv_T := vv_mem 16 (by decide +kernel) rfl
theorem yo_X5_many : vv_yok yX5_many 1 := ⟨by decide +kernel, by decide +kernel, by decide +kernel⟩
theorem wc_X5_setZone : Cond.code yX5_setZone cX5_setZone 5 (some .int) ∈ vv_T := vv_mem 592 (by decide +kernel) rfl
theorem wi_X5_setZone : Cond.instanceMethod yX5_setZone ∈ vv_T := vv_mem 590 (by decide +kernel) rfl
theorem ws_X5_setZone : Cond.selects yX5_setZone.cls yX5_setZone yX5_setZone ∈ vv_T := vv_mem 591 (by decide +kernel) rfl
theorem yo_X5_setZone : vv_yok yX5_setZone 4 := ⟨by decide +kernel, by decide +kernel, by decide +kernel⟩
theorem wc_X5_put : Cond.code yX5_put cX5_put 5 (some .int) ∈ vv_T := vv_mem 620 (by decide +kernel) rfl
theorem wi_X5_put : Cond.instanceMethod yX5_put ∈ vv_T := vv_mem 619 (by decide +kernel) rfl
theorem ws_X5_put : Cond.selects yX5_put.cls yX5_put yX5_put ∈ vv_T := vv_mem 18 (by decide +kernel) rfl
theorem yo_X5_put : vv_yok yX5_put 3 := ⟨by decide +kernel, by decide +kernel, by decide +kernel⟩
theorem wc_X5_isCurveNumber : Cond.code yX5_isCurveNumber cX5_isCurveNumber 2 (some .boolean) ∈ vv_T := vv_mem 616 (by decide +kernel) rfl
theorem wi_X5_isCurveNumber : Cond.static yX5_isCurveNumber ∈ vv_T := vv_mem 615 (by decide +kernel) rfl
theorem yo_X5_isCurveNumber : vv_yok yX5_isCurveNumber 2 := ⟨by decide +kernel, by decide +kernel, by decide +kernel⟩
theorem wc_X5_setCurve : Cond.code yX5_setCurve cX5_setCurve 5 (some .int) ∈ vv_T := vv_mem 610 (by decide +kernel) rfl
theorem wi_X5_setCurve : Cond.instanceMethod yX5_setCurve ∈ vv_T := vv_mem 608 (by decide +kernel) rfl
theorem ws_X5_setCurve : Cond.selects yX5_setCurve.cls yX5_setCurve yX5_setCurve ∈ vv_T := vv_mem 609 (by decide +kernel) rfl
theorem yo_X5_setCurve : vv_yok yX5_setCurve 3 := ⟨by decide +kernel, by decide +kernel, by decide +kernel⟩
theorem wc_X5_isBeltNumber : Cond.code yX5_isBeltNumber cX5_isBeltNumber 2 (some .boolean) ∈ vv_T := vv_mem 627 (by decide +kernel) rfl
theorem wi_X5_isBeltNumber : Cond.static yX5_isBeltNumber ∈ vv_T := vv_mem 626 (by decide +kernel) rfl
theorem yo_X5_isBeltNumber : vv_yok yX5_isBeltNumber 2 := ⟨by decide +kernel, by decide +kernel, by decide +kernel⟩
theorem wc_X5_set : Cond.code yX5_set cX5_set 4 (some .int) ∈ vv_T := vv_mem 624 (by decide +kernel) rfl
theorem wi_X5_set : Cond.instanceMethod yX5_set ∈ vv_T := vv_mem 622 (by decide +kernel) rfl
theorem ws_X5_set : Cond.selects yX5_set.cls yX5_set yX5_set ∈ vv_T := vv_mem 623 (by decide +kernel) rfl
theorem yo_X5_set : vv_yok yX5_set 2 := ⟨by decide +kernel, by decide +kernel, by decide +kernel⟩
theorem wc_X5_lay : Cond.code yX5_lay cX5_lay 5 none ∈ vv_T := vv_mem 651 (by decide +kernel) rfl
theorem wi_X5_lay : Cond.instanceMethod yX5_lay ∈ vv_T := vv_mem 650 (by decide +kernel) rfl
theorem ws_X5_lay : Cond.selects yX5_lay.cls yX5_lay yX5_lay ∈ vv_T := vv_mem 23 (by decide +kernel) rfl
theorem yo_X5_lay : vv_yok yX5_lay 3 := ⟨by decide +kernel, by decide +kernel, by decide +kernel⟩
theorem wc_X5_hasRoom : Cond.code yX5_hasRoom cX5_hasRoom 2 (some .boolean) ∈ vv_T := vv_mem 639 (by decide +kernel) rfl
theorem wi_X5_hasRoom : Cond.instanceMethod yX5_hasRoom ∈ vv_T := vv_mem 638 (by decide +kernel) rfl
theorem ws_X5_hasRoom : Cond.selects yX5_hasRoom.cls yX5_hasRoom yX5_hasRoom ∈ vv_T := vv_mem 20 (by decide +kernel) rfl
theorem yo_X5_hasRoom : vv_yok yX5_hasRoom 0 := ⟨by decide +kernel, by decide +kernel, by decide +kernel⟩
theorem wc_X5_noLoad : Cond.code yX5_noLoad cX5_noLoad 3 (some .int) ∈ vv_T := vv_mem 635 (by decide +kernel) rfl
theorem wi_X5_noLoad : Cond.instanceMethod yX5_noLoad ∈ vv_T := vv_mem 634 (by decide +kernel) rfl
theorem ws_X5_noLoad : Cond.selects yX5_noLoad.cls yX5_noLoad yX5_noLoad ∈ vv_T := vv_mem 19 (by decide +kernel) rfl
theorem yo_X5_noLoad : vv_yok yX5_noLoad 2 := ⟨by decide +kernel, by decide +kernel, by decide +kernel⟩
theorem wc_X5_doLoad : Cond.code yX5_doLoad cX5_doLoad 3 (some .int) ∈ vv_T := vv_mem 647 (by decide +kernel) rfl
theorem wi_X5_doLoad : Cond.instanceMethod yX5_doLoad ∈ vv_T := vv_mem 646 (by decide +kernel) rfl
theorem ws_X5_doLoad : Cond.selects yX5_doLoad.cls yX5_doLoad yX5_doLoad ∈ vv_T := vv_mem 22 (by decide +kernel) rfl
theorem yo_X5_doLoad : vv_yok yX5_doLoad 2 := ⟨by decide +kernel, by decide +kernel, by decide +kernel⟩
theorem wc_X5_load : Cond.code yX5_load cX5_load 4 (some .int) ∈ vv_T := vv_mem 631 (by decide +kernel) rfl
theorem wi_X5_load : Cond.instanceMethod yX5_load ∈ vv_T := vv_mem 629 (by decide +kernel) rfl
theorem ws_X5_load : Cond.selects yX5_load.cls yX5_load yX5_load ∈ vv_T := vv_mem 630 (by decide +kernel) rfl
theorem yo_X5_load : vv_yok yX5_load 2 := ⟨by decide +kernel, by decide +kernel, by decide +kernel⟩
theorem wc_X5_noTakeOff : Cond.code yX5_noTakeOff cX5_noTakeOff 2 (some .int) ∈ vv_T := vv_mem 659 (by decide +kernel) rfl
theorem wi_X5_noTakeOff : Cond.instanceMethod yX5_noTakeOff ∈ vv_T := vv_mem 658 (by decide +kernel) rfl
theorem ws_X5_noTakeOff : Cond.selects yX5_noTakeOff.cls yX5_noTakeOff yX5_noTakeOff ∈ vv_T := vv_mem 24 (by decide +kernel) rfl
theorem yo_X5_noTakeOff : vv_yok yX5_noTakeOff 1 := ⟨by decide +kernel, by decide +kernel, by decide +kernel⟩
theorem wc_X5_takeOff : Cond.code yX5_takeOff cX5_takeOff 3 (some .int) ∈ vv_T := vv_mem 655 (by decide +kernel) rfl
theorem wi_X5_takeOff : Cond.instanceMethod yX5_takeOff ∈ vv_T := vv_mem 653 (by decide +kernel) rfl
theorem ws_X5_takeOff : Cond.selects yX5_takeOff.cls yX5_takeOff yX5_takeOff ∈ vv_T := vv_mem 654 (by decide +kernel) rfl
theorem yo_X5_takeOff : vv_yok yX5_takeOff 1 := ⟨by decide +kernel, by decide +kernel, by decide +kernel⟩
theorem wc_X5_faultIf : Cond.code yX5_faultIf cX5_faultIf 5 none ∈ vv_T := vv_mem 691 (by decide +kernel) rfl
theorem wi_X5_faultIf : Cond.instanceMethod yX5_faultIf ∈ vv_T := vv_mem 690 (by decide +kernel) rfl
theorem ws_X5_faultIf : Cond.selects yX5_faultIf.cls yX5_faultIf yX5_faultIf ∈ vv_T := vv_mem 31 (by decide +kernel) rfl
theorem yo_X5_faultIf : vv_yok yX5_faultIf 4 := ⟨by decide +kernel, by decide +kernel, by decide +kernel⟩
theorem wc_X5_curveOf : Cond.code yX5_curveOf cX5_curveOf 3 (some .int) ∈ vv_T := vv_mem 687 (by decide +kernel) rfl
theorem wi_X5_curveOf : Cond.instanceMethod yX5_curveOf ∈ vv_T := vv_mem 686 (by decide +kernel) rfl
theorem ws_X5_curveOf : Cond.selects yX5_curveOf.cls yX5_curveOf yX5_curveOf ∈ vv_T := vv_mem 30 (by decide +kernel) rfl
theorem yo_X5_curveOf : vv_yok yX5_curveOf 2 := ⟨by decide +kernel, by decide +kernel, by decide +kernel⟩
theorem wc_X5_goOn : Cond.code yX5_goOn cX5_goOn 3 none ∈ vv_T := vv_mem 683 (by decide +kernel) rfl
theorem wi_X5_goOn : Cond.instanceMethod yX5_goOn ∈ vv_T := vv_mem 682 (by decide +kernel) rfl
theorem ws_X5_goOn : Cond.selects yX5_goOn.cls yX5_goOn yX5_goOn ∈ vv_T := vv_mem 29 (by decide +kernel) rfl
theorem yo_X5_goOn : vv_yok yX5_goOn 1 := ⟨by decide +kernel, by decide +kernel, by decide +kernel⟩
theorem wc_X5_weightsIn : Cond.code yX5_weightsIn cX5_weightsIn 4 (some .int) ∈ vv_T := vv_mem 699 (by decide +kernel) rfl
theorem wi_X5_weightsIn : Cond.instanceMethod yX5_weightsIn ∈ vv_T := vv_mem 698 (by decide +kernel) rfl
theorem ws_X5_weightsIn : Cond.selects yX5_weightsIn.cls yX5_weightsIn yX5_weightsIn ∈ vv_T := vv_mem 33 (by decide +kernel) rfl
theorem yo_X5_weightsIn : vv_yok yX5_weightsIn 1 := ⟨by decide +kernel, by decide +kernel, by decide +kernel⟩
theorem wc_X5_heat : Cond.code yX5_heat cX5_heat 5 none ∈ vv_T := vv_mem 695 (by decide +kernel) rfl
theorem wi_X5_heat : Cond.instanceMethod yX5_heat ∈ vv_T := vv_mem 694 (by decide +kernel) rfl
theorem ws_X5_heat : Cond.selects yX5_heat.cls yX5_heat yX5_heat ∈ vv_T := vv_mem 32 (by decide +kernel) rfl
theorem yo_X5_heat : vv_yok yX5_heat 1 := ⟨by decide +kernel, by decide +kernel, by decide +kernel⟩
theorem wc_X5_warmUp : Cond.code yX5_warmUp cX5_warmUp 7 none ∈ vv_T := vv_mem 707 (by decide +kernel) rfl
theorem wi_X5_warmUp : Cond.instanceMethod yX5_warmUp ∈ vv_T := vv_mem 706 (by decide +kernel) rfl
theorem ws_X5_warmUp : Cond.selects yX5_warmUp.cls yX5_warmUp yX5_warmUp ∈ vv_T := vv_mem 35 (by decide +kernel) rfl
theorem yo_X5_warmUp : vv_yok yX5_warmUp 1 := ⟨by decide +kernel, by decide +kernel, by decide +kernel⟩
theorem wc_X5_hear : Cond.code yX5_hear cX5_hear 4 none ∈ vv_T := vv_mem 711 (by decide +kernel) rfl
theorem wi_X5_hear : Cond.instanceMethod yX5_hear ∈ vv_T := vv_mem 710 (by decide +kernel) rfl
theorem ws_X5_hear : Cond.selects yX5_hear.cls yX5_hear yX5_hear ∈ vv_T := vv_mem 36 (by decide +kernel) rfl
theorem yo_X5_hear : vv_yok yX5_hear 0 := ⟨by decide +kernel, by decide +kernel, by decide +kernel⟩
theorem wc_X5_tick : Cond.code yX5_tick cX5_tick 2 none ∈ vv_T := vv_mem 679 (by decide +kernel) rfl
theorem wi_X5_tick : Cond.instanceMethod yX5_tick ∈ vv_T := vv_mem 678 (by decide +kernel) rfl
theorem ws_X5_tick : Cond.selects yX5_tick.cls yX5_tick yX5_tick ∈ vv_T := vv_mem 28 (by decide +kernel) rfl
theorem yo_X5_tick : vv_yok yX5_tick 0 := ⟨by decide +kernel, by decide +kernel, by decide +kernel⟩
theorem wc_X5_noPass : Cond.code yX5_noPass cX5_noPass 2 (some .int) ∈ vv_T := vv_mem 671 (by decide +kernel) rfl
theorem wi_X5_noPass : Cond.instanceMethod yX5_noPass ∈ vv_T := vv_mem 670 (by decide +kernel) rfl
theorem ws_X5_noPass : Cond.selects yX5_noPass.cls yX5_noPass yX5_noPass ∈ vv_T := vv_mem 26 (by decide +kernel) rfl
theorem yo_X5_noPass : vv_yok yX5_noPass 1 := ⟨by decide +kernel, by decide +kernel, by decide +kernel⟩
theorem wc_X5_doPass : Cond.code yX5_doPass cX5_doPass 4 (some .int) ∈ vv_T := vv_mem 675 (by decide +kernel) rfl
theorem wi_X5_doPass : Cond.instanceMethod yX5_doPass ∈ vv_T := vv_mem 674 (by decide +kernel) rfl
theorem ws_X5_doPass : Cond.selects yX5_doPass.cls yX5_doPass yX5_doPass ∈ vv_T := vv_mem 27 (by decide +kernel) rfl
theorem yo_X5_doPass : vv_yok yX5_doPass 1 := ⟨by decide +kernel, by decide +kernel, by decide +kernel⟩
theorem wc_X5_pass : Cond.code yX5_pass cX5_pass 3 (some .int) ∈ vv_T := vv_mem 667 (by decide +kernel) rfl
theorem wi_X5_pass : Cond.instanceMethod yX5_pass ∈ vv_T := vv_mem 665 (by decide +kernel) rfl
theorem ws_X5_pass : Cond.selects yX5_pass.cls yX5_pass yX5_pass ∈ vv_T := vv_mem 666 (by decide +kernel) rfl
theorem yo_X5_pass : vv_yok yX5_pass 1 := ⟨by decide +kernel, by decide +kernel, by decide +kernel⟩
theorem wc_X5_append : Cond.code yX5_append cX5_append 2 (some .int) ∈ vv_T := vv_mem 715 (by decide +kernel) rfl
theorem wi_X5_append : Cond.instanceMethod yX5_append ∈ vv_T := vv_mem 713 (by decide +kernel) rfl
theorem ws_X5_append : Cond.selects yX5_append.cls yX5_append yX5_append ∈ vv_T := vv_mem 714 (by decide +kernel) rfl
theorem yo_X5_append : vv_yok yX5_append 1 := ⟨by decide +kernel, by decide +kernel, by decide +kernel⟩
theorem wc_X5_clearText : Cond.code yX5_clearText cX5_clearText 2 (some .int) ∈ vv_T := vv_mem 719 (by decide +kernel) rfl
theorem wi_X5_clearText : Cond.instanceMethod yX5_clearText ∈ vv_T := vv_mem 717 (by decide +kernel) rfl
theorem ws_X5_clearText : Cond.selects yX5_clearText.cls yX5_clearText yX5_clearText ∈ vv_T := vv_mem 718 (by decide +kernel) rfl
theorem yo_X5_clearText : vv_yok yX5_clearText 0 := ⟨by decide +kernel, by decide +kernel, by decide +kernel⟩
theorem wc_X5_code : Cond.code yX5_code cX5_code 1 (some .int) ∈ vv_T := vv_mem 735 (by decide +kernel) rfl
theorem wi_X5_code : Cond.instanceMethod yX5_code ∈ vv_T := vv_mem 734 (by decide +kernel) rfl
theorem ws_X5_code : Cond.selects yX5_code.cls yX5_code yX5_code ∈ vv_T := vv_mem 39 (by decide +kernel) rfl
theorem yo_X5_code : vv_yok yX5_code 0 := ⟨by decide +kernel, by decide +kernel, by decide +kernel⟩
theorem wc_X5_isDigit : Cond.code yX5_isDigit cX5_isDigit 1 (some .boolean) ∈ vv_T := vv_mem 743 (by decide +kernel) rfl
theorem wi_X5_isDigit : Cond.instanceMethod yX5_isDigit ∈ vv_T := vv_mem 742 (by decide +kernel) rfl
theorem ws_X5_isDigit : Cond.selects yX5_isDigit.cls yX5_isDigit yX5_isDigit ∈ vv_T := vv_mem 41 (by decide +kernel) rfl
theorem yo_X5_isDigit : vv_yok yX5_isDigit 0 := ⟨by decide +kernel, by decide +kernel, by decide +kernel⟩
theorem wc_X5_number : Cond.code yX5_number cX5_number 2 (some .int) ∈ vv_T := vv_mem 739 (by decide +kernel) rfl
theorem wi_X5_number : Cond.instanceMethod yX5_number ∈ vv_T := vv_mem 738 (by decide +kernel) rfl
theorem ws_X5_number : Cond.selects yX5_number.cls yX5_number yX5_number ∈ vv_T := vv_mem 40 (by decide +kernel) rfl
theorem yo_X5_number : vv_yok yX5_number 0 := ⟨by decide +kernel, by decide +kernel, by decide +kernel⟩
theorem wc_X5_readsOrder : Cond.code yX5_readsOrder cX5_readsOrder 1 (some .boolean) ∈ vv_T := vv_mem 731 (by decide +kernel) rfl
theorem wi_X5_readsOrder : Cond.instanceMethod yX5_readsOrder ∈ vv_T := vv_mem 730 (by decide +kernel) rfl
theorem ws_X5_readsOrder : Cond.selects yX5_readsOrder.cls yX5_readsOrder yX5_readsOrder ∈ vv_T := vv_mem 38 (by decide +kernel) rfl
theorem yo_X5_readsOrder : vv_yok yX5_readsOrder 0 := ⟨by decide +kernel, by decide +kernel, by decide +kernel⟩
theorem wc_X5_faultOf : Cond.code yX5_faultOf cX5_faultOf 2 (some .int) ∈ vv_T := vv_mem 727 (by decide +kernel) rfl
theorem wi_X5_faultOf : Cond.instanceMethod yX5_faultOf ∈ vv_T := vv_mem 726 (by decide +kernel) rfl
theorem ws_X5_faultOf : Cond.selects yX5_faultOf.cls yX5_faultOf yX5_faultOf ∈ vv_T := vv_mem 37 (by decide +kernel) rfl
theorem yo_X5_faultOf : vv_yok yX5_faultOf 0 := ⟨by decide +kernel, by decide +kernel, by decide +kernel⟩
theorem wc_X5_does : Cond.code yX5_does cX5_does 2 (some .boolean) ∈ vv_T := vv_mem 747 (by decide +kernel) rfl
theorem wi_X5_does : Cond.instanceMethod yX5_does ∈ vv_T := vv_mem 746 (by decide +kernel) rfl
theorem ws_X5_does : Cond.selects yX5_does.cls yX5_does yX5_does ∈ vv_T := vv_mem 42 (by decide +kernel) rfl
theorem yo_X5_does : vv_yok yX5_does 0 := ⟨by decide +kernel, by decide +kernel, by decide +kernel⟩
theorem wc_X5_carryOut : Cond.code yX5_carryOut cX5_carryOut 3 (some .int) ∈ vv_T := vv_mem 723 (by decide +kernel) rfl
theorem wi_X5_carryOut : Cond.instanceMethod yX5_carryOut ∈ vv_T := vv_mem 721 (by decide +kernel) rfl
theorem ws_X5_carryOut : Cond.selects yX5_carryOut.cls yX5_carryOut yX5_carryOut ∈ vv_T := vv_mem 722 (by decide +kernel) rfl
theorem yo_X5_carryOut : vv_yok yX5_carryOut 0 := ⟨by decide +kernel, by decide +kernel, by decide +kernel⟩
theorem wc_X5_faultless : Cond.code yX5_faultless cX5_faultless 3 (some .int) ∈ vv_T := vv_mem 755 (by decide +kernel) rfl
theorem wi_X5_faultless : Cond.instanceMethod yX5_faultless ∈ vv_T := vv_mem 754 (by decide +kernel) rfl
theorem ws_X5_faultless : Cond.selects yX5_faultless.cls yX5_faultless yX5_faultless ∈ vv_T := vv_mem 43 (by decide +kernel) rfl
theorem yo_X5_faultless : vv_yok yX5_faultless 0 := ⟨by decide +kernel, by decide +kernel, by decide +kernel⟩
theorem wc_X5_count : Cond.code yX5_count cX5_count 2 (some .int) ∈ vv_T := vv_mem 751 (by decide +kernel) rfl
theorem wi_X5_count : Cond.instanceMethod yX5_count ∈ vv_T := vv_mem 749 (by decide +kernel) rfl
theorem ws_X5_count : Cond.selects yX5_count.cls yX5_count yX5_count ∈ vv_T := vv_mem 750 (by decide +kernel) rfl
theorem yo_X5_count : vv_yok yX5_count 1 := ⟨by decide +kernel, by decide +kernel, by decide +kernel⟩
theorem wc_X5_firstCell : Cond.code yX5_firstCell cX5_firstCell 4 (some .int) ∈ vv_T := vv_mem 763 (by decide +kernel) rfl
theorem wi_X5_firstCell : Cond.instanceMethod yX5_firstCell ∈ vv_T := vv_mem 762 (by decide +kernel) rfl
theorem ws_X5_firstCell : Cond.selects yX5_firstCell.cls yX5_firstCell yX5_firstCell ∈ vv_T := vv_mem 44 (by decide +kernel) rfl
theorem yo_X5_firstCell : vv_yok yX5_firstCell 1 := ⟨by decide +kernel, by decide +kernel, by decide +kernel⟩
theorem wc_X5_boardsIn : Cond.code yX5_boardsIn cX5_boardsIn 4 (some .int) ∈ vv_T := vv_mem 767 (by decide +kernel) rfl
theorem wi_X5_boardsIn : Cond.instanceMethod yX5_boardsIn ∈ vv_T := vv_mem 766 (by decide +kernel) rfl
theorem ws_X5_boardsIn : Cond.selects yX5_boardsIn.cls yX5_boardsIn yX5_boardsIn ∈ vv_T := vv_mem 45 (by decide +kernel) rfl
theorem yo_X5_boardsIn : vv_yok yX5_boardsIn 1 := ⟨by decide +kernel, by decide +kernel, by decide +kernel⟩
theorem wc_X5_zone : Cond.code yX5_zone cX5_zone 3 (some .int) ∈ vv_T := vv_mem 759 (by decide +kernel) rfl
theorem wi_X5_zone : Cond.instanceMethod yX5_zone ∈ vv_T := vv_mem 757 (by decide +kernel) rfl
theorem ws_X5_zone : Cond.selects yX5_zone.cls yX5_zone yX5_zone ∈ vv_T := vv_mem 758 (by decide +kernel) rfl
theorem yo_X5_zone : vv_yok yX5_zone 2 := ⟨by decide +kernel, by decide +kernel, by decide +kernel⟩
theorem wc_X5_curve : Cond.code yX5_curve cX5_curve 3 (some .int) ∈ vv_T := vv_mem 771 (by decide +kernel) rfl
theorem wi_X5_curve : Cond.instanceMethod yX5_curve ∈ vv_T := vv_mem 769 (by decide +kernel) rfl
theorem ws_X5_curve : Cond.selects yX5_curve.cls yX5_curve yX5_curve ∈ vv_T := vv_mem 770 (by decide +kernel) rfl
theorem yo_X5_curve : vv_yok yX5_curve 2 := ⟨by decide +kernel, by decide +kernel, by decide +kernel⟩
theorem wc_X5_board : Cond.code yX5_board cX5_board 3 (some .int) ∈ vv_T := vv_mem 775 (by decide +kernel) rfl
theorem wi_X5_board : Cond.instanceMethod yX5_board ∈ vv_T := vv_mem 773 (by decide +kernel) rfl
theorem ws_X5_board : Cond.selects yX5_board.cls yX5_board yX5_board ∈ vv_T := vv_mem 774 (by decide +kernel) rfl
theorem yo_X5_board : vv_yok yX5_board 2 := ⟨by decide +kernel, by decide +kernel, by decide +kernel⟩
theorem wc_X5_hasFault : Cond.code yX5_hasFault cX5_hasFault 3 (some .boolean) ∈ vv_T := vv_mem 783 (by decide +kernel) rfl
theorem wi_X5_hasFault : Cond.instanceMethod yX5_hasFault ∈ vv_T := vv_mem 782 (by decide +kernel) rfl
theorem ws_X5_hasFault : Cond.selects yX5_hasFault.cls yX5_hasFault yX5_hasFault ∈ vv_T := vv_mem 46 (by decide +kernel) rfl
theorem yo_X5_hasFault : vv_yok yX5_hasFault 2 := ⟨by decide +kernel, by decide +kernel, by decide +kernel⟩
theorem wc_X5_fault : Cond.code yX5_fault cX5_fault 4 (some .int) ∈ vv_T := vv_mem 779 (by decide +kernel) rfl
theorem wi_X5_fault : Cond.instanceMethod yX5_fault ∈ vv_T := vv_mem 777 (by decide +kernel) rfl
theorem ws_X5_fault : Cond.selects yX5_fault.cls yX5_fault yX5_fault ∈ vv_T := vv_mem 778 (by decide +kernel) rfl
theorem yo_X5_fault : vv_yok yX5_fault 3 := ⟨by decide +kernel, by decide +kernel, by decide +kernel⟩
theorem wc_X5_faultsIn : Cond.code yX5_faultsIn cX5_faultsIn 6 (some .int) ∈ vv_T := vv_mem 791 (by decide +kernel) rfl
theorem wi_X5_faultsIn : Cond.instanceMethod yX5_faultsIn ∈ vv_T := vv_mem 790 (by decide +kernel) rfl
theorem ws_X5_faultsIn : Cond.selects yX5_faultsIn.cls yX5_faultsIn yX5_faultsIn ∈ vv_T := vv_mem 47 (by decide +kernel) rfl
theorem yo_X5_faultsIn : vv_yok yX5_faultsIn 2 := ⟨by decide +kernel, by decide +kernel, by decide +kernel⟩
theorem wc_X5_worstCell : Cond.code yX5_worstCell cX5_worstCell 7 (some .int) ∈ vv_T := vv_mem 787 (by decide +kernel) rfl
theorem wi_X5_worstCell : Cond.instanceMethod yX5_worstCell ∈ vv_T := vv_mem 785 (by decide +kernel) rfl
theorem ws_X5_worstCell : Cond.selects yX5_worstCell.cls yX5_worstCell yX5_worstCell ∈ vv_T := vv_mem 786 (by decide +kernel) rfl
theorem yo_X5_worstCell : vv_yok yX5_worstCell 2 := ⟨by decide +kernel, by decide +kernel, by decide +kernel⟩
theorem wc_X5_faultCells : Cond.code yX5_faultCells cX5_faultCells 3 (some .int) ∈ vv_T := vv_mem 795 (by decide +kernel) rfl
theorem wi_X5_faultCells : Cond.instanceMethod yX5_faultCells ∈ vv_T := vv_mem 793 (by decide +kernel) rfl
theorem ws_X5_faultCells : Cond.selects yX5_faultCells.cls yX5_faultCells yX5_faultCells ∈ vv_T := vv_mem 794 (by decide +kernel) rfl
theorem yo_X5_faultCells : vv_yok yX5_faultCells 0 := ⟨by decide +kernel, by decide +kernel, by decide +kernel⟩
theorem wc_X5_ride : Cond.code yX5_ride cX5_ride 3 (some .int) ∈ vv_T := vv_mem 803 (by decide +kernel) rfl
theorem wi_X5_ride : Cond.instanceMethod yX5_ride ∈ vv_T := vv_mem 802 (by decide +kernel) rfl
theorem ws_X5_ride : Cond.selects yX5_ride.cls yX5_ride yX5_ride ∈ vv_T := vv_mem 48 (by decide +kernel) rfl
theorem yo_X5_ride : vv_yok yX5_ride 1 := ⟨by decide +kernel, by decide +kernel, by decide +kernel⟩
theorem wc_X5_foretell : Cond.code yX5_foretell cX5_foretell 5 (some .int) ∈ vv_T := vv_mem 799 (by decide +kernel) rfl
theorem wi_X5_foretell : Cond.instanceMethod yX5_foretell ∈ vv_T := vv_mem 797 (by decide +kernel) rfl
theorem ws_X5_foretell : Cond.selects yX5_foretell.cls yX5_foretell yX5_foretell ∈ vv_T := vv_mem 798 (by decide +kernel) rfl
theorem yo_X5_foretell : vv_yok yX5_foretell 2 := ⟨by decide +kernel, by decide +kernel, by decide +kernel⟩
theorem wc_X5_failsBy : Cond.code yX5_failsBy cX5_failsBy 6 (some .int) ∈ vv_T := vv_mem 811 (by decide +kernel) rfl
theorem wi_X5_failsBy : Cond.instanceMethod yX5_failsBy ∈ vv_T := vv_mem 810 (by decide +kernel) rfl
theorem ws_X5_failsBy : Cond.selects yX5_failsBy.cls yX5_failsBy yX5_failsBy ∈ vv_T := vv_mem 49 (by decide +kernel) rfl
theorem yo_X5_failsBy : vv_yok yX5_failsBy 3 := ⟨by decide +kernel, by decide +kernel, by decide +kernel⟩
theorem wc_X5_wouldFail : Cond.code yX5_wouldFail cX5_wouldFail 4 (some .int) ∈ vv_T := vv_mem 807 (by decide +kernel) rfl
theorem wi_X5_wouldFail : Cond.instanceMethod yX5_wouldFail ∈ vv_T := vv_mem 805 (by decide +kernel) rfl
theorem ws_X5_wouldFail : Cond.selects yX5_wouldFail.cls yX5_wouldFail yX5_wouldFail ∈ vv_T := vv_mem 806 (by decide +kernel) rfl
theorem yo_X5_wouldFail : vv_yok yX5_wouldFail 3 := ⟨by decide +kernel, by decide +kernel, by decide +kernel⟩
theorem wc_X5_heaviest : Cond.code yX5_heaviest cX5_heaviest 3 (some .int) ∈ vv_T := vv_mem 815 (by decide +kernel) rfl
theorem wi_X5_heaviest : Cond.instanceMethod yX5_heaviest ∈ vv_T := vv_mem 813 (by decide +kernel) rfl
theorem ws_X5_heaviest : Cond.selects yX5_heaviest.cls yX5_heaviest yX5_heaviest ∈ vv_T := vv_mem 814 (by decide +kernel) rfl
theorem yo_X5_heaviest : vv_yok yX5_heaviest 1 := ⟨by decide +kernel, by decide +kernel, by decide +kernel⟩
theorem wc_X5_room : Cond.code yX5_room cX5_room 2 (some .int) ∈ vv_T := vv_mem 819 (by decide +kernel) rfl
theorem wi_X5_room : Cond.instanceMethod yX5_room ∈ vv_T := vv_mem 817 (by decide +kernel) rfl
theorem ws_X5_room : Cond.selects yX5_room.cls yX5_room yX5_room ∈ vv_T := vv_mem 818 (by decide +kernel) rfl
theorem yo_X5_room : vv_yok yX5_room 0 := ⟨by decide +kernel, by decide +kernel, by decide +kernel⟩
theorem wc_J13_bitCount_95d88 : Cond.code yJ13_bitCount_95d88 cJ13_bitCount_95d88 2 (some .int) ∈ vv_T := vv_mem 494 (by decide +kernel) rfl
theorem wi_J13_bitCount_95d88 : Cond.static yJ13_bitCount_95d88 ∈ vv_T := vv_mem 493 (by decide +kernel) rfl
theorem yo_J13_bitCount_95d88 : vv_yok yJ13_bitCount_95d88 1 := ⟨by decide +kernel, by decide +kernel, by decide +kernel⟩
theorem wc_J9_max_7cf53 : Cond.code yJ9_max_7cf53 cJ9_max_7cf53 2 (some .int) ∈ vv_T := vv_mem 337 (by decide +kernel) rfl
theorem wi_J9_max_7cf53 : Cond.static yJ9_max_7cf53 ∈ vv_T := vv_mem 336 (by decide +kernel) rfl
theorem yo_J9_max_7cf53 : vv_yok yJ9_max_7cf53 2 := ⟨by decide +kernel, by decide +kernel, by decide +kernel⟩
theorem wc_J9_min_7cf53 : Cond.code yJ9_min_7cf53 cJ9_min_7cf53 2 (some .int) ∈ vv_T := vv_mem 340 (by decide +kernel) rfl
theorem wi_J9_min_7cf53 : Cond.static yJ9_min_7cf53 ∈ vv_T := vv_mem 339 (by decide +kernel) rfl
theorem yo_J9_min_7cf53 : vv_yok yJ9_min_7cf53 2 := ⟨by decide +kernel, by decide +kernel, by decide +kernel⟩
theorem wm_L_9 : Cond.methodLink RL 9 yX4_init ∈ vv_T := vv_mem 62 (by decide +kernel) rfl
theorem wm_X4_3 : Cond.methodLink RX4 3 objectInit ∈ vv_T := vv_mem 65 (by decide +kernel) rfl
theorem wm_X4_11 : Cond.methodLink RX4 11 yX1_init ∈ vv_T := vv_mem 70 (by decide +kernel) rfl
theorem wm_X1_3 : Cond.methodLink RX1 3 objectInit ∈ vv_T := vv_mem 73 (by decide +kernel) rfl
theorem wm_X1_11 : Cond.methodLink RX1 11 yX2_init ∈ vv_T := vv_mem 76 (by decide +kernel) rfl
theorem wm_X2_3 : Cond.methodLink RX2 3 objectInit ∈ vv_T := vv_mem 79 (by decide +kernel) rfl
theorem wm_X2_33 : Cond.methodLink RX2 33 arraycopyName ∈ vv_T := vv_mem 84 (by decide +kernel) rfl
theorem wm_X4_18 : Cond.methodLink RX4 18 yX0_init ∈ vv_T := vv_mem 142 (by decide +kernel) rfl
theorem wm_X0_3 : Cond.methodLink RX0 3 objectInit ∈ vv_T := vv_mem 145 (by decide +kernel) rfl
theorem wm_X0_17 : Cond.methodLink RX0 17 yX1_init ∈ vv_T := vv_mem 148 (by decide +kernel) rfl
theorem wm_X3_3 : Cond.methodLink RX3 3 objectInit ∈ vv_T := vv_mem 165 (by decide +kernel) rfl
theorem wm_X4_32 : Cond.methodLink RX4 32 yX2_init ∈ vv_T := vv_mem 190 (by decide +kernel) rfl
theorem wm_L_13 : Cond.methodLink RL 13 yX4_setZone ∈ vv_T := vv_mem 204 (by decide +kernel) rfl
theorem wm_X4_37 : Cond.methodLink RX4 37 yX0_keep ∈ vv_T := vv_mem 208 (by decide +kernel) rfl
theorem wm_X0_25 : Cond.methodLink RX0 25 yX1_become ∈ vv_T := vv_mem 212 (by decide +kernel) rfl
theorem wm_X1_26 : Cond.methodLink RX1 26 yX2_become ∈ vv_T := vv_mem 216 (by decide +kernel) rfl
theorem wm_X4_44 : Cond.methodLink RX4 44 yX2_changeZone ∈ vv_T := vv_mem 220 (by decide +kernel) rfl
theorem wm_X2_59 : Cond.methodLink RX2 59 yX2_boardsThatAre ∈ vv_T := vv_mem 227 (by decide +kernel) rfl
theorem wm_X2_63 : Cond.methodLink RX2 63 yX2_beltLength ∈ vv_T := vv_mem 231 (by decide +kernel) rfl
theorem wm_X2_153 : Cond.methodLink RX2 153 yX2_firstCellOf ∈ vv_T := vv_mem 235 (by decide +kernel) rfl
theorem wm_X4_48 : Cond.methodLink RX4 48 yX0_recordUnlessError ∈ vv_T := vv_mem 239 (by decide +kernel) rfl
theorem wm_L_18 : Cond.methodLink RL 18 yX4_setCurve ∈ vv_T := vv_mem 243 (by decide +kernel) rfl
theorem wm_X4_52 : Cond.methodLink RX4 52 yX2_changeCurve ∈ vv_T := vv_mem 247 (by decide +kernel) rfl
theorem wm_L_23 : Cond.methodLink RL 23 yX4_set ∈ vv_T := vv_mem 255 (by decide +kernel) rfl
theorem wm_X4_56 : Cond.methodLink RX4 56 yX2_changeNumber ∈ vv_T := vv_mem 259 (by decide +kernel) rfl
theorem wm_L_28 : Cond.methodLink RL 28 yX4_load ∈ vv_T := vv_mem 267 (by decide +kernel) rfl
theorem wm_X4_60 : Cond.methodLink RX4 60 yX2_addBoard ∈ vv_T := vv_mem 271 (by decide +kernel) rfl
theorem wm_X2_79 : Cond.methodLink RX2 79 yX2_isStartFree ∈ vv_T := vv_mem 275 (by decide +kernel) rfl
theorem wm_X2_91 : Cond.methodLink RX2 91 yX2_isOnBelt ∈ vv_T := vv_mem 279 (by decide +kernel) rfl
theorem wm_X2_83 : Cond.methodLink RX2 83 yX2_placeBoard ∈ vv_T := vv_mem 283 (by decide +kernel) rfl
theorem wm_L_32 : Cond.methodLink RL 32 yX4_takeOff ∈ vv_T := vv_mem 287 (by decide +kernel) rfl
theorem wm_X4_63 : Cond.methodLink RX4 63 yX2_removeBoard ∈ vv_T := vv_mem 291 (by decide +kernel) rfl
theorem wm_X2_87 : Cond.methodLink RX2 87 yX2_hasBoard ∈ vv_T := vv_mem 295 (by decide +kernel) rfl
theorem wm_L_37 : Cond.methodLink RL 37 yX4_pass ∈ vv_T := vv_mem 299 (by decide +kernel) rfl
theorem wm_X4_66 : Cond.methodLink RX4 66 yX2_letPass ∈ vv_T := vv_mem 303 (by decide +kernel) rfl
theorem wm_X2_94 : Cond.methodLink RX2 94 yX2_letOnePass ∈ vv_T := vv_mem 307 (by decide +kernel) rfl
theorem wm_X2_109 : Cond.methodLink RX2 109 yX2_moveBoards ∈ vv_T := vv_mem 311 (by decide +kernel) rfl
theorem wm_X2_121 : Cond.methodLink RX2 121 yX2_zoneAt ∈ vv_T := vv_mem 315 (by decide +kernel) rfl
theorem wm_X2_124 : Cond.methodLink RX2 124 yX2_leave ∈ vv_T := vv_mem 319 (by decide +kernel) rfl
theorem wm_X2_128 : Cond.methodLink RX2 128 yX2_noteFault ∈ vv_T := vv_mem 323 (by decide +kernel) rfl
theorem wm_X2_112 : Cond.methodLink RX2 112 yX2_changeWarmths ∈ vv_T := vv_mem 327 (by decide +kernel) rfl
theorem wm_X2_132 : Cond.methodLink RX2 132 yX2_sumWeights ∈ vv_T := vv_mem 331 (by decide +kernel) rfl
theorem wm_X2_135 : Cond.methodLink RX2 135 yJ9_max_7cf53 ∈ vv_T := vv_mem 335 (by decide +kernel) rfl
theorem wm_X2_140 : Cond.methodLink RX2 140 yJ9_min_7cf53 ∈ vv_T := vv_mem 338 (by decide +kernel) rfl
theorem wm_X2_115 : Cond.methodLink RX2 115 yX2_warmBoards ∈ vv_T := vv_mem 341 (by decide +kernel) rfl
theorem wm_X2_143 : Cond.methodLink RX2 143 yX2_warm ∈ vv_T := vv_mem 345 (by decide +kernel) rfl
theorem wm_X2_147 : Cond.methodLink RX2 147 yX2_judgeOnBelt ∈ vv_T := vv_mem 349 (by decide +kernel) rfl
theorem wm_X2_118 : Cond.methodLink RX2 118 yX2_hearPleas ∈ vv_T := vv_mem 353 (by decide +kernel) rfl
theorem wm_X2_150 : Cond.methodLink RX2 150 yX2_weightForSlower ∈ vv_T := vv_mem 357 (by decide +kernel) rfl
theorem wm_L_41 : Cond.methodLink RL 41 yX4_take ∈ vv_T := vv_mem 361 (by decide +kernel) rfl
theorem wm_X4_69 : Cond.methodLink RX4 69 yX1_takeSnapshot ∈ vv_T := vv_mem 365 (by decide +kernel) rfl
theorem wm_L_45 : Cond.methodLink RL 45 yX4_restore ∈ vv_T := vv_mem 370 (by decide +kernel) rfl
theorem wm_X4_72 : Cond.methodLink RX4 72 yX1_restoreSnapshot ∈ vv_T := vv_mem 374 (by decide +kernel) rfl
theorem wm_L_49 : Cond.methodLink RL 49 yX4_undo ∈ vv_T := vv_mem 378 (by decide +kernel) rfl
theorem wm_X4_75 : Cond.methodLink RX4 75 yX0_goBack ∈ vv_T := vv_mem 382 (by decide +kernel) rfl
theorem wm_L_54 : Cond.methodLink RL 54 yX4_append ∈ vv_T := vv_mem 386 (by decide +kernel) rfl
theorem wm_X4_79 : Cond.methodLink RX4 79 yX3_add ∈ vv_T := vv_mem 390 (by decide +kernel) rfl
theorem wm_L_58 : Cond.methodLink RL 58 yX4_clearText ∈ vv_T := vv_mem 395 (by decide +kernel) rfl
theorem wm_X4_82 : Cond.methodLink RX4 82 yX3_wipe ∈ vv_T := vv_mem 399 (by decide +kernel) rfl
theorem wm_L_62 : Cond.methodLink RL 62 yX4_carryOut ∈ vv_T := vv_mem 403 (by decide +kernel) rfl
theorem wm_X4_86 : Cond.methodLink RX4 86 yX3_firstFault ∈ vv_T := vv_mem 407 (by decide +kernel) rfl
theorem wm_X3_26 : Cond.methodLink RX3 26 yX3_placeAfter ∈ vv_T := vv_mem 411 (by decide +kernel) rfl
theorem wm_X3_30 : Cond.methodLink RX3 30 yX3_placeAfterLetter ∈ vv_T := vv_mem 414 (by decide +kernel) rfl
theorem wm_X3_34 : Cond.methodLink RX3 34 yX3_placeAfterFirstDigit ∈ vv_T := vv_mem 417 (by decide +kernel) rfl
theorem wm_X3_38 : Cond.methodLink RX3 38 yX3_isDigit ∈ vv_T := vv_mem 420 (by decide +kernel) rfl
theorem wm_X4_89 : Cond.methodLink RX4 89 yX3_readOrder ∈ vv_T := vv_mem 423 (by decide +kernel) rfl
theorem wm_X4_103 : Cond.methodLink RX4 103 yX2_obey ∈ vv_T := vv_mem 427 (by decide +kernel) rfl
theorem wm_X2_97 : Cond.methodLink RX2 97 yX2_addBoard ∈ vv_T := vv_mem 431 (by decide +kernel) rfl
theorem wm_X2_100 : Cond.methodLink RX2 100 yX2_letPass ∈ vv_T := vv_mem 432 (by decide +kernel) rfl
theorem wm_X2_103 : Cond.methodLink RX2 103 yX2_removeBoard ∈ vv_T := vv_mem 433 (by decide +kernel) rfl
theorem wm_X2_106 : Cond.methodLink RX2 106 yX2_changeNumber ∈ vv_T := vv_mem 434 (by decide +kernel) rfl
theorem wm_L_66 : Cond.methodLink RL 66 yX4_count ∈ vv_T := vv_mem 435 (by decide +kernel) rfl
theorem wm_X4_112 : Cond.methodLink RX4 112 yX2_boardsThatAre ∈ vv_T := vv_mem 439 (by decide +kernel) rfl
theorem wm_X4_115 : Cond.methodLink RX4 115 yX2_boardsLeftFaultless ∈ vv_T := vv_mem 440 (by decide +kernel) rfl
theorem wm_X4_118 : Cond.methodLink RX4 118 yX2_beltLength ∈ vv_T := vv_mem 444 (by decide +kernel) rfl
theorem wm_X4_131 : Cond.methodLink RX4 131 yX1_snapshots ∈ vv_T := vv_mem 445 (by decide +kernel) rfl
theorem wm_L_70 : Cond.methodLink RL 70 yX4_zone ∈ vv_T := vv_mem 449 (by decide +kernel) rfl
theorem wm_X4_140 : Cond.methodLink RX4 140 yX4_isWithin ∈ vv_T := vv_mem 453 (by decide +kernel) rfl
theorem wm_X4_147 : Cond.methodLink RX4 147 yX2_firstCellOf ∈ vv_T := vv_mem 454 (by decide +kernel) rfl
theorem wm_X4_150 : Cond.methodLink RX4 150 yX2_boardsIn ∈ vv_T := vv_mem 455 (by decide +kernel) rfl
theorem wm_X4_153 : Cond.methodLink RX4 153 yX2_weightIn ∈ vv_T := vv_mem 459 (by decide +kernel) rfl
theorem wm_L_74 : Cond.methodLink RL 74 yX4_curve ∈ vv_T := vv_mem 463 (by decide +kernel) rfl
theorem wm_L_78 : Cond.methodLink RL 78 yX4_board ∈ vv_T := vv_mem 467 (by decide +kernel) rfl
theorem wm_X4_159 : Cond.methodLink RX4 159 yX2_hasBoard ∈ vv_T := vv_mem 471 (by decide +kernel) rfl
theorem wm_L_82 : Cond.methodLink RL 82 yX4_fault ∈ vv_T := vv_mem 472 (by decide +kernel) rfl
theorem wm_L_86 : Cond.methodLink RL 86 yX4_worstCell ∈ vv_T := vv_mem 476 (by decide +kernel) rfl
theorem wm_X4_166 : Cond.methodLink RX4 166 yX2_boardsWithFault ∈ vv_T := vv_mem 480 (by decide +kernel) rfl
theorem wm_L_90 : Cond.methodLink RL 90 yX4_faultCells ∈ vv_T := vv_mem 484 (by decide +kernel) rfl
theorem wm_X4_169 : Cond.methodLink RX4 169 yX2_setOfFaultCells ∈ vv_T := vv_mem 488 (by decide +kernel) rfl
theorem wm_X4_173 : Cond.methodLink RX4 173 yJ13_bitCount_95d88 ∈ vv_T := vv_mem 492 (by decide +kernel) rfl
theorem wm_L_94 : Cond.methodLink RL 94 yX4_foretell ∈ vv_T := vv_mem 498 (by decide +kernel) rfl
theorem wm_X4_179 : Cond.methodLink RX4 179 yX2_isOnBelt ∈ vv_T := vv_mem 502 (by decide +kernel) rfl
theorem wm_X4_182 : Cond.methodLink RX4 182 yX2_become ∈ vv_T := vv_mem 503 (by decide +kernel) rfl
theorem wm_X4_186 : Cond.methodLink RX4 186 yX2_passUntilLeft ∈ vv_T := vv_mem 504 (by decide +kernel) rfl
theorem wm_L_98 : Cond.methodLink RL 98 yX4_wouldFail ∈ vv_T := vv_mem 508 (by decide +kernel) rfl
theorem wm_X4_189 : Cond.methodLink RX4 189 yX4_faultsInTrial ∈ vv_T := vv_mem 512 (by decide +kernel) rfl
theorem wm_X4_195 : Cond.methodLink RX4 195 yX2_placeBoard ∈ vv_T := vv_mem 516 (by decide +kernel) rfl
theorem wm_L_102 : Cond.methodLink RL 102 yX4_heaviest ∈ vv_T := vv_mem 517 (by decide +kernel) rfl
theorem wm_L_106 : Cond.methodLink RL 106 yX4_room ∈ vv_T := vv_mem 521 (by decide +kernel) rfl
theorem wm_X4_192 : Cond.methodLink RX4 192 yX2_passUntilFree ∈ vv_T := vv_mem 525 (by decide +kernel) rfl
theorem wm_L_12 : Cond.methodLink RL 12 yX5_init ∈ vv_T := vv_mem 531 (by decide +kernel) rfl
theorem wm_X5_1 : Cond.methodLink RX5 1 objectInit ∈ vv_T := vv_mem 534 (by decide +kernel) rfl
theorem wm_X5_16 : Cond.methodLink RX5 16 yX5_ofZone ∈ vv_T := vv_mem 535 (by decide +kernel) rfl
theorem wm_X5_20 : Cond.methodLink RX5 20 yX5_ofCurve ∈ vv_T := vv_mem 538 (by decide +kernel) rfl
theorem wm_L_53 : Cond.methodLink RL 53 yX5_undo ∈ vv_T := vv_mem 566 (by decide +kernel) rfl
theorem wm_X5_34 : Cond.methodLink RX5 34 yX5_copy ∈ vv_T := vv_mem 570 (by decide +kernel) rfl
theorem wm_L_44 : Cond.methodLink RL 44 yX5_take ∈ vv_T := vv_mem 574 (by decide +kernel) rfl
theorem wm_X5_23 : Cond.methodLink RX5 23 yX5_in ∈ vv_T := vv_mem 578 (by decide +kernel) rfl
theorem wm_X5_38 : Cond.methodLink RX5 38 yX5_record ∈ vv_T := vv_mem 581 (by decide +kernel) rfl
theorem wm_L_48 : Cond.methodLink RL 48 yX5_restore ∈ vv_T := vv_mem 585 (by decide +kernel) rfl
theorem wm_L_17 : Cond.methodLink RL 17 yX5_setZone ∈ vv_T := vv_mem 589 (by decide +kernel) rfl
theorem wm_X5_41 : Cond.methodLink RX5 41 yX5_isZone ∈ vv_T := vv_mem 593 (by decide +kernel) rfl
theorem wm_X5_45 : Cond.methodLink RX5 45 yX5_many ∈ vv_T := vv_mem 596 (by decide +kernel) rfl
theorem wm_X5_27 : Cond.methodLink RX5 27 yX5_of ∈ vv_T := vv_mem 600 (by decide +kernel) rfl
theorem wm_X5_49 : Cond.methodLink RX5 49 yX5_belt ∈ vv_T := vv_mem 603 (by decide +kernel) rfl
theorem wm_L_22 : Cond.methodLink RL 22 yX5_setCurve ∈ vv_T := vv_mem 607 (by decide +kernel) rfl
theorem wm_X5_53 : Cond.methodLink RX5 53 yX5_isCurve ∈ vv_T := vv_mem 611 (by decide +kernel) rfl
theorem wm_X5_56 : Cond.methodLink RX5 56 yX5_isCurveNumber ∈ vv_T := vv_mem 614 (by decide +kernel) rfl
theorem wm_X5_60 : Cond.methodLink RX5 60 yX5_put ∈ vv_T := vv_mem 617 (by decide +kernel) rfl
theorem wm_L_27 : Cond.methodLink RL 27 yX5_set ∈ vv_T := vv_mem 621 (by decide +kernel) rfl
theorem wm_X5_64 : Cond.methodLink RX5 64 yX5_isBeltNumber ∈ vv_T := vv_mem 625 (by decide +kernel) rfl
theorem wm_L_31 : Cond.methodLink RL 31 yX5_load ∈ vv_T := vv_mem 628 (by decide +kernel) rfl
theorem wm_X5_77 : Cond.methodLink RX5 77 yX5_noLoad ∈ vv_T := vv_mem 632 (by decide +kernel) rfl
theorem wm_X5_70 : Cond.methodLink RX5 70 yX5_hasRoom ∈ vv_T := vv_mem 636 (by decide +kernel) rfl
theorem wm_X5_67 : Cond.methodLink RX5 67 yX5_isOn ∈ vv_T := vv_mem 640 (by decide +kernel) rfl
theorem wm_X5_80 : Cond.methodLink RX5 80 yX5_doLoad ∈ vv_T := vv_mem 644 (by decide +kernel) rfl
theorem wm_X5_74 : Cond.methodLink RX5 74 yX5_lay ∈ vv_T := vv_mem 648 (by decide +kernel) rfl
theorem wm_L_36 : Cond.methodLink RL 36 yX5_takeOff ∈ vv_T := vv_mem 652 (by decide +kernel) rfl
theorem wm_X5_86 : Cond.methodLink RX5 86 yX5_noTakeOff ∈ vv_T := vv_mem 656 (by decide +kernel) rfl
theorem wm_X5_83 : Cond.methodLink RX5 83 yX5_isBoard ∈ vv_T := vv_mem 660 (by decide +kernel) rfl
theorem wm_L_40 : Cond.methodLink RL 40 yX5_pass ∈ vv_T := vv_mem 664 (by decide +kernel) rfl
theorem wm_X5_118 : Cond.methodLink RX5 118 yX5_noPass ∈ vv_T := vv_mem 668 (by decide +kernel) rfl
theorem wm_X5_121 : Cond.methodLink RX5 121 yX5_doPass ∈ vv_T := vv_mem 672 (by decide +kernel) rfl
theorem wm_X5_115 : Cond.methodLink RX5 115 yX5_tick ∈ vv_T := vv_mem 676 (by decide +kernel) rfl
theorem wm_X5_102 : Cond.methodLink RX5 102 yX5_goOn ∈ vv_T := vv_mem 680 (by decide +kernel) rfl
theorem wm_X5_89 : Cond.methodLink RX5 89 yX5_curveOf ∈ vv_T := vv_mem 684 (by decide +kernel) rfl
theorem wm_X5_92 : Cond.methodLink RX5 92 yX5_faultIf ∈ vv_T := vv_mem 688 (by decide +kernel) rfl
theorem wm_X5_106 : Cond.methodLink RX5 106 yX5_heat ∈ vv_T := vv_mem 692 (by decide +kernel) rfl
theorem wm_X5_99 : Cond.methodLink RX5 99 yX5_weightsIn ∈ vv_T := vv_mem 696 (by decide +kernel) rfl
theorem wm_X5_96 : Cond.methodLink RX5 96 yX5_zoneOf ∈ vv_T := vv_mem 700 (by decide +kernel) rfl
theorem wm_X5_109 : Cond.methodLink RX5 109 yX5_warmUp ∈ vv_T := vv_mem 704 (by decide +kernel) rfl
theorem wm_X5_112 : Cond.methodLink RX5 112 yX5_hear ∈ vv_T := vv_mem 708 (by decide +kernel) rfl
theorem wm_L_57 : Cond.methodLink RL 57 yX5_append ∈ vv_T := vv_mem 712 (by decide +kernel) rfl
theorem wm_L_61 : Cond.methodLink RL 61 yX5_clearText ∈ vv_T := vv_mem 716 (by decide +kernel) rfl
theorem wm_L_65 : Cond.methodLink RL 65 yX5_carryOut ∈ vv_T := vv_mem 720 (by decide +kernel) rfl
theorem wm_X5_151 : Cond.methodLink RX5 151 yX5_faultOf ∈ vv_T := vv_mem 724 (by decide +kernel) rfl
theorem wm_X5_148 : Cond.methodLink RX5 148 yX5_readsOrder ∈ vv_T := vv_mem 728 (by decide +kernel) rfl
theorem wm_X5_130 : Cond.methodLink RX5 130 yX5_code ∈ vv_T := vv_mem 732 (by decide +kernel) rfl
theorem wm_X5_139 : Cond.methodLink RX5 139 yX5_number ∈ vv_T := vv_mem 736 (by decide +kernel) rfl
theorem wm_X5_133 : Cond.methodLink RX5 133 yX5_isDigit ∈ vv_T := vv_mem 740 (by decide +kernel) rfl
theorem wm_X5_154 : Cond.methodLink RX5 154 yX5_does ∈ vv_T := vv_mem 744 (by decide +kernel) rfl
theorem wm_L_69 : Cond.methodLink RL 69 yX5_count ∈ vv_T := vv_mem 748 (by decide +kernel) rfl
theorem wm_X5_157 : Cond.methodLink RX5 157 yX5_faultless ∈ vv_T := vv_mem 752 (by decide +kernel) rfl
theorem wm_L_73 : Cond.methodLink RL 73 yX5_zone ∈ vv_T := vv_mem 756 (by decide +kernel) rfl
theorem wm_X5_160 : Cond.methodLink RX5 160 yX5_firstCell ∈ vv_T := vv_mem 760 (by decide +kernel) rfl
theorem wm_X5_163 : Cond.methodLink RX5 163 yX5_boardsIn ∈ vv_T := vv_mem 764 (by decide +kernel) rfl
theorem wm_L_77 : Cond.methodLink RL 77 yX5_curve ∈ vv_T := vv_mem 768 (by decide +kernel) rfl
theorem wm_L_81 : Cond.methodLink RL 81 yX5_board ∈ vv_T := vv_mem 772 (by decide +kernel) rfl
theorem wm_L_85 : Cond.methodLink RL 85 yX5_fault ∈ vv_T := vv_mem 776 (by decide +kernel) rfl
theorem wm_X5_166 : Cond.methodLink RX5 166 yX5_hasFault ∈ vv_T := vv_mem 780 (by decide +kernel) rfl
theorem wm_L_89 : Cond.methodLink RL 89 yX5_worstCell ∈ vv_T := vv_mem 784 (by decide +kernel) rfl
theorem wm_X5_169 : Cond.methodLink RX5 169 yX5_faultsIn ∈ vv_T := vv_mem 788 (by decide +kernel) rfl
theorem wm_L_93 : Cond.methodLink RL 93 yX5_faultCells ∈ vv_T := vv_mem 792 (by decide +kernel) rfl
theorem wm_L_97 : Cond.methodLink RL 97 yX5_foretell ∈ vv_T := vv_mem 796 (by decide +kernel) rfl
theorem wm_X5_172 : Cond.methodLink RX5 172 yX5_ride ∈ vv_T := vv_mem 800 (by decide +kernel) rfl
theorem wm_L_101 : Cond.methodLink RL 101 yX5_wouldFail ∈ vv_T := vv_mem 804 (by decide +kernel) rfl
theorem wm_X5_175 : Cond.methodLink RX5 175 yX5_failsBy ∈ vv_T := vv_mem 808 (by decide +kernel) rfl
theorem wm_L_105 : Cond.methodLink RL 105 yX5_heaviest ∈ vv_T := vv_mem 812 (by decide +kernel) rfl
theorem wm_L_109 : Cond.methodLink RL 109 yX5_room ∈ vv_T := vv_mem 816 (by decide +kernel) rfl
theorem wm_X4_25 : Cond.methodLinkNest RX4 25 yX3_init "BeggingBoards" ∈ vv_N := vv_memN 162 (by decide +kernel) rfl
theorem wm_X2_55 : Cond.methodLinkNest RX2 55 yX4_isWithin "BeggingBoards" ∈ vv_N := vv_memN 224 (by decide +kernel) rfl
theorem wm_X1_30 : Cond.methodLinkNest RX1 30 yX4_isWithin "BeggingBoards" ∈ vv_N := vv_memN 369 (by decide +kernel) rfl
theorem wm_X3_15 : Cond.methodLinkNest RX3 15 yX4_isWithin "BeggingBoards" ∈ vv_N := vv_memN 394 (by decide +kernel) rfl
theorem wf_X2_9 : Cond.fieldLink RX2 9 (TX2 0).1 (TX2 0).2.1 (TX2 0).2.2.1 ∈ vv_T := vv_mem 89 (by decide +kernel) rfl
theorem wf_X4_144 : Cond.fieldLink RX4 144 (TX2 0).1 (TX2 0).2.1 (TX2 0).2.2.1 ∈ vv_T := vv_mem 90 (by decide +kernel) rfl
theorem wf_X2_15 : Cond.fieldLink RX2 15 (TX2 1).1 (TX2 1).2.1 (TX2 1).2.2.1 ∈ vv_T := vv_mem 91 (by decide +kernel) rfl
theorem wf_X4_156 : Cond.fieldLink RX4 156 (TX2 1).1 (TX2 1).2.1 (TX2 1).2.2.1 ∈ vv_T := vv_mem 92 (by decide +kernel) rfl
theorem wf_X2_18 : Cond.fieldLink RX2 18 (TX2 2).1 (TX2 2).2.1 (TX2 2).2.2.1 ∈ vv_T := vv_mem 93 (by decide +kernel) rfl
theorem wf_X4_121 : Cond.fieldLink RX4 121 (TX2 2).1 (TX2 2).2.1 (TX2 2).2.2.1 ∈ vv_T := vv_mem 94 (by decide +kernel) rfl
theorem wf_X2_21 : Cond.fieldLink RX2 21 (TX2 3).1 (TX2 3).2.1 (TX2 3).2.2.1 ∈ vv_T := vv_mem 95 (by decide +kernel) rfl
theorem wf_X4_163 : Cond.fieldLink RX4 163 (TX2 3).1 (TX2 3).2.1 (TX2 3).2.2.1 ∈ vv_T := vv_mem 96 (by decide +kernel) rfl
theorem wf_X2_24 : Cond.fieldLink RX2 24 (TX2 4).1 (TX2 4).2.1 (TX2 4).2.2.1 ∈ vv_T := vv_mem 97 (by decide +kernel) rfl
theorem wf_X2_46 : Cond.fieldLink RX2 46 (TX2 5).1 (TX2 5).2.1 (TX2 5).2.2.1 ∈ vv_T := vv_mem 98 (by decide +kernel) rfl
theorem wf_X1_34 : Cond.fieldLink RX1 34 (TX2 5).1 (TX2 5).2.1 (TX2 5).2.2.1 ∈ vv_T := vv_mem 99 (by decide +kernel) rfl
theorem wf_X4_106 : Cond.fieldLink RX4 106 (TX2 5).1 (TX2 5).2.1 (TX2 5).2.2.1 ∈ vv_T := vv_mem 100 (by decide +kernel) rfl
theorem wf_X2_42 : Cond.fieldLink RX2 42 (TX2 6).1 (TX2 6).2.1 (TX2 6).2.2.1 ∈ vv_T := vv_mem 101 (by decide +kernel) rfl
theorem wf_X4_109 : Cond.fieldLink RX4 109 (TX2 6).1 (TX2 6).2.1 (TX2 6).2.2.1 ∈ vv_T := vv_mem 102 (by decide +kernel) rfl
theorem wf_X2_49 : Cond.fieldLink RX2 49 (TX2 7).1 (TX2 7).2.1 (TX2 7).2.2.1 ∈ vv_T := vv_mem 103 (by decide +kernel) rfl
theorem wf_X4_125 : Cond.fieldLink RX4 125 (TX2 7).1 (TX2 7).2.1 (TX2 7).2.2.1 ∈ vv_T := vv_mem 104 (by decide +kernel) rfl
theorem wf_X2_52 : Cond.fieldLink RX2 52 (TX2 8).1 (TX2 8).2.1 (TX2 8).2.2.1 ∈ vv_T := vv_mem 105 (by decide +kernel) rfl
theorem wf_X4_128 : Cond.fieldLink RX4 128 (TX2 8).1 (TX2 8).2.1 (TX2 8).2.2.1 ∈ vv_T := vv_mem 106 (by decide +kernel) rfl
theorem wf_X1_12 : Cond.fieldLink RX1 12 (TX1 0).1 (TX1 0).2.1 (TX1 0).2.2.1 ∈ vv_T := vv_mem 128 (by decide +kernel) rfl
theorem wf_X4_41 : Cond.fieldLink RX4 41 (TX1 0).1 (TX1 0).2.1 (TX1 0).2.2.1 ∈ vv_T := vv_mem 129 (by decide +kernel) rfl
theorem wf_X1_18 : Cond.fieldLink RX1 18 (TX1 1).1 (TX1 1).2.1 (TX1 1).2.2.1 ∈ vv_T := vv_mem 130 (by decide +kernel) rfl
theorem wf_X1_22 : Cond.fieldLink RX1 22 (TX1 2).1 (TX1 2).2.1 (TX1 2).2.2.1 ∈ vv_T := vv_mem 131 (by decide +kernel) rfl
theorem wf_X0_13 : Cond.fieldLink RX0 13 (TX0 0).1 (TX0 0).2.1 (TX0 0).2.2.1 ∈ vv_T := vv_mem 149 (by decide +kernel) rfl
theorem wf_X0_18 : Cond.fieldLink RX0 18 (TX0 1).1 (TX0 1).2.1 (TX0 1).2.2.1 ∈ vv_T := vv_mem 150 (by decide +kernel) rfl
theorem wf_X0_22 : Cond.fieldLink RX0 22 (TX0 2).1 (TX0 2).2.1 (TX0 2).2.2.1 ∈ vv_T := vv_mem 151 (by decide +kernel) rfl
theorem wf_X4_134 : Cond.fieldLink RX4 134 (TX0 2).1 (TX0 2).2.1 (TX0 2).2.2.1 ∈ vv_T := vv_mem 152 (by decide +kernel) rfl
theorem wf_X3_9 : Cond.fieldLink RX3 9 (TX3 0).1 (TX3 0).2.1 (TX3 0).2.2.1 ∈ vv_T := vv_mem 166 (by decide +kernel) rfl
theorem wf_X3_19 : Cond.fieldLink RX3 19 (TX3 1).1 (TX3 1).2.1 (TX3 1).2.2.1 ∈ vv_T := vv_mem 167 (by decide +kernel) rfl
theorem wf_X4_137 : Cond.fieldLink RX4 137 (TX3 1).1 (TX3 1).2.1 (TX3 1).2.2.1 ∈ vv_T := vv_mem 168 (by decide +kernel) rfl
theorem wf_X3_23 : Cond.fieldLink RX3 23 (TX3 2).1 (TX3 2).2.1 (TX3 2).2.2.1 ∈ vv_T := vv_mem 169 (by decide +kernel) rfl
theorem wf_X3_42 : Cond.fieldLink RX3 42 (TX3 3).1 (TX3 3).2.1 (TX3 3).2.2.1 ∈ vv_T := vv_mem 170 (by decide +kernel) rfl
theorem wf_X4_93 : Cond.fieldLink RX4 93 (TX3 3).1 (TX3 3).2.1 (TX3 3).2.2.1 ∈ vv_T := vv_mem 171 (by decide +kernel) rfl
theorem wf_X3_48 : Cond.fieldLink RX3 48 (TX3 4).1 (TX3 4).2.1 (TX3 4).2.2.1 ∈ vv_T := vv_mem 172 (by decide +kernel) rfl
theorem wf_X4_97 : Cond.fieldLink RX4 97 (TX3 4).1 (TX3 4).2.1 (TX3 4).2.2.1 ∈ vv_T := vv_mem 173 (by decide +kernel) rfl
theorem wf_X3_45 : Cond.fieldLink RX3 45 (TX3 5).1 (TX3 5).2.1 (TX3 5).2.2.1 ∈ vv_T := vv_mem 174 (by decide +kernel) rfl
theorem wf_X4_100 : Cond.fieldLink RX4 100 (TX3 5).1 (TX3 5).2.1 (TX3 5).2.2.1 ∈ vv_T := vv_mem 175 (by decide +kernel) rfl
theorem wf_X4_12 : Cond.fieldLink RX4 12 (TX4 0).1 (TX4 0).2.1 (TX4 0).2.2.1 ∈ vv_T := vv_mem 191 (by decide +kernel) rfl
theorem wf_X4_19 : Cond.fieldLink RX4 19 (TX4 1).1 (TX4 1).2.1 (TX4 1).2.2.1 ∈ vv_T := vv_mem 192 (by decide +kernel) rfl
theorem wf_X4_26 : Cond.fieldLink RX4 26 (TX4 2).1 (TX4 2).2.1 (TX4 2).2.2.1 ∈ vv_T := vv_mem 193 (by decide +kernel) rfl
theorem wf_X4_33 : Cond.fieldLink RX4 33 (TX4 3).1 (TX4 3).2.1 (TX4 3).2.2.1 ∈ vv_T := vv_mem 194 (by decide +kernel) rfl
theorem wf_X5_7 : Cond.fieldLink RX5 7 (TX5 0).1 (TX5 0).2.1 (TX5 0).2.2.1 ∈ vv_T := vv_mem 541 (by decide +kernel) rfl
theorem wf_X5_30 : Cond.fieldLink RX5 30 (TX5 1).1 (TX5 1).2.1 (TX5 1).2.2.1 ∈ vv_T := vv_mem 542 (by decide +kernel) rfl
theorem wf_X5_13 : Cond.fieldLink RX5 13 (TX5 2).1 (TX5 2).2.1 (TX5 2).2.2.1 ∈ vv_T := vv_mem 543 (by decide +kernel) rfl
theorem wf_X5_124 : Cond.fieldLink RX5 124 (TX5 3).1 (TX5 3).2.1 (TX5 3).2.2.1 ∈ vv_T := vv_mem 544 (by decide +kernel) rfl
theorem wf_X5_127 : Cond.fieldLink RX5 127 (TX5 4).1 (TX5 4).2.1 (TX5 4).2.2.1 ∈ vv_T := vv_mem 545 (by decide +kernel) rfl
theorem wf_X5_136 : Cond.fieldLink RX5 136 (TX5 5).1 (TX5 5).2.1 (TX5 5).2.2.1 ∈ vv_T := vv_mem 546 (by decide +kernel) rfl
theorem wf_X5_142 : Cond.fieldLink RX5 142 (TX5 6).1 (TX5 6).2.1 (TX5 6).2.2.1 ∈ vv_T := vv_mem 547 (by decide +kernel) rfl
theorem wf_X5_145 : Cond.fieldLink RX5 145 (TX5 7).1 (TX5 7).2.1 (TX5 7).2.2.1 ∈ vv_T := vv_mem 548 (by decide +kernel) rfl
theorem wf_X2_27 : Cond.fieldLinkNest RX2 27 RX4 "FIRST_TARGETS" "[I" "BeggingBoards" ∈ vv_N := vv_memN 80 (by decide +kernel) rfl
theorem wf_X2_30 : Cond.fieldLinkNest RX2 30 RX4 "FIRST_CURVE" "[I" "BeggingBoards" ∈ vv_N := vv_memN 82 (by decide +kernel) rfl
theorem wf_X2_39 : Cond.fieldLinkNest RX2 39 RX4 "FIRST_NUMBERS" "[I" "BeggingBoards" ∈ vv_N := vv_memN 87 (by decide +kernel) rfl
theorem wf_X2_67 : Cond.fieldLinkNest RX2 67 RX4 "LEAST_OF_CURVE" "[I" "BeggingBoards" ∈ vv_N := vv_memN 251 (by decide +kernel) rfl
theorem wf_X2_70 : Cond.fieldLinkNest RX2 70 RX4 "MOST_OF_CURVE" "[I" "BeggingBoards" ∈ vv_N := vv_memN 253 (by decide +kernel) rfl
theorem wf_X2_73 : Cond.fieldLinkNest RX2 73 RX4 "LEAST_NUMBERS" "[I" "BeggingBoards" ∈ vv_N := vv_memN 263 (by decide +kernel) rfl
theorem wf_X2_76 : Cond.fieldLinkNest RX2 76 RX4 "MOST_NUMBERS" "[I" "BeggingBoards" ∈ vv_N := vv_memN 265 (by decide +kernel) rfl
theorem wk_J13_314 : Cond.constantLong RJ13 314 6148914691236517205 ∈ vv_T := vv_mem 495 (by decide +kernel) rfl
theorem wk_J13_316 : Cond.constantLong RJ13 316 3689348814741910323 ∈ vv_T := vv_mem 496 (by decide +kernel) rfl
theorem wk_J13_318 : Cond.constantLong RJ13 318 1085102592571150095 ∈ vv_T := vv_mem 497 (by decide +kernel) rfl
theorem wa_native : Cond.native arraycopyName ∈ vv_T := vv_mem 86 (by decide +kernel) rfl
theorem wa_static : Cond.static arraycopyName ∈ vv_T := vv_mem 85 (by decide +kernel) rfl
theorem wo_inst : Cond.instanceMethod objectInit ∈ vv_T := vv_mem 66 (by decide +kernel) rfl
theorem wo_code : Cond.code objectInit ⟨#[0xb1]⟩ 1 none ∈ vv_T := vv_mem 67 (by decide +kernel) rfl
theorem wC_L_7 : Cond.classLink RL 7 RX4 ∈ vv_T := vv_mem 60 (by decide +kernel) rfl
theorem wC_X4_9 : Cond.classLink RX4 9 RX1 ∈ vv_T := vv_mem 68 (by decide +kernel) rfl
theorem wC_X1_9 : Cond.classLink RX1 9 RX2 ∈ vv_T := vv_mem 74 (by decide +kernel) rfl
theorem wC_X4_16 : Cond.classLink RX4 16 RX0 ∈ vv_T := vv_mem 140 (by decide +kernel) rfl
theorem wC_X0_11 : Cond.classLink RX0 11 RX1 ∈ vv_T := vv_mem 146 (by decide +kernel) rfl
theorem wC_X4_23 : Cond.classLink RX4 23 RX3 ∈ vv_T := vv_mem 160 (by decide +kernel) rfl
theorem wC_X4_30 : Cond.classLink RX4 30 RX2 ∈ vv_T := vv_mem 189 (by decide +kernel) rfl
theorem wC_L_10 : Cond.classLink RL 10 RX5 ∈ vv_T := vv_mem 529 (by decide +kernel) rfl
theorem wn_X4 : Cond.instantiable RX4 4 ∈ vv_T := vv_mem 61 (by decide +kernel) rfl
theorem wn_X1 : Cond.instantiable RX1 3 ∈ vv_T := vv_mem 69 (by decide +kernel) rfl
theorem wn_X2 : Cond.instantiable RX2 9 ∈ vv_T := vv_mem 75 (by decide +kernel) rfl
theorem wn_X0 : Cond.instantiable RX0 3 ∈ vv_T := vv_mem 141 (by decide +kernel) rfl
theorem wn_X3 : Cond.instantiable RX3 6 ∈ vv_T := vv_mem 161 (by decide +kernel) rfl
theorem wn_X5 : Cond.instantiable RX5 8 ∈ vv_T := vv_mem 530 (by decide +kernel) rfl
theorem wr_int : Cond.arrayClass .int ∈ vv_T := vv_mem 126 (by decide +kernel) rfl
theorem wr_boolean : Cond.arrayClass .boolean ∈ vv_T := vv_mem 139 (by decide +kernel) rfl
end
section
def vv_oven_f (p : Nat) : List (Option (Option Nat)) := [some (some (p + 1)), some (some (p + 2)), some (some (p + 3)), some (some (p + 4)), some (some (p + 5)), none, none, none, none]
def vv_oven (S : List vv_Sh) (p : Nat) : Prop := S[p]? = some (.inr (.inr (2, vv_oven_f p))) ∧ S[p + 1]? = some (.inl (0, 24)) ∧ S[p + 2]? = some (.inl (0, 24)) ∧ S[p + 3]? = some (.inl (0, 4)) ∧ S[p + 4]? = some (.inl (0, 682)) ∧ S[p + 5]? = some (.inl (0, 6))
theorem vv_oven_o {S : List vv_Sh} {p : Nat} (h : vv_oven S p) : S[p]? = some (.inr (.inr (2, vv_oven_f p))) := h.1
theorem vv_oven_zones {S : List vv_Sh} {p : Nat} (h : vv_oven S p) : S[p + 1]? = some (.inl (0, 24)) := h.2.1
theorem vv_oven_curves {S : List vv_Sh} {p : Nat} (h : vv_oven S p) : S[p + 2]? = some (.inl (0, 24)) := h.2.2.1
theorem vv_oven_numbers {S : List vv_Sh} {p : Nat} (h : vv_oven S p) : S[p + 3]? = some (.inl (0, 4)) := h.2.2.2.1
theorem vv_oven_boards {S : List vv_Sh} {p : Nat} (h : vv_oven S p) : S[p + 4]? = some (.inl (0, 682)) := h.2.2.2.2.1
theorem vv_oven_weights {S : List vv_Sh} {p : Nat} (h : vv_oven S p) : S[p + 5]? = some (.inl (0, 6)) := h.2.2.2.2.2
def vv_text_f (p : Nat) : List (Option (Option Nat)) := [some (some (p + 1)), none, none, none, none, none]
def vv_text (S : List vv_Sh) (p : Nat) : Prop := S[p]? = some (.inr (.inr (3, vv_text_f p))) ∧ S[p + 1]? = some (.inl (0, 100))
theorem vv_text_o {S : List vv_Sh} {p : Nat} (h : vv_text S p) : S[p]? = some (.inr (.inr (3, vv_text_f p))) := h.1
theorem vv_text_characters {S : List vv_Sh} {p : Nat} (h : vv_text S p) : S[p + 1]? = some (.inl (0, 100)) := h.2
def vv_model_f (p : Nat) : List (Option (Option Nat)) := [some (some (p + 1)), none, some (some (p + 2)), none, none, none, none, none]
def vv_model (S : List vv_Sh) (p : Nat) : Prop := S[p]? = some (.inr (.inr (5, vv_model_f p))) ∧ S[p + 1]? = some (.inl (0, 13445)) ∧ S[p + 2]? = some (.inl (0, 100))
theorem vv_model_o {S : List vv_Sh} {p : Nat} (h : vv_model S p) : S[p]? = some (.inr (.inr (5, vv_model_f p))) := h.1
theorem vv_model_row {S : List vv_Sh} {p : Nat} (h : vv_model S p) : S[p + 1]? = some (.inl (0, 13445)) := h.2.1
theorem vv_model_text {S : List vv_Sh} {p : Nat} (h : vv_model S p) : S[p + 2]? = some (.inl (0, 100)) := h.2.2
def vv_moment_f (p : Nat) : List (Option (Option Nat)) := [some (some (p + 1)), some (some (p + 7)), some (some (p + 8))]
def vv_moment (S : List vv_Sh) (p : Nat) : Prop := S[p]? = some (.inr (.inr (1, vv_moment_f p))) ∧ vv_oven S (p + 1) ∧ S[p + 7]? = some (.inr (.inl (2, 2, 2, p + 9, 6))) ∧ S[p + 8]? = some (.inl (1, 2)) ∧ ∀ i, i < 2 → vv_oven S (p + 9 + 6 * i)
theorem vv_moment_o {S : List vv_Sh} {p : Nat} (h : vv_moment S p) : S[p]? = some (.inr (.inr (1, vv_moment_f p))) := h.1
theorem vv_moment_oven {S : List vv_Sh} {p : Nat} (h : vv_moment S p) : vv_oven S (p + 1) := h.2.1
theorem vv_moment_slots {S : List vv_Sh} {p : Nat} (h : vv_moment S p) : S[p + 7]? = some (.inr (.inl (2, 2, 2, p + 9, 6))) := h.2.2.1
theorem vv_moment_filled {S : List vv_Sh} {p : Nat} (h : vv_moment S p) : S[p + 8]? = some (.inl (1, 2)) := h.2.2.2.1
theorem vv_moment_slots_at {S : List vv_Sh} {p i : Nat} (h : vv_moment S p) (hi : i < 2) : vv_oven S (p + 9 + 6 * i) := h.2.2.2.2 i hi
def vv_hist_f (p : Nat) : List (Option (Option Nat)) := [some (some (p + 1)), none, none]
def vv_hist (S : List vv_Sh) (p : Nat) : Prop := S[p]? = some (.inr (.inr (0, vv_hist_f p))) ∧ S[p + 1]? = some (.inr (.inl (3, 6, 6, p + 2, 21))) ∧ ∀ i, i < 6 → vv_moment S (p + 2 + 21 * i)
theorem vv_hist_o {S : List vv_Sh} {p : Nat} (h : vv_hist S p) : S[p]? = some (.inr (.inr (0, vv_hist_f p))) := h.1
theorem vv_hist_rows {S : List vv_Sh} {p : Nat} (h : vv_hist S p) : S[p + 1]? = some (.inr (.inl (3, 6, 6, p + 2, 21))) := h.2.1
theorem vv_hist_rows_at {S : List vv_Sh} {p i : Nat} (h : vv_hist S p) (hi : i < 6) : vv_moment S (p + 2 + 21 * i) := h.2.2 i hi
def vv_bb_f (p : Nat) : List (Option (Option Nat)) := [some (some (p + 1)), some (some (p + 22)), some (some (p + 150)), some (some (p + 152))]
def vv_bb (S : List vv_Sh) (p : Nat) : Prop := S[p]? = some (.inr (.inr (4, vv_bb_f p))) ∧ vv_moment S (p + 1) ∧ vv_hist S (p + 22) ∧ vv_text S (p + 150) ∧ vv_oven S (p + 152)
theorem vv_bb_o {S : List vv_Sh} {p : Nat} (h : vv_bb S p) : S[p]? = some (.inr (.inr (4, vv_bb_f p))) := h.1
theorem vv_bb_now {S : List vv_Sh} {p : Nat} (h : vv_bb S p) : vv_moment S (p + 1) := h.2.1
theorem vv_bb_history {S : List vv_Sh} {p : Nat} (h : vv_bb S p) : vv_hist S (p + 22) := h.2.2.1
theorem vv_bb_text {S : List vv_Sh} {p : Nat} (h : vv_bb S p) : vv_text S (p + 150) := h.2.2.2.1
theorem vv_bb_trial {S : List vv_Sh} {p : Nat} (h : vv_bb S p) : vv_oven S (p + 152) := h.2.2.2.2
def vv_let {α β : Type} (a : α) (f : α → β) : β := f a
theorem vv_lt {α β : Type} {a : α} {f : α → Option β} {u : β} (h : vv_let a f = some u) : ∃ x, x = a ∧ f x = some u := ⟨a, rfl, h⟩
theorem vv_gd {c : Prop} [Decidable c] {α : Type} {x : Option α} {u : α} (h : (if c then none else x) = some u) : ¬ c ∧ x = some u := by
  by_cases hc : c
  · rw [if_pos hc] at h
    cases h
  · rw [if_neg hc] at h
    exact ⟨hc, h⟩
theorem vv_gt {c : Prop} [Decidable c] {α : Type} {x : Option α} {u : α} (h : (if c then x else none) = some u) : c ∧ x = some u := by
  by_cases hc : c
  · rw [if_pos hc] at h
    exact ⟨hc, h⟩
  · rw [if_neg hc] at h
    cases h
theorem vv_bd {α β : Type} {o : Option α} {f : α → Option β} {u : β} (h : o.bind f = some u) : ∃ v, o = some v ∧ f v = some u := by
  cases o with
  | none => cases h
  | some v => exact ⟨v, rfl, h⟩
theorem vv_nk {x k : Int32} {z : Int} (h : ¬ x = k) (hz : k.toInt = z) : x.toInt ≠ z := fun e => h (Int32.toInt_inj.mp (e.trans hz.symm))
theorem vv_nb {x : Int32} (h : x = 0 ∨ x = 1) : narrow .boolean (.int x) = .int x := by
  rcases h with rfl | rfl <;> rfl
theorem vv_lti {i : Int32} {n : Nat} (h : ¬ (i < 0 ∨ n ≤ i.toNatClampNeg)) : i.toNatClampNeg < n := Nat.not_le.mp fun q => h (Or.inr q)
theorem vv_rm0 {R R' : Room} {S : List vv_Sh} (h1 : R'.cells = 0) (h2 : R'.slots = 0) : vv_rm R S.length (vv_sz S) S R' := by
  unfold vv_rm
  omega
def vv_fi (S : List vv_Sh) (u : Int32 × vv_M) : Option Value → List vv_Sh → vv_M → Prop := fun v S2 M2 => v = some (.int u.1) ∧ S2 = S ∧ M2 = u.2
def vv_fl (S : List vv_Sh) (u : Int64 × vv_M) : Option Value → List vv_Sh → vv_M → Prop := fun v S2 M2 => v = some (.long u.1) ∧ S2 = S ∧ M2 = u.2
def vv_fu (S : List vv_Sh) (u : Unit × vv_M) : Option Value → List vv_Sh → vv_M → Prop := fun v S2 M2 => v = none ∧ S2 = S ∧ M2 = u.2
end
section
section VI3
variable {sc : List Int32} {own mname : String} {cc : ByteArray} {nL : Nat} {ret : Option FieldType} {R : Room} {n0 z0 : Nat} {Fi : Option Value → List vv_Sh → vv_M → Prop} {pc : Nat} {L : List (Nat × Value)} {st : List Value} {S S' : List vv_Sh} {M M' : vv_M} {idx : Nat}
theorem vv_sz_push (S : List vv_Sh) (sh : vv_Sh) : vv_sz (S ++ [sh]) = vv_sz S + vv_ssz sh := by
  unfold vv_sz
  rw [List.map_append, List.sum_append]
  simp
/-- where a new cell lies -/
theorem vv_newq {D : va_G} {cl : List vw_C} {cA : Nat → ClassId} {b0 : Nat} {S : List vv_Sh} {M : vv_M} {q : Nat} {e : va_E} {H1 : Heap} (hP : va_P D cl (vv_ws b0 cA S M ++ [(q, e)]) H1) (hD : va_D (vv_A b0) (vv_ws b0 cA S M ++ [(q, e)])) (hu : H1.size ≤ b0 + S.length + 1) : q = b0 + S.length := by
  have hl : (vv_ws b0 cA S M).length = S.length := by
    unfold vv_ws
    exact List.length_mapIdx
  have hq : (vv_ws b0 cA S M ++ [(q, e)])[S.length]? = some (q, e) := by
    rw [List.getElem?_append_right (by omega), hl, Nat.sub_self]
    rfl
  have h1 : q < H1.size := (hP _ _ hq).lt
  have h2 : b0 ≤ q := hD.2 _ _ hq
  rcases Nat.lt_or_ge q (b0 + S.length) with h | h
  · exfalso
    obtain ⟨k, hk⟩ : ∃ k, q = b0 + k := ⟨q - b0, by omega⟩
    have hk2 : k < S.length := by omega
    have hk3 : (vv_ws b0 cA S M ++ [(q, e)])[k]? = some (b0 + k, vv_cell b0 cA (M k) S[k]) := by
      rw [List.getElem?_append_left (by omega)]
      exact vv_at b0 cA M (List.getElem?_eq_getElem hk2)
    have := hD.1 k S.length _ _ hk3 hq hk.symm
    omega
  · omega
theorem vi_objInit {q : Nat} (w1 : Cond.methodLink own idx objectInit ∈ vv_T) (w2 : Cond.instanceMethod objectInit ∈ vv_T) (w3 : Cond.code objectInit ⟨#[0xb1]⟩ 1 none ∈ vv_T) (hdg : decode cc pc = .ok (.invokespecial idx, 3)) (hR : 1 ≤ R.frames) (hR2 : (st.map fun v => v.category).sum + 12 ≤ R.locals)
    (k : vv_V sc own mname cc nL ret R n0 z0 Fi (pc + 3) L st S M) : vv_V sc own mname cc nL ret R n0 z0 Fi pc L (.ref q :: st) S M := by
  intro p l e s m args below meth c D cA b0 tb Q H locs ls E Hh h1 h2 hP hS hls
  refine W.objInit (rest := vv_st b0 tb st) E.1 E.2.1 E.2.2.2.2.1 (E.2.2.2.2.2.1 _ w1) (E.2.2.2.2.2.1 _ w2) (E.2.2.2.2.2.1 _ w3) rfl (hls.1.trans E.2.2.2.1.symm) rfl hdg hR ?_ (k p l e s m args below meth c D cA b0 tb Q H locs ls E Hh h1 h2 hP hS hls)
  rw [vv_catsum]
  show 2 * 0 + _ + 12 ≤ _
  omega
theorem vi_new {ci : Nat} {C : String} {T : u_T} {N : Nat} {fs : List (Option (Option Nat))} (hcl : vv_cl[ci]? = some (C, T, N)) (hin : ∀ w ∈ u_ws C T N, w ∈ vv_T) (ty : Nat → FieldType) (hty : ∀ k, k < N → parseFieldDescriptor (T k).2.2.1 = some (ty k)) (w1 : Cond.classLink own idx C ∈ vv_T) (w2 : Cond.instantiable C N ∈ vv_T) (w3 : Cond.initialized C ∈ vv_T)
    (hfs : ∀ j b0, j < N → defaultValue (ty j) = vp_V (vv_fs b0 (fun _ => 0) fs) j) (hM : M S.length = fun _ => 0) (hN : fs.length = N) (hr1 : S.length - n0 + 1 ≤ R.cells) (hr2 : vv_sz S - z0 + N ≤ R.slots) (hdg : decode cc pc = .ok (.new idx, 3))
    (k : vv_V sc own mname cc nL ret R n0 z0 Fi (pc + 3) L (.ref S.length :: st) (S ++ [.inr (.inr (ci, fs))]) M) : vv_V sc own mname cc nL ret R n0 z0 Fi pc L st S M := by
  intro p l e s m args below meth c D cA b0 tb Q H locs ls E Hh h1 h2 hP hS hls
  refine va_new (A := vv_A b0) E.1 E.2.1 E.2.2.2.2.2.1 hin ty hty E.2.2.2.2.1 (E.2.2.2.2.2.1 _ w1) (E.2.2.2.2.2.1 _ w2) (E.2.2.2.2.2.1 _ w3) E.2.2.2.2.2.2.2.2.1 hP (vv_Dd b0 cA S M) hS (fun q hq => Nat.le_trans (by rw [E.2.2.2.2.2.2.2.2.2.1]; exact Nat.le_add_right _ _) hq) hcl (fun j hj => hfs j b0 hj) hr1 hr2 hdg (fun q H1 hP1 hD1 hS1 => ?_)
  intro T' hT X
  have hu := X.heapSize
  rw [hT, E.2.2.2.2.2.2.2.2.2.1] at hu
  have hq := vv_newq hP1 hD1 (by omega)
  subst hq
  have ee : vv_ws b0 cA S M ++ [(b0 + S.length, .inr (ci, vv_fs b0 (fun _ => 0) fs))] = vv_ws b0 cA (S ++ [.inr (.inr (ci, fs))]) M := by
    rw [← vv_push, hM]
    rfl
  rw [ee] at hP1
  have hl2 : (S ++ [(.inr (.inr (ci, fs)) : vv_Sh)]).length = S.length + 1 := by simp
  have hz2 : vv_sz (S ++ [(.inr (.inr (ci, fs)) : vv_Sh)]) = vv_sz S + N := by rw [vv_sz_push]; show _ + fs.length = _; rw [hN]
  have K := k p l e s m args below meth c D cA b0 tb Q H1 locs ls E Hh (by omega) (by omega) hP1 hS1 hls
  rw [hl2, hz2] at K
  have e1 : S.length - n0 + 1 = S.length + 1 - n0 := by omega
  have e2 : vv_sz S - z0 + N = vv_sz S + N - z0 := by omega
  rw [e1, e2] at X
  exact K T' hT X
theorem vi_newa {atype : ArrayType} {ty : FieldType} {tag N : Nat} {n : Int32} (hty : newarray.typeOf atype = ty) (hdf : defaultValue ty = .int 0) (htag : ∀ cA : Nat → ClassId, (vv_tys cA)[tag]? = some (cA tag, ty)) (hnr : ∀ (U : State) (cA : ClassId), va_RA U cA ty → U.vm.findClass ("[" ++ ty.toString) = some cA) (w1 : Cond.arrayClass ty ∈ vv_T) (hn : ¬ n < 0) (hN : n.toNatClampNeg = N) (hbytes : N * componentBytes ty ≤ 536870912)
    (hM : M S.length = fun _ => 0) (hr1 : S.length - n0 + 1 ≤ R.cells) (hr2 : vv_sz S - z0 + N ≤ R.slots) (hdg : decode cc pc = .ok (.newarray atype, 2))
    (k : vv_V sc own mname cc nL ret R n0 z0 Fi (pc + 2) L (.ref S.length :: st) (S ++ [.inl (tag, N)]) M) : vv_V sc own mname cc nL ret R n0 z0 Fi pc L (.int n :: st) S M := by
  intro p l e s m args below meth c D cA b0 tb Q H locs ls E Hh h1 h2 hP hS hls
  have hA : ∀ q, s.heap.size ≤ q → vv_A b0 q := fun q hq => Nat.le_trans (by rw [E.2.2.2.2.2.2.2.2.2.1]; exact Nat.le_add_right _ _) hq
  have hKK := E.2.2.2.2.2.2.2.2.1
  refine va_newa (A := vv_A b0) (a0 := (N, .inl (fun _ => 0))) E.1 E.2.1 (E.2.2.2.2.2.1 _ (by rw [hty]; exact w1)) hty hKK hP (vv_Dd b0 cA S M) hS hA (fun cA => by rw [hdf]; rfl) hn hN hbytes hr1 hr2 hdg (fun q cA' H1 hK1 hP1 hD1 hS1 => ?_)
  have hc : cA' = cA tag := by
    have g1 := (hK1.2 4 _ rfl).2
    have g2 := (hKK.2 tag _ (htag cA)).2
    exact Option.some.inj ((hnr _ _ g1).symm.trans (hnr _ _ g2))
  subst hc
  intro T' hT X
  have hu := X.heapSize
  rw [hT, E.2.2.2.2.2.2.2.2.2.1] at hu
  have hq := vv_newq hP1 hD1 (by omega)
  subst hq
  have ee : vv_ws b0 cA S M ++ [(b0 + S.length, .inl (cA tag, N, .inl (fun _ => 0)))] = vv_ws b0 cA (S ++ [.inl (tag, N)]) M := by
    rw [← vv_push, hM]
    rfl
  rw [ee] at hP1
  have hl2 : (S ++ [(.inl (tag, N) : vv_Sh)]).length = S.length + 1 := by simp
  have hz2 : vv_sz (S ++ [(.inl (tag, N) : vv_Sh)]) = vv_sz S + N := vv_sz_push _ _
  have K := k p l e s m args below meth c D cA b0 tb Q H1 locs ls E Hh (by omega) (by omega) hP1 hS1 hls
  rw [hl2, hz2] at K
  have e1 : S.length - n0 + 1 = S.length + 1 - n0 := by omega
  have e2 : vv_sz S - z0 + N = vv_sz S + N - z0 := by omega
  rw [e1, e2] at X
  exact K T' hT X
theorem vi_newq {C : String} {tag N base stride : Nat} {n : Int32} (htag : ∀ cA : Nat → ClassId, (vv_tys cA)[tag]? = some (cA tag, .object C)) (w0 : Cond.arrayOver (.object C) ∈ vv_N) (w1 : Cond.classLink own idx C ∈ vv_T) (hn : ¬ n < 0) (hN : n.toNatClampNeg = N) (hbytes : N * 4 ≤ 536870912)
    (hr1 : S.length - n0 + 1 ≤ R.cells) (hr2 : vv_sz S - z0 + N ≤ R.slots) (hdg : decode cc pc = .ok (.anewarray idx, 3))
    (k : vv_V sc own mname cc nL ret R n0 z0 Fi (pc + 3) L (.ref S.length :: st) (S ++ [.inr (.inl (tag, N, 0, base, stride))]) M) : vv_V sc own mname cc nL ret R n0 z0 Fi pc L (.int n :: st) S M := by
  intro p l e s m args below meth c D cA b0 tb Q H locs ls E Hh h1 h2 hP hS hls
  have hA : ∀ q, s.heap.size ≤ q → vv_A b0 q := fun q hq => Nat.le_trans (by rw [E.2.2.2.2.2.2.2.2.2.1]; exact Nat.le_add_right _ _) hq
  have hKK := E.2.2.2.2.2.2.2.2.1
  refine va_newq (A := vv_A b0) E.1 E.2.1 E.2.2.2.2.1 (E.2.2.2.2.2.1 _ w1) (E.2.2.2.2.2.2.1 _ w0) hKK hP (vv_Dd b0 cA S M) hS hA hn hN hbytes hr1 hr2 hdg (fun q cA' H1 hK1 hP1 hD1 hS1 => ?_)
  have hc : cA' = cA tag := by
    obtain ⟨-, -, -, -, -, g1⟩ := (hK1.2 4 _ rfl).2
    obtain ⟨-, -, -, -, -, g2⟩ := (hKK.2 tag _ (htag cA)).2
    exact Option.some.inj (g1.symm.trans g2)
  subst hc
  intro T' hT X
  have hu := X.heapSize
  rw [hT, E.2.2.2.2.2.2.2.2.2.1] at hu
  have hq := vv_newq hP1 hD1 (by omega)
  subst hq
  have ee : vv_ws b0 cA S M ++ [(b0 + S.length, .inl (cA tag, N, .inr (.inr (.inr (.inr (fun _ => none))))))] = vv_ws b0 cA (S ++ [.inr (.inl (tag, N, 0, base, stride))]) M := by
    have e0 : vv_rq b0 0 base stride = fun _ => none := by
      funext j
      unfold vv_rq
      rw [if_neg (Nat.not_lt_zero j)]
    rw [← vv_push, ← e0]
    rfl
  rw [ee] at hP1
  have hl2 : (S ++ [(.inr (.inl (tag, N, 0, base, stride)) : vv_Sh)]).length = S.length + 1 := by simp
  have hz2 : vv_sz (S ++ [(.inr (.inl (tag, N, 0, base, stride)) : vv_Sh)]) = vv_sz S + N := vv_sz_push _ _
  have K := k p l e s m args below meth c D cA b0 tb Q H1 locs ls E Hh (by omega) (by omega) hP1 hS1 hls
  rw [hl2, hz2] at K
  have e1 : S.length - n0 + 1 = S.length + 1 - n0 := by omega
  have e2 : vv_sz S - z0 + N = vv_sz S + N - z0 := by omega
  rw [e1, e2] at X
  exact K T' hT X
theorem vi_aast {q n fil base stride tag t ci : Nat} {r : vw_C} {fs : List (Option (Option Nat))} {i : Int32} (hsh : S[q]? = some (.inr (.inl (tag, n, fil, base, stride)))) (htag : ∀ cA : Nat → ClassId, (vv_tys cA)[tag]? = some (cA tag, .object r.1)) (hv : S[t]? = some (.inr (.inr (ci, fs)))) (hc : vv_cl[ci]? = some r) (hin : vp_in i n) (hi : i.toNatClampNeg = fil) (ht : t = base + stride * fil) (hS' : S.set q (.inr (.inl (tag, n, fil + 1, base, stride))) = S') (hdg : decode cc pc = .ok (.aastore, 1))
    (k : vv_V sc own mname cc nL ret R n0 z0 Fi (pc + 1) L st S' M) : vv_V sc own mname cc nL ret R n0 z0 Fi pc L (.ref t :: .int i :: .ref q :: st) S M := by
  intro p l e s m args below meth c D cA b0 tb Q H locs ls E Hh h1 h2 hP hS hls
  subst hS'
  refine va_astq (A := vv_A b0) E.1 E.2.1 E.2.2.2.2.2.2.2.2.1 hP (vv_Dd b0 cA S M) hS q tag t ci (vv_at b0 cA M hsh) (htag cA) (vv_at b0 cA M hv) hc hin hdg (fun H1 locs1 hP1 hD1 hS1 => ?_)
  have e0 : va_up (vv_rq b0 fil base stride) i.toNatClampNeg (some (b0 + t)) = vv_rq b0 (fil + 1) base stride := by
    funext j
    unfold va_up vv_rq
    rw [hi, ht]
    by_cases hj : j = fil
    · subst hj
      rw [if_pos rfl, if_pos (Nat.lt_succ_self _)]
    · rw [if_neg hj]
      by_cases h9 : j < fil
      · rw [if_pos h9, if_pos (by omega)]
      · rw [if_neg h9, if_neg (by omega)]
  have ee : (vv_ws b0 cA S M).set q (b0 + q, .inl (cA tag, n, .inr (.inr (.inr (.inr (va_up (vv_rq b0 fil base stride) i.toNatClampNeg (some (b0 + t)))))))) = vv_ws b0 cA (S.set q (.inr (.inl (tag, n, fil + 1, base, stride)))) M := by
    rw [e0, ← vv_setS]
    rfl
  rw [ee] at hP1
  have hlen : (S.set q (.inr (.inl (tag, n, fil + 1, base, stride)))).length = S.length := List.length_set
  have hsz : vv_sz (S.set q (.inr (.inl (tag, n, fil + 1, base, stride)))) = vv_sz S := vv_sz_set hsh rfl
  have K := k p l e s m args below meth c D cA b0 tb Q H1 locs1 ls E Hh (by rw [hlen]; exact h1) (by rw [hsz]; exact h2) hP1 hS1 hls
  rw [hlen, hsz] at K
  exact K
/-- the script -/
theorem vi_slen {xs : List Int32} (hdg : decode cc pc = .ok (.arraylength, 1)) (k : vv_V (0 :: xs) own mname cc nL ret R n0 z0 Fi (pc + 1) L (.int (Int32.ofNat xs.length) :: st) S M) : vv_V (0 :: xs) own mname cc nL ret R n0 z0 Fi pc L (.float 7 :: st) S M := by
  intro p l e s m args below meth c D cA b0 tb Q H locs ls E Hh h1 h2 hP hS hls
  rcases E.2.2.2.2.2.2.2.2.2.2.2 with h | ⟨hX, hb⟩
  · cases h
  exact va_slen E.1 E.2.1 hX (by rw [E.2.2.2.2.2.2.2.2.2.1]; exact Nat.lt_of_lt_of_le hb (Nat.le_add_right _ _)) (fun h : b0 ≤ tb 7 => absurd h (Nat.not_le.mpr hb)) hS hdg (k p l e s m args below meth c D cA b0 tb Q H locs ls E Hh h1 h2 hP hS hls)
theorem vi_sld {xs : List Int32} {i : Int32} (hin : vp_in i xs.length) (hdg : decode cc pc = .ok (.iaload, 1)) (k : vv_V (0 :: xs) own mname cc nL ret R n0 z0 Fi (pc + 1) L (.int (xs.getD i.toNatClampNeg 0) :: st) S M) : vv_V (0 :: xs) own mname cc nL ret R n0 z0 Fi pc L (.int i :: .float 7 :: st) S M := by
  intro p l e s m args below meth c D cA b0 tb Q H locs ls E Hh h1 h2 hP hS hls
  rcases E.2.2.2.2.2.2.2.2.2.2.2 with h | ⟨hX, hb⟩
  · cases h
  exact va_sld E.1 E.2.1 hX (by rw [E.2.2.2.2.2.2.2.2.2.1]; exact Nat.lt_of_lt_of_le hb (Nat.le_add_right _ _)) (fun h : b0 ≤ tb 7 => absurd h (Nat.not_le.mpr hb)) hS hin hdg (k p l e s m args below meth c D cA b0 tb Q H locs ls E Hh h1 h2 hP hS hls)
/-- System.arraycopy out of a static table -/
theorem vi_copyT {w : UInt32} {i : Nat} {nm : String} {xs : List Int32} {q2 n2 : Nat} {sp dp n : Int32} (hi : w.toNat = i) (ht : vv_tbs[i]? = some (nm, xs)) (hs2 : S[q2]? = some (.inl (0, n2))) (h1' : ¬ sp < 0) (h2' : ¬ dp < 0) (h3' : ¬ n < 0) (h4' : sp.toNatClampNeg + n.toNatClampNeg ≤ xs.length) (h5' : dp.toNatClampNeg + n.toNatClampNeg ≤ n2)
    (w1 : Cond.methodLink own idx arraycopyName ∈ vv_T) (w2 : Cond.native arraycopyName ∈ vv_T) (w3 : Cond.static arraycopyName ∈ vv_T) (w4 : Cond.initialized "java/lang/System" ∈ vv_T) (hR1 : 1 ≤ R.frames) (hR2 : (st.map fun v => v.category).sum + (nativeFrameWords "java/lang/System" "arraycopy" 5 + 11) ≤ R.locals)
    (hM : va_up M q2 (va_cpy (fun j => xs.getD j 0) (M q2) sp.toNatClampNeg dp.toNatClampNeg n.toNatClampNeg) = M') (hdg : decode cc pc = .ok (.invokestatic idx, 3))
    (kk : vv_V sc own mname cc nL ret R n0 z0 Fi (pc + 3) L st S M') : vv_V sc own mname cc nL ret R n0 z0 Fi pc L (.int n :: .int dp :: .ref q2 :: .int sp :: .float w :: st) S M := by
  intro p l e s m args below meth c D cA b0 tb Q H locs ls E Hh h1 h2 hP hS hls
  subst hM
  subst hi
  have nn : ∀ z : Int32, ¬ z < 0 → z.toInt = (z.toNatClampNeg : Int) := by
    intro z hz
    have h9 := Int32.le_iff_toInt_le.mp (Int32.not_lt.mp hz)
    have h8 : (0 : Int32).toInt = 0 := rfl
    show z.toInt = ((z.toInt.toNat : Nat) : Int)
    omega
  obtain ⟨scr, t1, t2, t3, t4, -, t6, t7⟩ := (E.2.2.2.2.2.2.2.1 _ nm xs ht).2
  have hc0 : H[tb w.toNat]? = some scr := by rw [hS.2.1 _ (Array.getElem?_eq_some_iff.mp t1).1 t7]; exact t1
  have hc1 : H[b0 + q2]? = some (vp_cell (cA 0) (n2, .inl (M q2))) := hP q2 _ (vv_at b0 cA M hs2)
  obtain ⟨u1, k0, hk0, cm0, hkk0⟩ := t2
  obtain ⟨-, k1, hk1, cm1, hkk1⟩ := (E.2.2.2.2.2.2.2.2.1.2 0 _ rfl).1 n2 (fun j => .int (M q2 j))
  intro T hT X
  obtain ⟨vm', X', step⟩ := X.arraycopy E.1 E.2.2.2.2.1 (E.2.2.2.2.2.1 _ w1) (E.2.2.2.2.2.1 _ w2) (E.2.2.2.2.2.1 _ w3) (E.2.2.2.2.2.1 _ w4) (src := tb w.toNat) (dst := b0 + q2) (cs := scr) (cd := vp_cell (cA 0) (n2, .inl (M q2))) (srcPos := sp) (destPos := dp) (n := n) (by rw [hT]; exact hc0) (by rw [hT]; exact hc1)
    u1 (fun _ h => by cases h) t3 (fun h => by cases h) hk0 hk1 hkk0 hkk1 (by simp [refKind]) h1' h2' h3'
    (by rw [nn sp h1', nn n h3']; omega)
    (by rw [nn dp h2', nn n h3']; show ¬ _ > ((arrV (cA 0) n2 (fun j => .int (M q2 j))).slots.size : Int); rw [arrV_size]; omega)
    (fun vm₁ _ i hi => by
      have e : scr.slots.getD (sp.toNatClampNeg + i) .null = .int (xs.getD (sp.toNatClampNeg + i) 0) := by
        rw [Array.getD_eq_getD_getElem?, t6 _ (by omega)]
        rfl
      rw [e]
      exact ⟨rfl, trivial⟩)
    (g := F0 m pc ls (.int n :: .int dp :: .ref (b0 + q2) :: .int sp :: .ref (tb w.toNat) :: vv_st b0 tb st)) rfl (by rw [E.2.2.2.1]; exact hls.1) (rest := vv_st b0 tb st) rfl (by rw [E.2.1]; exact hdg) hR1 (by rw [vv_catsum]; show 2 * 0 + _ + _ ≤ _; omega)
  have e1 : copied scr (vp_cell (cA 0) (n2, .inl (M q2))) sp dp n = vp_cell (cA 0) (n2, .inl (va_cpy (fun j => xs.getD j 0) (M q2) sp.toNatClampNeg dp.toNatClampNeg n.toNatClampNeg)) := va_copiedX (fun z => .int z) scr (cA 0) (fun j => xs.getD j 0) (M q2) t6 h4'
  rw [e1] at X' step
  have hl : b0 + q2 < H.size := (Array.getElem?_eq_some_iff.mp hc1).1
  have hheap : ((T.setVm vm').setCell (b0 + q2) (vp_cell (cA 0) (n2, .inl (va_cpy (fun j => xs.getD j 0) (M q2) sp.toNatClampNeg dp.toNatClampNeg n.toNatClampNeg)))).heap = H.setIfInBounds (b0 + q2) (vp_cell (cA 0) (n2, .inl (va_cpy (fun j => xs.getD j 0) (M q2) sp.toNatClampNeg dp.toNatClampNeg n.toNatClampNeg))) := by rw [← hT]; rfl
  have oq : ∀ q : Nat, q ≠ b0 + q2 → (H.setIfInBounds (b0 + q2) (vp_cell (cA 0) (n2, .inl (va_cpy (fun j => xs.getD j 0) (M q2) sp.toNatClampNeg dp.toNatClampNeg n.toNatClampNeg))))[q]? = H[q]? := fun q hq => by simp [Array.getElem?_setIfInBounds, Ne.symm hq]
  have hP1 := hP.set (vv_Dd b0 cA S M) (vv_at b0 cA M hs2) (e := .inl (cA 0, n2, .inl (va_cpy (fun j => xs.getD j 0) (M q2) sp.toNatClampNeg dp.toNatClampNeg n.toNatClampNeg))) (show (H.setIfInBounds (b0 + q2) _)[b0 + q2]? = some _ by simp [Array.getElem?_setIfInBounds, hl]) oq
  have ee : (vv_ws b0 cA S M).set q2 (b0 + q2, .inl (cA 0, n2, .inl (va_cpy (fun j => xs.getD j 0) (M q2) sp.toNatClampNeg dp.toNatClampNeg n.toNatClampNeg))) = vv_ws b0 cA S (va_up M q2 (va_cpy (fun j => xs.getD j 0) (M q2) sp.toNatClampNeg dp.toNatClampNeg n.toNatClampNeg)) := by
    rw [← vv_set (M' := va_up M q2 (va_cpy (fun j => xs.getD j 0) (M q2) sp.toNatClampNeg dp.toNatClampNeg n.toNatClampNeg)) hs2 (fun j hj => if_neg hj)]
    rw [show va_up M q2 (va_cpy (fun j => xs.getD j 0) (M q2) sp.toNatClampNeg dp.toNatClampNeg n.toNatClampNeg) q2 = va_cpy (fun j => xs.getD j 0) (M q2) sp.toNatClampNeg dp.toNatClampNeg n.toNatClampNeg from if_pos rfl]
    rfl
  rw [ee] at hP1
  obtain ⟨t, a1, b1⟩ := kk p l e s m args below meth c D cA b0 tb Q _ _ ls E Hh h1 h2 hP1 ⟨by simp; exact hS.1, fun q g1 g2 => by
      rw [oq q (fun e => g2 (by rw [e]; exact Nat.le_add_right _ _))]
      exact hS.2.1 q g1 g2, fun q hq => by
      rcases List.mem_append.mp hq with h | h
      · exact hS.2.2 q h
      · obtain ⟨z, -, hz⟩ := List.mem_map.mp h
        rw [← hz]
        exact Nat.le_add_right _ _⟩ hls _ hheap X'
  exact ⟨t, step t a1, b1⟩
end VI3
end
section
def f_X2_become_72 (n : Nat)  (p0 : Nat) (p1 : Nat) (M : vv_M) : Option (Unit × vv_M) := vv_let (va_up M p0 (upd (M p0) 6 (M p1 6))) (fun (M26 : vv_M) => vv_let (va_up M26 p0 (upd (M26 p0) 7 (M26 p1 7))) (fun (M27 : vv_M) => vv_let (va_up M27 p0 (upd (M27 p0) 8 (M27 p1 8))) (fun (M28 : vv_M) => some ((), M28))))
def f_X2_become (n : Nat) (p0 : Nat) (p1 : Nat) (M : vv_M) : Option (Unit × vv_M) := if (0 : Int32) < 0 then none else if (0 : Int32) < 0 then none else if (24 : Int32) < 0 then none else if 24 < (0 : Int32).toNatClampNeg + (24 : Int32).toNatClampNeg then none else if 24 < (0 : Int32).toNatClampNeg + (24 : Int32).toNatClampNeg then none else vv_let (va_up M (p0 + 1) (va_cpy (M (p1 + 1)) (M (p0 + 1)) (0 : Int32).toNatClampNeg (0 : Int32).toNatClampNeg (24 : Int32).toNatClampNeg)) (fun (M1 : vv_M) => if (0 : Int32) < 0 then none else if (0 : Int32) < 0 then none else if (24 : Int32) < 0 then none else if 24 < (0 : Int32).toNatClampNeg + (24 : Int32).toNatClampNeg then none else if 24 < (0 : Int32).toNatClampNeg + (24 : Int32).toNatClampNeg then none else vv_let (va_up M1 (p0 + 2) (va_cpy (M1 (p1 + 2)) (M1 (p0 + 2)) (0 : Int32).toNatClampNeg (0 : Int32).toNatClampNeg (24 : Int32).toNatClampNeg)) (fun (M7 : vv_M) => if (0 : Int32) < 0 then none else if (0 : Int32) < 0 then none else if (4 : Int32) < 0 then none else if 4 < (0 : Int32).toNatClampNeg + (4 : Int32).toNatClampNeg then none else if 4 < (0 : Int32).toNatClampNeg + (4 : Int32).toNatClampNeg then none else vv_let (va_up M7 (p0 + 3) (va_cpy (M7 (p1 + 3)) (M7 (p0 + 3)) (0 : Int32).toNatClampNeg (0 : Int32).toNatClampNeg (4 : Int32).toNatClampNeg)) (fun (M13 : vv_M) => if (0 : Int32) < 0 then none else if (0 : Int32) < 0 then none else if ((M13 p1 6) * (22 : Int32)) < 0 then none else if 682 < (0 : Int32).toNatClampNeg + ((M13 p1 6) * (22 : Int32)).toNatClampNeg then none else if 682 < (0 : Int32).toNatClampNeg + ((M13 p1 6) * (22 : Int32)).toNatClampNeg then none else vv_let (va_up M13 (p0 + 4) (va_cpy (M13 (p1 + 4)) (M13 (p0 + 4)) (0 : Int32).toNatClampNeg (0 : Int32).toNatClampNeg ((M13 p1 6) * (22 : Int32)).toNatClampNeg)) (fun (M19 : vv_M) => vv_let (va_up M19 p0 (upd (M19 p0) 5 (M19 p1 5))) (fun (M25 : vv_M) => f_X2_become_72 n  p0 p1 M25)))))
def f_X1_become_54 (n : Nat) (k13 : Nat → Nat → Int32 → vv_M → Option (Unit × vv_M)) (p0 : Nat) (p1 : Nat) (x2 : Int32) (M : vv_M) : Option (Unit × vv_M) := vv_let (x2 + (1 : Int32)) (fun (y6 : Int32) => k13 p0 p1 y6 M)
def f_X1_become_13 (n : Nat)  : Nat → Nat → Nat → Int32 → vv_M → Option (Unit × vv_M)
  | 0, _, _, _, _ => none
  | k + 1, p0, p1, x2, M => if (2 : Int32) ≤ x2 then some ((), M) else if x2 < 0 ∨ 2 ≤ x2.toNatClampNeg then none else if x2 < 0 ∨ 2 ≤ x2.toNatClampNeg then none else vv_let (va_up M (p0 + 8) (upd (M (p0 + 8)) x2.toNatClampNeg (vp_nar .boolean (M (p1 + 8) x2.toNatClampNeg)))) (fun (M4 : vv_M) => if x2 < 0 ∨ 2 ≤ x2.toNatClampNeg then none else if (M4 (p0 + 8) x2.toNatClampNeg) = 0 then f_X1_become_54 n (f_X1_become_13 n k) p0 p1 x2 M4 else if x2 < 0 ∨ 2 ≤ x2.toNatClampNeg then none else if x2 < 0 ∨ 2 ≤ x2.toNatClampNeg then none else (f_X2_become n (p0 + 9 + 6 * x2.toNatClampNeg) (p1 + 9 + 6 * x2.toNatClampNeg) M4).bind (fun (u9 : Unit × vv_M) => f_X1_become_54 n (f_X1_become_13 n k) p0 p1 x2 u9.2))
def f_X1_become (n : Nat) (p0 : Nat) (p1 : Nat) (M : vv_M) : Option (Unit × vv_M) := (f_X2_become n (p0 + 1) (p1 + 1) M).bind (fun (u1 : Unit × vv_M) => f_X1_become_13 n  n p0 p1 (0 : Int32) u1.2)
def f_X0_keep (n : Nat) (p0 : Nat) (p1 : Nat) (M : vv_M) : Option (Unit × vv_M) := if (6 : Int32) = 0 then none else if (((M p0 1) + (M p0 2)) - ((M p0 1) + (M p0 2)) / (6 : Int32) * (6 : Int32)) < 0 ∨ 6 ≤ (((M p0 1) + (M p0 2)) - ((M p0 1) + (M p0 2)) / (6 : Int32) * (6 : Int32)).toNatClampNeg then none else (f_X1_become n (p0 + 2 + 21 * (((M p0 1) + (M p0 2)) - ((M p0 1) + (M p0 2)) / (6 : Int32) * (6 : Int32)).toNatClampNeg) p1 M).bind (fun (u2 : Unit × vv_M) => some ((), u2.2))
def f_X0_recordUnlessError (n : Nat) (p0 : Nat) (x1 : Int32) (M : vv_M) : Option (Int32 × vv_M) := if x1 < 0 then some (x1, M) else if (5 : Int32) ≤ (M p0 2) then if (6 : Int32) = 0 then none else vv_let (va_up M p0 (upd (M p0) 1 (((M p0 1) + (1 : Int32)) - ((M p0 1) + (1 : Int32)) / (6 : Int32) * (6 : Int32)))) (fun (M3 : vv_M) => some (x1, M3)) else vv_let (va_up M p0 (upd (M p0) 2 ((M p0 2) + (1 : Int32)))) (fun (M5 : vv_M) => some (x1, M5))
def f_X0_goBack (n : Nat) (p0 : Nat) (p1 : Nat) (M : vv_M) : Option (Int32 × vv_M) := if (M p0 2) = 0 then some ((-1002 : Int32), M) else vv_let (va_up M p0 (upd (M p0) 2 ((M p0 2) - (1 : Int32)))) (fun (M2 : vv_M) => if (6 : Int32) = 0 then none else if (((M2 p0 1) + (M2 p0 2)) - ((M2 p0 1) + (M2 p0 2)) / (6 : Int32) * (6 : Int32)) < 0 ∨ 6 ≤ (((M2 p0 1) + (M2 p0 2)) - ((M2 p0 1) + (M2 p0 2)) / (6 : Int32) * (6 : Int32)).toNatClampNeg then none else (f_X1_become n p1 (p0 + 2 + 21 * (((M2 p0 1) + (M2 p0 2)) - ((M2 p0 1) + (M2 p0 2)) / (6 : Int32) * (6 : Int32)).toNatClampNeg) M2).bind (fun (u4 : Unit × vv_M) => some (u4.2 p0 2, u4.2)))
def f_X4_isWithin (n : Nat) (x0 : Int32) (x1 : Int32) (x2 : Int32) (M : vv_M) : Option (Int32 × vv_M) := if x0 < x1 then some ((0 : Int32), M) else if x2 < x0 then some ((0 : Int32), M) else some ((1 : Int32), M)
def f_X1_takeSnapshot (n : Nat) (p0 : Nat) (x1 : Int32) (M : vv_M) : Option (Int32 × vv_M) := (f_X4_isWithin n x1 (0 : Int32) (1 : Int32) M).bind (fun (u1 : Int32 × vv_M) => if u1.1 = 0 then some ((-1001 : Int32), u1.2) else if x1 < 0 ∨ 2 ≤ x1.toNatClampNeg then none else (f_X2_become n (p0 + 9 + 6 * x1.toNatClampNeg) (p0 + 1) u1.2).bind (fun (u4 : Unit × vv_M) => if x1 < 0 ∨ 2 ≤ x1.toNatClampNeg then none else vv_let (va_up u4.2 (p0 + 8) (upd (u4.2 (p0 + 8)) x1.toNatClampNeg (vp_nar .boolean (1 : Int32)))) (fun (M6 : vv_M) => some (M6 (p0 + 1) 5, M6))))
def f_X1_restoreSnapshot (n : Nat) (p0 : Nat) (x1 : Int32) (M : vv_M) : Option (Int32 × vv_M) := (f_X4_isWithin n x1 (0 : Int32) (1 : Int32) M).bind (fun (u1 : Int32 × vv_M) => if u1.1 = 0 then some ((-1001 : Int32), u1.2) else if x1 < 0 ∨ 2 ≤ x1.toNatClampNeg then none else if (u1.2 (p0 + 8) x1.toNatClampNeg) = 0 then some ((-1002 : Int32), u1.2) else if x1 < 0 ∨ 2 ≤ x1.toNatClampNeg then none else (f_X2_become n (p0 + 1) (p0 + 9 + 6 * x1.toNatClampNeg) u1.2).bind (fun (u5 : Unit × vv_M) => some (u5.2 (p0 + 1) 5, u5.2)))
def f_X1_snapshots_21 (n : Nat) (k4 : Nat → Int32 → Int32 → vv_M → Option (Int32 × vv_M)) (p0 : Nat) (x1 : Int32) (x2 : Int32) (M : vv_M) : Option (Int32 × vv_M) := vv_let (x2 + (1 : Int32)) (fun (y3 : Int32) => k4 p0 x1 y3 M)
def f_X1_snapshots_4 (n : Nat)  : Nat → Nat → Int32 → Int32 → vv_M → Option (Int32 × vv_M)
  | 0, _, _, _, _ => none
  | k + 1, p0, x1, x2, M => if (2 : Int32) ≤ x2 then some (x1, M) else if x2 < 0 ∨ 2 ≤ x2.toNatClampNeg then none else if (M (p0 + 8) x2.toNatClampNeg) = 0 then f_X1_snapshots_21 n (f_X1_snapshots_4 n k) p0 x1 x2 M else vv_let (x1 + (1 : Int32)) (fun (y4 : Int32) => f_X1_snapshots_21 n (f_X1_snapshots_4 n k) p0 y4 x2 M)
def f_X1_snapshots (n : Nat) (p0 : Nat) (M : vv_M) : Option (Int32 × vv_M) := f_X1_snapshots_4 n  n p0 (0 : Int32) (0 : Int32) M
def f_X2_boardsThatAre_30 (n : Nat) (k4 : Nat → Int32 → Int32 → Int32 → vv_M → Option (Int32 × vv_M)) (p0 : Nat) (x1 : Int32) (x2 : Int32) (x3 : Int32) (M : vv_M) : Option (Int32 × vv_M) := vv_let (x3 + (1 : Int32)) (fun (y3 : Int32) => k4 p0 x1 x2 y3 M)
def f_X2_boardsThatAre_4 (n : Nat)  : Nat → Nat → Int32 → Int32 → Int32 → vv_M → Option (Int32 × vv_M)
  | 0, _, _, _, _, _ => none
  | k + 1, p0, x1, x2, x3, M => if (M p0 6) ≤ x3 then some (x2, M) else if ((x3 * (22 : Int32)) + (2 : Int32)) < 0 ∨ 682 ≤ ((x3 * (22 : Int32)) + (2 : Int32)).toNatClampNeg then none else if (M (p0 + 4) ((x3 * (22 : Int32)) + (2 : Int32)).toNatClampNeg) = x1 then vv_let (x2 + (1 : Int32)) (fun (y4 : Int32) => f_X2_boardsThatAre_30 n (f_X2_boardsThatAre_4 n k) p0 x1 y4 x3 M) else f_X2_boardsThatAre_30 n (f_X2_boardsThatAre_4 n k) p0 x1 x2 x3 M
def f_X2_boardsThatAre (n : Nat) (p0 : Nat) (x1 : Int32) (M : vv_M) : Option (Int32 × vv_M) := f_X2_boardsThatAre_4 n  n p0 x1 (0 : Int32) (0 : Int32) M
def f_X2_firstCellOf_4 (n : Nat)  : Nat → Nat → Int32 → Int32 → Int32 → vv_M → Option (Int32 × vv_M)
  | 0, _, _, _, _, _ => none
  | k + 1, p0, x1, x2, x3, M => if x1 ≤ x3 then some (x2, M) else if (6 : Int32) ≤ x3 then some (x2, M) else if ((x3 * (4 : Int32)) + (0 : Int32)) < 0 ∨ 24 ≤ ((x3 * (4 : Int32)) + (0 : Int32)).toNatClampNeg then none else vv_let (x2 + (M (p0 + 1) ((x3 * (4 : Int32)) + (0 : Int32)).toNatClampNeg)) (fun (y3 : Int32) => vv_let (x3 + (1 : Int32)) (fun (y4 : Int32) => (f_X2_firstCellOf_4 n k) p0 x1 y3 y4 M))
def f_X2_firstCellOf (n : Nat) (p0 : Nat) (x1 : Int32) (M : vv_M) : Option (Int32 × vv_M) := f_X2_firstCellOf_4 n  n p0 x1 (0 : Int32) (0 : Int32) M
def f_X2_beltLength (n : Nat) (p0 : Nat) (M : vv_M) : Option (Int32 × vv_M) := (f_X2_firstCellOf n p0 (6 : Int32) M).bind (fun (u1 : Int32 × vv_M) => some (u1.1, u1.2))
def f_X2_changeZone_104 (n : Nat)  (p0 : Nat) (M : vv_M) : Option (Int32 × vv_M) := (f_X2_beltLength n p0 M).bind (fun (u20 : Int32 × vv_M) => some (u20.1, u20.2))
def f_X2_changeZone_58 (n : Nat)  (p0 : Nat) (x1 : Int32) (x2 : Int32) (x3 : Int32) (x4 : Int32) (M : vv_M) : Option (Int32 × vv_M) := vv_let (x1 * (4 : Int32)) (fun (y11 : Int32) => if (y11 + (0 : Int32)) < 0 ∨ 24 ≤ (y11 + (0 : Int32)).toNatClampNeg then none else vv_let (va_up M (p0 + 1) (upd (M (p0 + 1)) (y11 + (0 : Int32)).toNatClampNeg x2)) (fun (M13 : vv_M) => if (y11 + (1 : Int32)) < 0 ∨ 24 ≤ (y11 + (1 : Int32)).toNatClampNeg then none else vv_let (va_up M13 (p0 + 1) (upd (M13 (p0 + 1)) (y11 + (1 : Int32)).toNatClampNeg x3)) (fun (M15 : vv_M) => if (y11 + (2 : Int32)) < 0 ∨ 24 ≤ (y11 + (2 : Int32)).toNatClampNeg then none else vv_let (va_up M15 (p0 + 1) (upd (M15 (p0 + 1)) (y11 + (2 : Int32)).toNatClampNeg x4)) (fun (M17 : vv_M) => if (y11 + (3 : Int32)) < 0 ∨ 24 ≤ (y11 + (3 : Int32)).toNatClampNeg then none else vv_let (va_up M17 (p0 + 1) (upd (M17 (p0 + 1)) (y11 + (3 : Int32)).toNatClampNeg x3)) (fun (M19 : vv_M) => f_X2_changeZone_104 n  p0 M19)))))
def f_X2_changeZone (n : Nat) (p0 : Nat) (x1 : Int32) (x2 : Int32) (x3 : Int32) (x4 : Int32) (M : vv_M) : Option (Int32 × vv_M) := (f_X4_isWithin n x1 (0 : Int32) (5 : Int32) M).bind (fun (u1 : Int32 × vv_M) => if u1.1 = 0 then some ((-1001 : Int32), u1.2) else (f_X4_isWithin n x2 (2 : Int32) (8 : Int32) u1.2).bind (fun (u3 : Int32 × vv_M) => if u3.1 = 0 then some ((-1001 : Int32), u3.2) else (f_X4_isWithin n x3 (20 : Int32) (300 : Int32) u3.2).bind (fun (u5 : Int32 × vv_M) => if u5.1 = 0 then some ((-1001 : Int32), u5.2) else (f_X4_isWithin n x4 (1 : Int32) (20 : Int32) u5.2).bind (fun (u7 : Int32 × vv_M) => if u7.1 = 0 then some ((-1001 : Int32), u7.2) else (f_X2_boardsThatAre n p0 (0 : Int32) u7.2).bind (fun (u9 : Int32 × vv_M) => if u9.1 ≤ 0 then f_X2_changeZone_58 n  p0 x1 x2 x3 x4 u9.2 else some ((-1002 : Int32), u9.2))))))
def f_X2_changeCurve (n : Nat) (p0 : Nat) (x1 : Int32) (x2 : Int32) (x3 : Int32) (M : vv_M) : Option (Int32 × vv_M) := (f_X4_isWithin n x1 (0 : Int32) (3 : Int32) M).bind (fun (u1 : Int32 × vv_M) => if u1.1 = 0 then some ((-1001 : Int32), u1.2) else (f_X4_isWithin n x2 (0 : Int32) (5 : Int32) u1.2).bind (fun (u3 : Int32 × vv_M) => if u3.1 = 0 then some ((-1001 : Int32), u3.2) else if x2 < 0 ∨ 6 ≤ x2.toNatClampNeg then none else if x2 < 0 ∨ 6 ≤ x2.toNatClampNeg then none else (f_X4_isWithin n x3 (([1, 20, 0, 0, 20, 20] : List Int32).getD x2.toNatClampNeg 0) (([99, 300, 99, 99, 300, 300] : List Int32).getD x2.toNatClampNeg 0) u3.2).bind (fun (u5 : Int32 × vv_M) => if u5.1 = 0 then some ((-1001 : Int32), u5.2) else if ((x1 * (6 : Int32)) + x2) < 0 ∨ 24 ≤ ((x1 * (6 : Int32)) + x2).toNatClampNeg then none else vv_let (u5.2 (p0 + 2) ((x1 * (6 : Int32)) + x2).toNatClampNeg) (fun (y7 : Int32) => if ((x1 * (6 : Int32)) + x2) < 0 ∨ 24 ≤ ((x1 * (6 : Int32)) + x2).toNatClampNeg then none else vv_let (va_up u5.2 (p0 + 2) (upd (u5.2 (p0 + 2)) ((x1 * (6 : Int32)) + x2).toNatClampNeg x3)) (fun (M9 : vv_M) => some (y7, M9))))))
def f_X2_changeNumber (n : Nat) (p0 : Nat) (x1 : Int32) (x2 : Int32) (M : vv_M) : Option (Int32 × vv_M) := (f_X4_isWithin n x1 (0 : Int32) (3 : Int32) M).bind (fun (u1 : Int32 × vv_M) => if u1.1 = 0 then some ((-1001 : Int32), u1.2) else if x1 < 0 ∨ 4 ≤ x1.toNatClampNeg then none else if x1 < 0 ∨ 4 ≤ x1.toNatClampNeg then none else (f_X4_isWithin n x2 (([1, 1, 0, 0] : List Int32).getD x1.toNatClampNeg 0) (([3, 20, 99, 9] : List Int32).getD x1.toNatClampNeg 0) u1.2).bind (fun (u3 : Int32 × vv_M) => if u3.1 = 0 then some ((-1001 : Int32), u3.2) else if x1 < 0 ∨ 4 ≤ x1.toNatClampNeg then none else vv_let (u3.2 (p0 + 3) x1.toNatClampNeg) (fun (y5 : Int32) => if x1 < 0 ∨ 4 ≤ x1.toNatClampNeg then none else vv_let (va_up u3.2 (p0 + 3) (upd (u3.2 (p0 + 3)) x1.toNatClampNeg x2)) (fun (M7 : vv_M) => some (y5, M7)))))
def f_X2_isOnBelt (n : Nat) (p0 : Nat) (x1 : Int32) (M : vv_M) : Option (Int32 × vv_M) := if ((x1 * (22 : Int32)) + (2 : Int32)) < 0 ∨ 682 ≤ ((x1 * (22 : Int32)) + (2 : Int32)).toNatClampNeg then none else if (M (p0 + 4) ((x1 * (22 : Int32)) + (2 : Int32)).toNatClampNeg) = 0 then some ((1 : Int32), M) else some ((0 : Int32), M)
def f_X2_isStartFree_40 (n : Nat) (k2 : Nat → Int32 → vv_M → Option (Int32 × vv_M)) (p0 : Nat) (x1 : Int32) (M : vv_M) : Option (Int32 × vv_M) := vv_let (x1 + (1 : Int32)) (fun (y4 : Int32) => k2 p0 y4 M)
def f_X2_isStartFree_2 (n : Nat)  : Nat → Nat → Int32 → vv_M → Option (Int32 × vv_M)
  | 0, _, _, _ => none
  | k + 1, p0, x1, M => if (M p0 6) ≤ x1 then some ((1 : Int32), M) else (f_X2_isOnBelt n p0 x1 M).bind (fun (u2 : Int32 × vv_M) => if u2.1 = 0 then f_X2_isStartFree_40 n (f_X2_isStartFree_2 n k) p0 x1 u2.2 else if ((x1 * (22 : Int32)) + (3 : Int32)) < 0 ∨ 682 ≤ ((x1 * (22 : Int32)) + (3 : Int32)).toNatClampNeg then none else if (1 : Int32) < 0 ∨ 4 ≤ (1 : Int32).toNatClampNeg then none else if (u2.2 (p0 + 3) (1 : Int32).toNatClampNeg) ≤ (u2.2 (p0 + 4) ((x1 * (22 : Int32)) + (3 : Int32)).toNatClampNeg) then f_X2_isStartFree_40 n (f_X2_isStartFree_2 n k) p0 x1 u2.2 else some ((0 : Int32), u2.2))
def f_X2_isStartFree (n : Nat) (p0 : Nat) (M : vv_M) : Option (Int32 × vv_M) := f_X2_isStartFree_2 n  n p0 (0 : Int32) M
def f_X2_placeBoard_98 (n : Nat)  (p0 : Nat) (M : vv_M) : Option (Int32 × vv_M) := vv_let (va_up M p0 (upd (M p0) 6 ((M p0 6) + (1 : Int32)))) (fun (M13 : vv_M) => some ((M13 p0 6) - (1 : Int32), M13))
def f_X2_placeBoard_40 (n : Nat) (k11 : Nat → Int32 → Int32 → Int32 → Int32 → vv_M → Option (Int32 × vv_M)) (p0 : Nat) (x1 : Int32) (x2 : Int32) (x3 : Int32) (x4 : Int32) (s0 : Nat) (s1 : Int32) (s2 : Int32) (M : vv_M) : Option (Int32 × vv_M) := if s1 < 0 ∨ 682 ≤ s1.toNatClampNeg then none else vv_let (va_up M s0 (upd (M s0) s1.toNatClampNeg s2)) (fun (M16 : vv_M) => vv_let (x4 + (1 : Int32)) (fun (y17 : Int32) => k11 p0 x1 x2 x3 y17 M16))
def f_X2_placeBoard_11 (n : Nat)  : Nat → Nat → Int32 → Int32 → Int32 → Int32 → vv_M → Option (Int32 × vv_M)
  | 0, _, _, _, _, _, _ => none
  | k + 1, p0, x1, x2, x3, x4, M => if (22 : Int32) ≤ x4 then if (x3 + (0 : Int32)) < 0 ∨ 682 ≤ (x3 + (0 : Int32)).toNatClampNeg then none else vv_let (va_up M (p0 + 4) (upd (M (p0 + 4)) (x3 + (0 : Int32)).toNatClampNeg x1)) (fun (M4 : vv_M) => if (x3 + (1 : Int32)) < 0 ∨ 682 ≤ (x3 + (1 : Int32)).toNatClampNeg then none else vv_let (va_up M4 (p0 + 4) (upd (M4 (p0 + 4)) (x3 + (1 : Int32)).toNatClampNeg x2)) (fun (M6 : vv_M) => if (x3 + (4 : Int32)) < 0 ∨ 682 ≤ (x3 + (4 : Int32)).toNatClampNeg then none else vv_let (va_up M6 (p0 + 4) (upd (M6 (p0 + 4)) (x3 + (4 : Int32)).toNatClampNeg (20 : Int32))) (fun (M8 : vv_M) => if (x3 + (6 : Int32)) < 0 ∨ 682 ≤ (x3 + (6 : Int32)).toNatClampNeg then none else vv_let (va_up M8 (p0 + 4) (upd (M8 (p0 + 4)) (x3 + (6 : Int32)).toNatClampNeg (20 : Int32))) (fun (M10 : vv_M) => if (x3 + (10 : Int32)) < 0 ∨ 682 ≤ (x3 + (10 : Int32)).toNatClampNeg then none else vv_let (va_up M10 (p0 + 4) (upd (M10 (p0 + 4)) (x3 + (10 : Int32)).toNatClampNeg (-1009 : Int32))) (fun (M12 : vv_M) => f_X2_placeBoard_98 n  p0 M12))))) else if (12 : Int32) ≤ x4 then f_X2_placeBoard_40 n (f_X2_placeBoard_11 n k) p0 x1 x2 x3 x4 (p0 + 4) (x3 + x4) (-1009 : Int32) M else f_X2_placeBoard_40 n (f_X2_placeBoard_11 n k) p0 x1 x2 x3 x4 (p0 + 4) (x3 + x4) (0 : Int32) M
def f_X2_placeBoard (n : Nat) (p0 : Nat) (x1 : Int32) (x2 : Int32) (M : vv_M) : Option (Int32 × vv_M) := vv_let ((M p0 6) * (22 : Int32)) (fun (y1 : Int32) => f_X2_placeBoard_11 n  n p0 x1 x2 y1 (0 : Int32) M)
def f_X2_addBoard (n : Nat) (p0 : Nat) (x1 : Int32) (x2 : Int32) (M : vv_M) : Option (Int32 × vv_M) := (f_X4_isWithin n x1 (0 : Int32) (3 : Int32) M).bind (fun (u1 : Int32 × vv_M) => if u1.1 = 0 then some ((-1001 : Int32), u1.2) else (f_X4_isWithin n x2 (1 : Int32) (9 : Int32) u1.2).bind (fun (u3 : Int32 × vv_M) => if u3.1 = 0 then some ((-1001 : Int32), u3.2) else (f_X2_isStartFree n p0 u3.2).bind (fun (u5 : Int32 × vv_M) => if u5.1 = 0 then some ((-1002 : Int32), u5.2) else if (u5.2 p0 6) < (30 : Int32) then (f_X2_placeBoard n p0 x1 x2 u5.2).bind (fun (u8 : Int32 × vv_M) => some (u8.1, u8.2)) else some ((-1003 : Int32), u5.2))))
def f_X2_hasBoard (n : Nat) (p0 : Nat) (x1 : Int32) (M : vv_M) : Option (Int32 × vv_M) := (f_X4_isWithin n x1 (0 : Int32) ((M p0 6) - (1 : Int32)) M).bind (fun (u1 : Int32 × vv_M) => if u1.1 = 0 ∨ u1.1 = 1 then some (u1.1, u1.2) else none)
def f_X2_removeBoard_47 (n : Nat)  (p0 : Nat) (x2 : Int32) (x3 : Int32) (M : vv_M) : Option (Int32 × vv_M) := if (x2 + (3 : Int32)) < 0 ∨ 682 ≤ (x2 + (3 : Int32)).toNatClampNeg then none else vv_let (va_up M (p0 + 4) (upd (M (p0 + 4)) (x2 + (3 : Int32)).toNatClampNeg (-1009 : Int32))) (fun (M10 : vv_M) => some (x3, M10))
def f_X2_removeBoard (n : Nat) (p0 : Nat) (x1 : Int32) (M : vv_M) : Option (Int32 × vv_M) := (f_X2_hasBoard n p0 x1 M).bind (fun (u1 : Int32 × vv_M) => if u1.1 = 0 then some ((-1001 : Int32), u1.2) else (f_X2_isOnBelt n p0 x1 u1.2).bind (fun (u3 : Int32 × vv_M) => if u3.1 = 0 then some ((-1002 : Int32), u3.2) else vv_let (x1 * (22 : Int32)) (fun (y5 : Int32) => if (y5 + (3 : Int32)) < 0 ∨ 682 ≤ (y5 + (3 : Int32)).toNatClampNeg then none else vv_let (u3.2 (p0 + 4) (y5 + (3 : Int32)).toNatClampNeg) (fun (y6 : Int32) => if (y5 + (2 : Int32)) < 0 ∨ 682 ≤ (y5 + (2 : Int32)).toNatClampNeg then none else vv_let (va_up u3.2 (p0 + 4) (upd (u3.2 (p0 + 4)) (y5 + (2 : Int32)).toNatClampNeg (2 : Int32))) (fun (M8 : vv_M) => f_X2_removeBoard_47 n  p0 y5 y6 M8)))))
def f_X2_zoneAt_4 (n : Nat)  : Nat → Nat → Int32 → Int32 → Int32 → vv_M → Option (Int32 × vv_M)
  | 0, _, _, _, _, _ => none
  | k + 1, p0, x1, x2, x3, M => if (5 : Int32) ≤ x3 then some ((5 : Int32), M) else if ((x3 * (4 : Int32)) + (0 : Int32)) < 0 ∨ 24 ≤ ((x3 * (4 : Int32)) + (0 : Int32)).toNatClampNeg then none else vv_let (x2 + (M (p0 + 1) ((x3 * (4 : Int32)) + (0 : Int32)).toNatClampNeg)) (fun (y2 : Int32) => if y2 ≤ x1 then vv_let (x3 + (1 : Int32)) (fun (y4 : Int32) => (f_X2_zoneAt_4 n k) p0 x1 y2 y4 M) else some (x3, M))
def f_X2_zoneAt (n : Nat) (p0 : Nat) (x1 : Int32) (M : vv_M) : Option (Int32 × vv_M) := f_X2_zoneAt_4 n  n p0 x1 (0 : Int32) (0 : Int32) M
def f_X2_noteFault (n : Nat) (p0 : Nat) (x1 : Int32) (x2 : Int32) (x3 : Int32) (M : vv_M) : Option (Unit × vv_M) := vv_let ((1 : Int32) <<< (x2 &&& 31)) (fun (y1 : Int32) => if (x1 + (8 : Int32)) < 0 ∨ 682 ≤ (x1 + (8 : Int32)).toNatClampNeg then none else if ((M (p0 + 4) (x1 + (8 : Int32)).toNatClampNeg) &&& y1) = 0 then if (x1 + (8 : Int32)) < 0 ∨ 682 ≤ (x1 + (8 : Int32)).toNatClampNeg then none else if (x1 + (8 : Int32)) < 0 ∨ 682 ≤ (x1 + (8 : Int32)).toNatClampNeg then none else vv_let (va_up M (p0 + 4) (upd (M (p0 + 4)) (x1 + (8 : Int32)).toNatClampNeg ((M (p0 + 4) (x1 + (8 : Int32)).toNatClampNeg) ||| y1))) (fun (M4 : vv_M) => if ((x1 + (12 : Int32)) + x2) < 0 ∨ 682 ≤ ((x1 + (12 : Int32)) + x2).toNatClampNeg then none else vv_let (va_up M4 (p0 + 4) (upd (M4 (p0 + 4)) ((x1 + (12 : Int32)) + x2).toNatClampNeg x3)) (fun (M6 : vv_M) => if ((x1 + (17 : Int32)) + x2) < 0 ∨ 682 ≤ ((x1 + (17 : Int32)) + x2).toNatClampNeg then none else vv_let (va_up M6 (p0 + 4) (upd (M6 (p0 + 4)) ((x1 + (17 : Int32)) + x2).toNatClampNeg (M6 p0 5))) (fun (M8 : vv_M) => some ((), M8)))) else some ((), M))
def f_X2_leave_72 (n : Nat)  (p0 : Nat) (x1 : Int32) (x2 : Int32) (x3 : Int32) (M : vv_M) : Option (Unit × vv_M) := if (x1 + (6 : Int32)) < 0 ∨ 682 ≤ (x1 + (6 : Int32)).toNatClampNeg then none else if (x3 + (4 : Int32)) < 0 ∨ 24 ≤ (x3 + (4 : Int32)).toNatClampNeg then none else if (M (p0 + 2) (x3 + (4 : Int32)).toNatClampNeg) ≤ (M (p0 + 4) (x1 + (6 : Int32)).toNatClampNeg) then some ((), M) else (f_X2_noteFault n p0 x1 (4 : Int32) x2 M).bind (fun (u10 : Unit × vv_M) => some ((), u10.2))
def f_X2_leave (n : Nat) (p0 : Nat) (x1 : Int32) (x2 : Int32) (M : vv_M) : Option (Unit × vv_M) := if (x1 + (0 : Int32)) < 0 ∨ 682 ≤ (x1 + (0 : Int32)).toNatClampNeg then none else vv_let ((M (p0 + 4) (x1 + (0 : Int32)).toNatClampNeg) * (6 : Int32)) (fun (y1 : Int32) => if (x1 + (2 : Int32)) < 0 ∨ 682 ≤ (x1 + (2 : Int32)).toNatClampNeg then none else vv_let (va_up M (p0 + 4) (upd (M (p0 + 4)) (x1 + (2 : Int32)).toNatClampNeg (1 : Int32))) (fun (M3 : vv_M) => if (x1 + (3 : Int32)) < 0 ∨ 682 ≤ (x1 + (3 : Int32)).toNatClampNeg then none else vv_let (va_up M3 (p0 + 4) (upd (M3 (p0 + 4)) (x1 + (3 : Int32)).toNatClampNeg (-1009 : Int32))) (fun (M5 : vv_M) => if (x1 + (10 : Int32)) < 0 ∨ 682 ≤ (x1 + (10 : Int32)).toNatClampNeg then none else vv_let (va_up M5 (p0 + 4) (upd (M5 (p0 + 4)) (x1 + (10 : Int32)).toNatClampNeg (M5 p0 5))) (fun (M7 : vv_M) => if (x1 + (7 : Int32)) < 0 ∨ 682 ≤ (x1 + (7 : Int32)).toNatClampNeg then none else if (y1 + (2 : Int32)) < 0 ∨ 24 ≤ (y1 + (2 : Int32)).toNatClampNeg then none else if (M7 (p0 + 2) (y1 + (2 : Int32)).toNatClampNeg) ≤ (M7 (p0 + 4) (x1 + (7 : Int32)).toNatClampNeg) then f_X2_leave_72 n  p0 x1 x2 y1 M7 else (f_X2_noteFault n p0 x1 (3 : Int32) x2 M7).bind (fun (u13 : Unit × vv_M) => f_X2_leave_72 n  p0 x1 x2 y1 u13.2)))))
def f_X2_moveBoards_99 (n : Nat) (k9 : Nat → Int32 → Int32 → Int32 → vv_M → Option (Int32 × vv_M)) (p0 : Nat) (x1 : Int32) (x2 : Int32) (x3 : Int32) (M : vv_M) : Option (Int32 × vv_M) := vv_let (x3 + (1 : Int32)) (fun (y6 : Int32) => k9 p0 x1 x2 y6 M)
def f_X2_moveBoards_86 (n : Nat) (k9 : Nat → Int32 → Int32 → Int32 → vv_M → Option (Int32 × vv_M)) (p0 : Nat) (x1 : Int32) (x2 : Int32) (x3 : Int32) (M : vv_M) : Option (Int32 × vv_M) := f_X2_moveBoards_99 n k9 p0 x1 x2 x3 M
def f_X2_moveBoards_9 (n : Nat)  : Nat → Nat → Int32 → Int32 → Int32 → vv_M → Option (Int32 × vv_M)
  | 0, _, _, _, _, _ => none
  | k + 1, p0, x1, x2, x3, M => if (M p0 6) ≤ x3 then some (x2, M) else vv_let (x3 * (22 : Int32)) (fun (y4 : Int32) => if (y4 + (2 : Int32)) < 0 ∨ 682 ≤ (y4 + (2 : Int32)).toNatClampNeg then none else if (M (p0 + 4) (y4 + (2 : Int32)).toNatClampNeg) = 0 then if (y4 + (3 : Int32)) < 0 ∨ 682 ≤ (y4 + (3 : Int32)).toNatClampNeg then none else if (0 : Int32) < 0 ∨ 4 ≤ (0 : Int32).toNatClampNeg then none else vv_let ((M (p0 + 4) (y4 + (3 : Int32)).toNatClampNeg) + (M (p0 + 3) (0 : Int32).toNatClampNeg)) (fun (y7 : Int32) => if x1 ≤ y7 then (f_X2_leave n p0 y4 x1 M).bind (fun (u9 : Unit × vv_M) => vv_let (x2 + (1 : Int32)) (fun (y10 : Int32) => f_X2_moveBoards_99 n (f_X2_moveBoards_9 n k) p0 x1 y10 x3 u9.2)) else if (y4 + (3 : Int32)) < 0 ∨ 682 ≤ (y4 + (3 : Int32)).toNatClampNeg then none else vv_let (va_up M (p0 + 4) (upd (M (p0 + 4)) (y4 + (3 : Int32)).toNatClampNeg y7)) (fun (M12 : vv_M) => (f_X2_zoneAt n p0 y7 M12).bind (fun (u13 : Int32 × vv_M) => if (y4 + (11 : Int32)) < 0 ∨ 682 ≤ (y4 + (11 : Int32)).toNatClampNeg then none else vv_let (va_up u13.2 (p0 + 4) (upd (u13.2 (p0 + 4)) (y4 + (11 : Int32)).toNatClampNeg u13.1)) (fun (M15 : vv_M) => f_X2_moveBoards_86 n (f_X2_moveBoards_9 n k) p0 x1 x2 x3 M15)))) else f_X2_moveBoards_99 n (f_X2_moveBoards_9 n k) p0 x1 x2 x3 M)
def f_X2_moveBoards (n : Nat) (p0 : Nat) (M : vv_M) : Option (Int32 × vv_M) := (f_X2_beltLength n p0 M).bind (fun (u1 : Int32 × vv_M) => vv_let u1.1 (fun (y2 : Int32) => f_X2_moveBoards_9 n  n p0 y2 (0 : Int32) (0 : Int32) u1.2))
def f_X2_sumWeights_72 (n : Nat) (k23 : Nat → Int32 → vv_M → Option (Unit × vv_M)) (p0 : Nat) (x1 : Int32) (M : vv_M) : Option (Unit × vv_M) := vv_let (x1 + (1 : Int32)) (fun (y5 : Int32) => k23 p0 y5 M)
def f_X2_sumWeights_23 (n : Nat)  : Nat → Nat → Int32 → vv_M → Option (Unit × vv_M)
  | 0, _, _, _ => none
  | k + 1, p0, x1, M => if (M p0 6) ≤ x1 then some ((), M) else vv_let (x1 * (22 : Int32)) (fun (y3 : Int32) => if (y3 + (2 : Int32)) < 0 ∨ 682 ≤ (y3 + (2 : Int32)).toNatClampNeg then none else if (M (p0 + 4) (y3 + (2 : Int32)).toNatClampNeg) = 0 then if (y3 + (11 : Int32)) < 0 ∨ 682 ≤ (y3 + (11 : Int32)).toNatClampNeg then none else if (M (p0 + 4) (y3 + (11 : Int32)).toNatClampNeg) < 0 ∨ 6 ≤ (M (p0 + 4) (y3 + (11 : Int32)).toNatClampNeg).toNatClampNeg then none else if (y3 + (1 : Int32)) < 0 ∨ 682 ≤ (y3 + (1 : Int32)).toNatClampNeg then none else if (M (p0 + 4) (y3 + (11 : Int32)).toNatClampNeg) < 0 ∨ 6 ≤ (M (p0 + 4) (y3 + (11 : Int32)).toNatClampNeg).toNatClampNeg then none else vv_let (va_up M (p0 + 5) (upd (M (p0 + 5)) (M (p0 + 4) (y3 + (11 : Int32)).toNatClampNeg).toNatClampNeg ((M (p0 + 5) (M (p0 + 4) (y3 + (11 : Int32)).toNatClampNeg).toNatClampNeg) + (M (p0 + 4) (y3 + (1 : Int32)).toNatClampNeg)))) (fun (M7 : vv_M) => f_X2_sumWeights_72 n (f_X2_sumWeights_23 n k) p0 x1 M7) else f_X2_sumWeights_72 n (f_X2_sumWeights_23 n k) p0 x1 M)
def f_X2_sumWeights_2 (n : Nat)  : Nat → Nat → Int32 → vv_M → Option (Unit × vv_M)
  | 0, _, _, _ => none
  | k + 1, p0, x1, M => if (6 : Int32) ≤ x1 then f_X2_sumWeights_23 n  n p0 (0 : Int32) M else if x1 < 0 ∨ 6 ≤ x1.toNatClampNeg then none else vv_let (va_up M (p0 + 5) (upd (M (p0 + 5)) x1.toNatClampNeg (0 : Int32))) (fun (M13 : vv_M) => vv_let (x1 + (1 : Int32)) (fun (y14 : Int32) => (f_X2_sumWeights_2 n k) p0 y14 M13))
def f_X2_sumWeights (n : Nat) (p0 : Nat) (M : vv_M) : Option (Unit × vv_M) := f_X2_sumWeights_2 n  n p0 (0 : Int32) M
def f_J9_max_7cf53 (n : Nat) (x0 : Int32) (x1 : Int32) (M : vv_M) : Option (Int32 × vv_M) := if x0 < x1 then some (x1, M) else some (x0, M)
def f_J9_min_7cf53 (n : Nat) (x0 : Int32) (x1 : Int32) (M : vv_M) : Option (Int32 × vv_M) := if x1 < x0 then some (x1, M) else some (x0, M)
def f_X2_changeWarmths_97 (n : Nat) (k6 : Nat → Int32 → vv_M → Option (Unit × vv_M)) (p0 : Nat) (x1 : Int32) (x2 : Int32) (x5 : Int32) (M : vv_M) : Option (Unit × vv_M) := if (x2 + (3 : Int32)) < 0 ∨ 24 ≤ (x2 + (3 : Int32)).toNatClampNeg then none else vv_let (va_up M (p0 + 1) (upd (M (p0 + 1)) (x2 + (3 : Int32)).toNatClampNeg x5)) (fun (M12 : vv_M) => vv_let (x1 + (1 : Int32)) (fun (y13 : Int32) => k6 p0 y13 M12))
def f_X2_changeWarmths_66 (n : Nat) (k6 : Nat → Int32 → vv_M → Option (Unit × vv_M)) (p0 : Nat) (x1 : Int32) (x2 : Int32) (x3 : Int32) (x4 : Int32) (x5 : Int32) (M : vv_M) : Option (Unit × vv_M) := if x3 ≤ x5 then (f_J9_max_7cf53 n x3 (x5 - x4) M).bind (fun (u9 : Int32 × vv_M) => vv_let u9.1 (fun (y10 : Int32) => f_X2_changeWarmths_97 n k6 p0 x1 x2 y10 u9.2)) else (f_J9_min_7cf53 n x3 (x5 + x4) M).bind (fun (u14 : Int32 × vv_M) => vv_let u14.1 (fun (y15 : Int32) => f_X2_changeWarmths_97 n k6 p0 x1 x2 y15 u14.2))
def f_X2_changeWarmths_6 (n : Nat)  : Nat → Nat → Int32 → vv_M → Option (Unit × vv_M)
  | 0, _, _, _ => none
  | k + 1, p0, x1, M => if (6 : Int32) ≤ x1 then some ((), M) else vv_let (x1 * (4 : Int32)) (fun (y3 : Int32) => if (y3 + (1 : Int32)) < 0 ∨ 24 ≤ (y3 + (1 : Int32)).toNatClampNeg then none else vv_let (M (p0 + 1) (y3 + (1 : Int32)).toNatClampNeg) (fun (y4 : Int32) => if (y3 + (2 : Int32)) < 0 ∨ 24 ≤ (y3 + (2 : Int32)).toNatClampNeg then none else vv_let (M (p0 + 1) (y3 + (2 : Int32)).toNatClampNeg) (fun (y5 : Int32) => if (y3 + (3 : Int32)) < 0 ∨ 24 ≤ (y3 + (3 : Int32)).toNatClampNeg then none else if (3 : Int32) < 0 ∨ 4 ≤ (3 : Int32).toNatClampNeg then none else if x1 < 0 ∨ 6 ≤ x1.toNatClampNeg then none else if (5 : Int32) = 0 then none else (f_J9_max_7cf53 n (20 : Int32) ((M (p0 + 1) (y3 + (3 : Int32)).toNatClampNeg) - (((M (p0 + 3) (3 : Int32).toNatClampNeg) * (M (p0 + 5) x1.toNatClampNeg)) / (5 : Int32))) M).bind (fun (u6 : Int32 × vv_M) => vv_let u6.1 (fun (y7 : Int32) => f_X2_changeWarmths_66 n (f_X2_changeWarmths_6 n k) p0 x1 y3 y4 y5 y7 u6.2)))))
def f_X2_changeWarmths (n : Nat) (p0 : Nat) (M : vv_M) : Option (Unit × vv_M) := (f_X2_sumWeights n p0 M).bind (fun (u1 : Unit × vv_M) => f_X2_changeWarmths_6 n  n p0 (0 : Int32) u1.2)
def f_X2_warm_59 (n : Nat)  (p0 : Nat) (x1 : Int32) (x3 : Int32) (M : vv_M) : Option (Unit × vv_M) := if (x1 + (4 : Int32)) < 0 ∨ 682 ≤ (x1 + (4 : Int32)).toNatClampNeg then none else vv_let (va_up M (p0 + 4) (upd (M (p0 + 4)) (x1 + (4 : Int32)).toNatClampNeg x3)) (fun (M8 : vv_M) => if (x1 + (6 : Int32)) < 0 ∨ 682 ≤ (x1 + (6 : Int32)).toNatClampNeg then none else (f_J9_max_7cf53 n (M8 (p0 + 4) (x1 + (6 : Int32)).toNatClampNeg) x3 M8).bind (fun (u9 : Int32 × vv_M) => if (x1 + (6 : Int32)) < 0 ∨ 682 ≤ (x1 + (6 : Int32)).toNatClampNeg then none else vv_let (va_up u9.2 (p0 + 4) (upd (u9.2 (p0 + 4)) (x1 + (6 : Int32)).toNatClampNeg u9.1)) (fun (M11 : vv_M) => if (x1 + (0 : Int32)) < 0 ∨ 682 ≤ (x1 + (0 : Int32)).toNatClampNeg then none else if (((M11 (p0 + 4) (x1 + (0 : Int32)).toNatClampNeg) * (6 : Int32)) + (1 : Int32)) < 0 ∨ 24 ≤ (((M11 (p0 + 4) (x1 + (0 : Int32)).toNatClampNeg) * (6 : Int32)) + (1 : Int32)).toNatClampNeg then none else if x3 ≤ (M11 (p0 + 2) (((M11 (p0 + 4) (x1 + (0 : Int32)).toNatClampNeg) * (6 : Int32)) + (1 : Int32)).toNatClampNeg) then some ((), M11) else if (x1 + (7 : Int32)) < 0 ∨ 682 ≤ (x1 + (7 : Int32)).toNatClampNeg then none else if (x1 + (7 : Int32)) < 0 ∨ 682 ≤ (x1 + (7 : Int32)).toNatClampNeg then none else vv_let (va_up M11 (p0 + 4) (upd (M11 (p0 + 4)) (x1 + (7 : Int32)).toNatClampNeg ((M11 (p0 + 4) (x1 + (7 : Int32)).toNatClampNeg) + (1 : Int32)))) (fun (M14 : vv_M) => some ((), M14)))))
def f_X2_warm (n : Nat) (p0 : Nat) (x1 : Int32) (M : vv_M) : Option (Unit × vv_M) := if (x1 + (11 : Int32)) < 0 ∨ 682 ≤ (x1 + (11 : Int32)).toNatClampNeg then none else if (((M (p0 + 4) (x1 + (11 : Int32)).toNatClampNeg) * (4 : Int32)) + (3 : Int32)) < 0 ∨ 24 ≤ (((M (p0 + 4) (x1 + (11 : Int32)).toNatClampNeg) * (4 : Int32)) + (3 : Int32)).toNatClampNeg then none else vv_let (M (p0 + 1) (((M (p0 + 4) (x1 + (11 : Int32)).toNatClampNeg) * (4 : Int32)) + (3 : Int32)).toNatClampNeg) (fun (y1 : Int32) => if (x1 + (4 : Int32)) < 0 ∨ 682 ≤ (x1 + (4 : Int32)).toNatClampNeg then none else vv_let (M (p0 + 4) (x1 + (4 : Int32)).toNatClampNeg) (fun (y2 : Int32) => if (x1 + (1 : Int32)) < 0 ∨ 682 ≤ (x1 + (1 : Int32)).toNatClampNeg then none else if ((M (p0 + 4) (x1 + (1 : Int32)).toNatClampNeg) + (1 : Int32)) = 0 then none else vv_let ((y1 - y2) / ((M (p0 + 4) (x1 + (1 : Int32)).toNatClampNeg) + (1 : Int32))) (fun (y3 : Int32) => vv_let (y2 + y3) (fun (y4 : Int32) => if (x1 + (5 : Int32)) < 0 ∨ 682 ≤ (x1 + (5 : Int32)).toNatClampNeg then none else vv_let (va_up M (p0 + 4) (upd (M (p0 + 4)) (x1 + (5 : Int32)).toNatClampNeg y3)) (fun (M6 : vv_M) => f_X2_warm_59 n  p0 x1 y4 M6)))))
def f_X2_judgeOnBelt_109 (n : Nat)  (p0 : Nat) (x1 : Int32) (x4 : Int32) (M : vv_M) : Option (Unit × vv_M) := if (x1 + (9 : Int32)) < 0 ∨ 682 ≤ (x1 + (9 : Int32)).toNatClampNeg then none else vv_let (va_up M (p0 + 4) (upd (M (p0 + 4)) (x1 + (9 : Int32)).toNatClampNeg x4)) (fun (M7 : vv_M) => some ((), M7))
def f_X2_judgeOnBelt_83 (n : Nat)  (p0 : Nat) (x1 : Int32) (x2 : Int32) (x3 : Int32) (x4 : Int32) (M : vv_M) : Option (Unit × vv_M) := if (x1 + (4 : Int32)) < 0 ∨ 682 ≤ (x1 + (4 : Int32)).toNatClampNeg then none else if (x2 + (5 : Int32)) < 0 ∨ 24 ≤ (x2 + (5 : Int32)).toNatClampNeg then none else if (M (p0 + 4) (x1 + (4 : Int32)).toNatClampNeg) ≤ (M (p0 + 2) (x2 + (5 : Int32)).toNatClampNeg) then f_X2_judgeOnBelt_109 n  p0 x1 x4 M else (f_X2_noteFault n p0 x1 (2 : Int32) x3 M).bind (fun (u8 : Unit × vv_M) => f_X2_judgeOnBelt_109 n  p0 x1 x4 u8.2)
def f_X2_judgeOnBelt_54 (n : Nat)  (p0 : Nat) (x1 : Int32) (x2 : Int32) (x3 : Int32) (x4 : Int32) (M : vv_M) : Option (Unit × vv_M) := if (x1 + (5 : Int32)) < 0 ∨ 682 ≤ (x1 + (5 : Int32)).toNatClampNeg then none else if (x2 + (0 : Int32)) < 0 ∨ 24 ≤ (x2 + (0 : Int32)).toNatClampNeg then none else if (M (p0 + 4) (x1 + (5 : Int32)).toNatClampNeg) ≤ (M (p0 + 2) (x2 + (0 : Int32)).toNatClampNeg) then f_X2_judgeOnBelt_83 n  p0 x1 x2 x3 x4 M else (f_X2_noteFault n p0 x1 (0 : Int32) x3 M).bind (fun (u11 : Unit × vv_M) => f_X2_judgeOnBelt_83 n  p0 x1 x2 x3 (1 : Int32) u11.2)
def f_X2_judgeOnBelt (n : Nat) (p0 : Nat) (x1 : Int32) (M : vv_M) : Option (Unit × vv_M) := if (x1 + (0 : Int32)) < 0 ∨ 682 ≤ (x1 + (0 : Int32)).toNatClampNeg then none else vv_let ((M (p0 + 4) (x1 + (0 : Int32)).toNatClampNeg) * (6 : Int32)) (fun (y1 : Int32) => if (x1 + (3 : Int32)) < 0 ∨ 682 ≤ (x1 + (3 : Int32)).toNatClampNeg then none else vv_let (M (p0 + 4) (x1 + (3 : Int32)).toNatClampNeg) (fun (y2 : Int32) => if (x1 + (7 : Int32)) < 0 ∨ 682 ≤ (x1 + (7 : Int32)).toNatClampNeg then none else if (y1 + (3 : Int32)) < 0 ∨ 24 ≤ (y1 + (3 : Int32)).toNatClampNeg then none else if (M (p0 + 4) (x1 + (7 : Int32)).toNatClampNeg) ≤ (M (p0 + 2) (y1 + (3 : Int32)).toNatClampNeg) then f_X2_judgeOnBelt_54 n  p0 x1 y1 y2 (0 : Int32) M else (f_X2_noteFault n p0 x1 (1 : Int32) y2 M).bind (fun (u14 : Unit × vv_M) => f_X2_judgeOnBelt_54 n  p0 x1 y1 y2 (2 : Int32) u14.2)))
def f_X2_warmBoards_36 (n : Nat) (k2 : Nat → Int32 → vv_M → Option (Unit × vv_M)) (p0 : Nat) (x1 : Int32) (M : vv_M) : Option (Unit × vv_M) := vv_let (x1 + (1 : Int32)) (fun (y4 : Int32) => k2 p0 y4 M)
def f_X2_warmBoards_2 (n : Nat)  : Nat → Nat → Int32 → vv_M → Option (Unit × vv_M)
  | 0, _, _, _ => none
  | k + 1, p0, x1, M => if (M p0 6) ≤ x1 then some ((), M) else vv_let (x1 * (22 : Int32)) (fun (y2 : Int32) => if (y2 + (2 : Int32)) < 0 ∨ 682 ≤ (y2 + (2 : Int32)).toNatClampNeg then none else if (M (p0 + 4) (y2 + (2 : Int32)).toNatClampNeg) = 0 then (f_X2_warm n p0 y2 M).bind (fun (u5 : Unit × vv_M) => (f_X2_judgeOnBelt n p0 y2 u5.2).bind (fun (u6 : Unit × vv_M) => f_X2_warmBoards_36 n (f_X2_warmBoards_2 n k) p0 x1 u6.2)) else f_X2_warmBoards_36 n (f_X2_warmBoards_2 n k) p0 x1 M)
def f_X2_warmBoards (n : Nat) (p0 : Nat) (M : vv_M) : Option (Unit × vv_M) := f_X2_warmBoards_2 n  n p0 (0 : Int32) M
def f_X2_weightForSlower_79 (n : Nat) (k4 : Nat → Int32 → Int32 → vv_M → Option (Int32 × vv_M)) (p0 : Nat) (x1 : Int32) (x2 : Int32) (M : vv_M) : Option (Int32 × vv_M) := vv_let (x2 + (1 : Int32)) (fun (y4 : Int32) => k4 p0 x1 y4 M)
def f_X2_weightForSlower_4 (n : Nat)  : Nat → Nat → Int32 → Int32 → vv_M → Option (Int32 × vv_M)
  | 0, _, _, _, _ => none
  | k + 1, p0, x1, x2, M => if (M p0 6) ≤ x2 then some (x1, M) else vv_let (x2 * (22 : Int32)) (fun (y2 : Int32) => if (y2 + (2 : Int32)) < 0 ∨ 682 ≤ (y2 + (2 : Int32)).toNatClampNeg then none else if (M (p0 + 4) (y2 + (2 : Int32)).toNatClampNeg) = 0 then if (y2 + (9 : Int32)) < 0 ∨ 682 ≤ (y2 + (9 : Int32)).toNatClampNeg then none else if (M (p0 + 4) (y2 + (9 : Int32)).toNatClampNeg) = (1 : Int32) then if (y2 + (1 : Int32)) < 0 ∨ 682 ≤ (y2 + (1 : Int32)).toNatClampNeg then none else vv_let (x1 + (M (p0 + 4) (y2 + (1 : Int32)).toNatClampNeg)) (fun (y10 : Int32) => f_X2_weightForSlower_79 n (f_X2_weightForSlower_4 n k) p0 y10 x2 M) else if (y2 + (9 : Int32)) < 0 ∨ 682 ≤ (y2 + (9 : Int32)).toNatClampNeg then none else if (M (p0 + 4) (y2 + (9 : Int32)).toNatClampNeg) = (2 : Int32) then if (y2 + (1 : Int32)) < 0 ∨ 682 ≤ (y2 + (1 : Int32)).toNatClampNeg then none else vv_let (x1 - (M (p0 + 4) (y2 + (1 : Int32)).toNatClampNeg)) (fun (y7 : Int32) => f_X2_weightForSlower_79 n (f_X2_weightForSlower_4 n k) p0 y7 x2 M) else f_X2_weightForSlower_79 n (f_X2_weightForSlower_4 n k) p0 x1 x2 M else f_X2_weightForSlower_79 n (f_X2_weightForSlower_4 n k) p0 x1 x2 M)
def f_X2_weightForSlower (n : Nat) (p0 : Nat) (M : vv_M) : Option (Int32 × vv_M) := f_X2_weightForSlower_4 n  n p0 (0 : Int32) (0 : Int32) M
def f_X2_hearPleas_56 (n : Nat)  (p0 : Nat) (x1 : Int32) (x2 : Int32) (x3 : Int32) (M : vv_M) : Option (Unit × vv_M) := if (-x3) < x1 then some ((), M) else if (3 : Int32) ≤ x2 then some ((), M) else if (0 : Int32) < 0 ∨ 4 ≤ (0 : Int32).toNatClampNeg then none else vv_let (va_up M (p0 + 3) (upd (M (p0 + 3)) (0 : Int32).toNatClampNeg (x2 + (1 : Int32)))) (fun (M10 : vv_M) => vv_let (va_up M10 p0 (upd (M10 p0) 8 ((M10 p0 8) + (1 : Int32)))) (fun (M11 : vv_M) => some ((), M11)))
def f_X2_hearPleas (n : Nat) (p0 : Nat) (M : vv_M) : Option (Unit × vv_M) := if (2 : Int32) < 0 ∨ 4 ≤ (2 : Int32).toNatClampNeg then none else vv_let (M (p0 + 3) (2 : Int32).toNatClampNeg) (fun (y1 : Int32) => if y1 = 0 then some ((), M) else if (0 : Int32) < 0 ∨ 4 ≤ (0 : Int32).toNatClampNeg then none else vv_let (M (p0 + 3) (0 : Int32).toNatClampNeg) (fun (y3 : Int32) => (f_X2_weightForSlower n p0 M).bind (fun (u4 : Int32 × vv_M) => vv_let u4.1 (fun (y5 : Int32) => if y5 < y1 then f_X2_hearPleas_56 n  p0 y1 y3 y5 u4.2 else if y3 ≤ (1 : Int32) then f_X2_hearPleas_56 n  p0 y1 y3 y5 u4.2 else if (0 : Int32) < 0 ∨ 4 ≤ (0 : Int32).toNatClampNeg then none else vv_let (va_up u4.2 (p0 + 3) (upd (u4.2 (p0 + 3)) (0 : Int32).toNatClampNeg (y3 - (1 : Int32)))) (fun (M14 : vv_M) => vv_let (va_up M14 p0 (upd (M14 p0) 7 ((M14 p0 7) + (1 : Int32)))) (fun (M15 : vv_M) => some ((), M15)))))))
def f_X2_letOnePass (n : Nat) (p0 : Nat) (M : vv_M) : Option (Int32 × vv_M) := (f_X2_moveBoards n p0 M).bind (fun (u1 : Int32 × vv_M) => vv_let u1.1 (fun (y2 : Int32) => (f_X2_changeWarmths n p0 u1.2).bind (fun (u3 : Unit × vv_M) => (f_X2_warmBoards n p0 u3.2).bind (fun (u4 : Unit × vv_M) => (f_X2_hearPleas n p0 u4.2).bind (fun (u5 : Unit × vv_M) => vv_let (va_up u5.2 p0 (upd (u5.2 p0) 5 ((u5.2 p0 5) + (1 : Int32)))) (fun (M6 : vv_M) => some (y2, M6)))))))
def f_X2_letPass_34 (n : Nat)  : Nat → Nat → Int32 → Int32 → Int32 → vv_M → Option (Int32 × vv_M)
  | 0, _, _, _, _, _ => none
  | k + 1, p0, x1, x2, x3, M => if x1 ≤ x3 then some (x2, M) else (f_X2_letOnePass n p0 M).bind (fun (u5 : Int32 × vv_M) => vv_let (x2 + u5.1) (fun (y6 : Int32) => vv_let (x3 + (1 : Int32)) (fun (y7 : Int32) => (f_X2_letPass_34 n k) p0 x1 y6 y7 u5.2)))
def f_X2_letPass (n : Nat) (p0 : Nat) (x1 : Int32) (M : vv_M) : Option (Int32 × vv_M) := (f_X4_isWithin n x1 (1 : Int32) (99 : Int32) M).bind (fun (u1 : Int32 × vv_M) => if u1.1 = 0 then some ((-1001 : Int32), u1.2) else if ((u1.2 p0 5) + x1) ≤ (5000 : Int32) then f_X2_letPass_34 n  n p0 x1 (0 : Int32) (0 : Int32) u1.2 else some ((-1003 : Int32), u1.2))
def f_X2_obey (n : Nat) (p0 : Nat) (x1 : Int32) (x2 : Int32) (x3 : Int32) (M : vv_M) : Option (Int32 × vv_M) := if x1 = (108 : Int32) then (f_X2_addBoard n p0 x2 x3 M).bind (fun (u2 : Int32 × vv_M) => some (u2.1, u2.2)) else if x1 = (112 : Int32) then (f_X2_letPass n p0 x3 M).bind (fun (u4 : Int32 × vv_M) => some (u4.1, u4.2)) else if x1 = (116 : Int32) then (f_X2_removeBoard n p0 x3 M).bind (fun (u6 : Int32 × vv_M) => some (u6.1, u6.2)) else (f_X2_changeNumber n p0 (0 : Int32) x3 M).bind (fun (u7 : Int32 × vv_M) => some (u7.1, u7.2))
def f_X2_passUntilLeft_2 (n : Nat)  : Nat → Nat → Int32 → Int32 → vv_M → Option (Int32 × vv_M)
  | 0, _, _, _, _ => none
  | k + 1, p0, x1, x2, M => (f_X2_isOnBelt n p0 x1 M).bind (fun (u1 : Int32 × vv_M) => if u1.1 = 0 then some (x2, u1.2) else if (48 : Int32) ≤ x2 then some (x2, u1.2) else (f_X2_letOnePass n p0 u1.2).bind (fun (u4 : Int32 × vv_M) => vv_let (x2 + (1 : Int32)) (fun (y5 : Int32) => (f_X2_passUntilLeft_2 n k) p0 x1 y5 u4.2)))
def f_X2_passUntilLeft (n : Nat) (p0 : Nat) (x1 : Int32) (M : vv_M) : Option (Int32 × vv_M) := f_X2_passUntilLeft_2 n  n p0 x1 (0 : Int32) M
def f_X2_passUntilFree_2 (n : Nat)  : Nat → Nat → Int32 → vv_M → Option (Int32 × vv_M)
  | 0, _, _, _ => none
  | k + 1, p0, x1, M => (f_X2_isStartFree n p0 M).bind (fun (u1 : Int32 × vv_M) => if u1.1 = 0 then if (48 : Int32) ≤ x1 then some (x1, u1.2) else (f_X2_letOnePass n p0 u1.2).bind (fun (u4 : Int32 × vv_M) => vv_let (x1 + (1 : Int32)) (fun (y5 : Int32) => (f_X2_passUntilFree_2 n k) p0 y5 u4.2)) else some (x1, u1.2))
def f_X2_passUntilFree (n : Nat) (p0 : Nat) (M : vv_M) : Option (Int32 × vv_M) := f_X2_passUntilFree_2 n  n p0 (0 : Int32) M
def f_X2_boardsLeftFaultless_44 (n : Nat) (k4 : Nat → Int32 → Int32 → vv_M → Option (Int32 × vv_M)) (p0 : Nat) (x1 : Int32) (x2 : Int32) (M : vv_M) : Option (Int32 × vv_M) := vv_let (x2 + (1 : Int32)) (fun (y4 : Int32) => k4 p0 x1 y4 M)
def f_X2_boardsLeftFaultless_4 (n : Nat)  : Nat → Nat → Int32 → Int32 → vv_M → Option (Int32 × vv_M)
  | 0, _, _, _, _ => none
  | k + 1, p0, x1, x2, M => if (M p0 6) ≤ x2 then some (x1, M) else vv_let (x2 * (22 : Int32)) (fun (y2 : Int32) => if (y2 + (2 : Int32)) < 0 ∨ 682 ≤ (y2 + (2 : Int32)).toNatClampNeg then none else if (M (p0 + 4) (y2 + (2 : Int32)).toNatClampNeg) = (1 : Int32) then if (y2 + (8 : Int32)) < 0 ∨ 682 ≤ (y2 + (8 : Int32)).toNatClampNeg then none else if (M (p0 + 4) (y2 + (8 : Int32)).toNatClampNeg) = 0 then vv_let (x1 + (1 : Int32)) (fun (y6 : Int32) => f_X2_boardsLeftFaultless_44 n (f_X2_boardsLeftFaultless_4 n k) p0 y6 x2 M) else f_X2_boardsLeftFaultless_44 n (f_X2_boardsLeftFaultless_4 n k) p0 x1 x2 M else f_X2_boardsLeftFaultless_44 n (f_X2_boardsLeftFaultless_4 n k) p0 x1 x2 M)
def f_X2_boardsLeftFaultless (n : Nat) (p0 : Nat) (M : vv_M) : Option (Int32 × vv_M) := f_X2_boardsLeftFaultless_4 n  n p0 (0 : Int32) (0 : Int32) M
def f_X2_boardsIn_39 (n : Nat) (k4 : Nat → Int32 → Int32 → Int32 → vv_M → Option (Int32 × vv_M)) (p0 : Nat) (x1 : Int32) (x2 : Int32) (x3 : Int32) (M : vv_M) : Option (Int32 × vv_M) := vv_let (x3 + (1 : Int32)) (fun (y4 : Int32) => k4 p0 x1 x2 y4 M)
def f_X2_boardsIn_4 (n : Nat)  : Nat → Nat → Int32 → Int32 → Int32 → vv_M → Option (Int32 × vv_M)
  | 0, _, _, _, _, _ => none
  | k + 1, p0, x1, x2, x3, M => if (M p0 6) ≤ x3 then some (x2, M) else (f_X2_isOnBelt n p0 x3 M).bind (fun (u2 : Int32 × vv_M) => if u2.1 = 0 then f_X2_boardsIn_39 n (f_X2_boardsIn_4 n k) p0 x1 x2 x3 u2.2 else if ((x3 * (22 : Int32)) + (11 : Int32)) < 0 ∨ 682 ≤ ((x3 * (22 : Int32)) + (11 : Int32)).toNatClampNeg then none else if (u2.2 (p0 + 4) ((x3 * (22 : Int32)) + (11 : Int32)).toNatClampNeg) = x1 then vv_let (x2 + (1 : Int32)) (fun (y6 : Int32) => f_X2_boardsIn_39 n (f_X2_boardsIn_4 n k) p0 x1 y6 x3 u2.2) else f_X2_boardsIn_39 n (f_X2_boardsIn_4 n k) p0 x1 x2 x3 u2.2)
def f_X2_boardsIn (n : Nat) (p0 : Nat) (x1 : Int32) (M : vv_M) : Option (Int32 × vv_M) := f_X2_boardsIn_4 n  n p0 x1 (0 : Int32) (0 : Int32) M
def f_X2_weightIn_50 (n : Nat) (k4 : Nat → Int32 → Int32 → Int32 → vv_M → Option (Int32 × vv_M)) (p0 : Nat) (x1 : Int32) (x2 : Int32) (x3 : Int32) (M : vv_M) : Option (Int32 × vv_M) := vv_let (x3 + (1 : Int32)) (fun (y4 : Int32) => k4 p0 x1 x2 y4 M)
def f_X2_weightIn_4 (n : Nat)  : Nat → Nat → Int32 → Int32 → Int32 → vv_M → Option (Int32 × vv_M)
  | 0, _, _, _, _, _ => none
  | k + 1, p0, x1, x2, x3, M => if (M p0 6) ≤ x3 then some (x2, M) else (f_X2_isOnBelt n p0 x3 M).bind (fun (u2 : Int32 × vv_M) => if u2.1 = 0 then f_X2_weightIn_50 n (f_X2_weightIn_4 n k) p0 x1 x2 x3 u2.2 else if ((x3 * (22 : Int32)) + (11 : Int32)) < 0 ∨ 682 ≤ ((x3 * (22 : Int32)) + (11 : Int32)).toNatClampNeg then none else if (u2.2 (p0 + 4) ((x3 * (22 : Int32)) + (11 : Int32)).toNatClampNeg) = x1 then if ((x3 * (22 : Int32)) + (1 : Int32)) < 0 ∨ 682 ≤ ((x3 * (22 : Int32)) + (1 : Int32)).toNatClampNeg then none else vv_let (x2 + (u2.2 (p0 + 4) ((x3 * (22 : Int32)) + (1 : Int32)).toNatClampNeg)) (fun (y6 : Int32) => f_X2_weightIn_50 n (f_X2_weightIn_4 n k) p0 x1 y6 x3 u2.2) else f_X2_weightIn_50 n (f_X2_weightIn_4 n k) p0 x1 x2 x3 u2.2)
def f_X2_weightIn (n : Nat) (p0 : Nat) (x1 : Int32) (M : vv_M) : Option (Int32 × vv_M) := f_X2_weightIn_4 n  n p0 x1 (0 : Int32) (0 : Int32) M
def f_X2_boardsWithFault_36 (n : Nat) (k5 : Nat → Int32 → Int32 → Int32 → Int32 → vv_M → Option (Int32 × vv_M)) (p0 : Nat) (x1 : Int32) (x2 : Int32) (x3 : Int32) (x4 : Int32) (M : vv_M) : Option (Int32 × vv_M) := vv_let (x4 + (1 : Int32)) (fun (y3 : Int32) => k5 p0 x1 x2 x3 y3 M)
def f_X2_boardsWithFault_5 (n : Nat)  : Nat → Nat → Int32 → Int32 → Int32 → Int32 → vv_M → Option (Int32 × vv_M)
  | 0, _, _, _, _, _, _ => none
  | k + 1, p0, x1, x2, x3, x4, M => if (M p0 6) ≤ x4 then some (x3, M) else if (((x4 * (22 : Int32)) + (12 : Int32)) + x1) < 0 ∨ 682 ≤ (((x4 * (22 : Int32)) + (12 : Int32)) + x1).toNatClampNeg then none else if (M (p0 + 4) (((x4 * (22 : Int32)) + (12 : Int32)) + x1).toNatClampNeg) = x2 then vv_let (x3 + (1 : Int32)) (fun (y4 : Int32) => f_X2_boardsWithFault_36 n (f_X2_boardsWithFault_5 n k) p0 x1 x2 y4 x4 M) else f_X2_boardsWithFault_36 n (f_X2_boardsWithFault_5 n k) p0 x1 x2 x3 x4 M
def f_X2_boardsWithFault (n : Nat) (p0 : Nat) (x1 : Int32) (x2 : Int32) (M : vv_M) : Option (Int32 × vv_M) := f_X2_boardsWithFault_5 n  n p0 x1 x2 (0 : Int32) (0 : Int32) M
def f_X2_setOfFaultCells_53 (n : Nat) (k4 : Nat → Int64 → Int32 → vv_M → Option (Int64 × vv_M)) (k15 : Nat → Int64 → Int32 → Int32 → vv_M → Option (Int64 × vv_M)) (p0 : Nat) (l1 : Int64) (x3 : Int32) (x4 : Int32) (M : vv_M) : Option (Int64 × vv_M) := vv_let (x4 + (1 : Int32)) (fun (y6 : Int32) => k15 p0 l1 x3 y6 M)
def f_X2_setOfFaultCells_15 (n : Nat) (k4 : Nat → Int64 → Int32 → vv_M → Option (Int64 × vv_M)) : Nat → Nat → Int64 → Int32 → Int32 → vv_M → Option (Int64 × vv_M)
  | 0, _, _, _, _, _ => none
  | k + 1, p0, l1, x3, x4, M => if (5 : Int32) ≤ x4 then vv_let (x3 + (1 : Int32)) (fun (y3 : Int32) => k4 p0 l1 y3 M) else if (((x3 * (22 : Int32)) + (12 : Int32)) + x4) < 0 ∨ 682 ≤ (((x3 * (22 : Int32)) + (12 : Int32)) + x4).toNatClampNeg then none else vv_let (M (p0 + 4) (((x3 * (22 : Int32)) + (12 : Int32)) + x4).toNatClampNeg) (fun (y4 : Int32) => if y4 = (-1009 : Int32) then f_X2_setOfFaultCells_53 n k4 (f_X2_setOfFaultCells_15 n k4 k) p0 l1 x3 x4 M else vv_let (l1 ||| ((1 : Int64) <<< (y4.toInt64 &&& 63))) (fun (y7 : Int64) => f_X2_setOfFaultCells_53 n k4 (f_X2_setOfFaultCells_15 n k4 k) p0 y7 x3 x4 M))
def f_X2_setOfFaultCells_4 (n : Nat)  : Nat → Nat → Int64 → Int32 → vv_M → Option (Int64 × vv_M)
  | 0, _, _, _, _ => none
  | k + 1, p0, l1, x3, M => if (M p0 6) ≤ x3 then some (l1, M) else f_X2_setOfFaultCells_15 n (f_X2_setOfFaultCells_4 n k) n p0 l1 x3 (0 : Int32) M
def f_X2_setOfFaultCells (n : Nat) (p0 : Nat) (M : vv_M) : Option (Int64 × vv_M) := f_X2_setOfFaultCells_4 n  n p0 (0 : Int64) (0 : Int32) M
def f_X3_add (n : Nat) (p0 : Nat) (x1 : Int32) (M : vv_M) : Option (Int32 × vv_M) := (f_X4_isWithin n x1 (1 : Int32) (255 : Int32) M).bind (fun (u1 : Int32 × vv_M) => if u1.1 = 0 then some ((-1001 : Int32), u1.2) else if (u1.2 p0 1) < (100 : Int32) then if (u1.2 p0 1) < 0 ∨ 100 ≤ (u1.2 p0 1).toNatClampNeg then none else vv_let (va_up u1.2 (p0 + 1) (upd (u1.2 (p0 + 1)) (u1.2 p0 1).toNatClampNeg x1)) (fun (M5 : vv_M) => vv_let (va_up M5 p0 (upd (M5 p0) 1 ((M5 p0 1) + (1 : Int32)))) (fun (M6 : vv_M) => some (M6 p0 1, M6))) else some ((-1003 : Int32), u1.2))
def f_X3_wipe (n : Nat) (p0 : Nat) (M : vv_M) : Option (Int32 × vv_M) := vv_let (M p0 1) (fun (y1 : Int32) => vv_let (va_up M p0 (upd (M p0) 1 (0 : Int32))) (fun (M2 : vv_M) => vv_let (va_up M2 p0 (upd (M2 p0) 2 (0 : Int32))) (fun (M3 : vv_M) => some (y1, M3))))
def f_X3_placeAfterLetter (n : Nat) (x0 : Int32) (M : vv_M) : Option (Int32 × vv_M) := if x0 = (108 : Int32) then some ((1 : Int32), M) else if x0 = (112 : Int32) then some ((4 : Int32), M) else if x0 = (115 : Int32) then some ((4 : Int32), M) else if x0 = (116 : Int32) then some ((4 : Int32), M) else some ((-1 : Int32), M)
def f_X3_isDigit (n : Nat) (x0 : Int32) (M : vv_M) : Option (Int32 × vv_M) := (f_X4_isWithin n x0 (48 : Int32) (57 : Int32) M).bind (fun (u1 : Int32 × vv_M) => if u1.1 = 0 ∨ u1.1 = 1 then some (u1.1, u1.2) else none)
def f_X3_placeAfterFirstDigit (n : Nat) (x0 : Int32) (x1 : Int32) (x2 : Int32) (M : vv_M) : Option (Int32 × vv_M) := (f_X3_isDigit n x0 M).bind (fun (u1 : Int32 × vv_M) => if u1.1 = 0 then some ((-1 : Int32), u1.2) else if x0 = (48 : Int32) then some (x2, u1.2) else some (x1, u1.2))
def f_X3_placeAfter (n : Nat) (x0 : Int32) (x1 : Int32) (M : vv_M) : Option (Int32 × vv_M) := if x0 = (0 : Int32) then (f_X3_placeAfterLetter n x1 M).bind (fun (u2 : Int32 × vv_M) => some (u2.1, u2.2)) else if x0 = (1 : Int32) then (f_X3_placeAfterFirstDigit n x1 (2 : Int32) (3 : Int32) M).bind (fun (u4 : Int32 × vv_M) => some (u4.1, u4.2)) else if x0 = (2 : Int32) then (f_X3_isDigit n x1 M).bind (fun (u6 : Int32 × vv_M) => if u6.1 = 0 then if x1 = (44 : Int32) then some ((4 : Int32), u6.2) else some ((-1 : Int32), u6.2) else some ((3 : Int32), u6.2)) else if x0 = (3 : Int32) then if x1 = (44 : Int32) then some ((4 : Int32), M) else some ((-1 : Int32), M) else if x0 = (4 : Int32) then (f_X3_placeAfterFirstDigit n x1 (5 : Int32) (6 : Int32) M).bind (fun (u12 : Int32 × vv_M) => some (u12.1, u12.2)) else if x0 = (5 : Int32) then (f_X3_isDigit n x1 M).bind (fun (u14 : Int32 × vv_M) => if u14.1 = 0 then if x1 = (59 : Int32) then some ((0 : Int32), u14.2) else some ((-1 : Int32), u14.2) else some ((6 : Int32), u14.2)) else if x0 = (6 : Int32) then if x1 = (59 : Int32) then some ((0 : Int32), M) else some ((-1 : Int32), M) else some ((-1 : Int32), M)
def f_X3_firstFault_4 (n : Nat)  : Nat → Nat → Int32 → Int32 → vv_M → Option (Int32 × vv_M)
  | 0, _, _, _, _ => none
  | k + 1, p0, x1, x2, M => if (M p0 1) ≤ x2 then if x1 = (5 : Int32) then some ((-1009 : Int32), M) else if x1 = (6 : Int32) then some ((-1009 : Int32), M) else some (M p0 1, M) else if x2 < 0 ∨ 100 ≤ x2.toNatClampNeg then none else (f_X3_placeAfter n x1 (M (p0 + 1) x2.toNatClampNeg) M).bind (fun (u4 : Int32 × vv_M) => vv_let u4.1 (fun (y5 : Int32) => if y5 = (-1 : Int32) then some (x2, u4.2) else vv_let (x2 + (1 : Int32)) (fun (y7 : Int32) => (f_X3_firstFault_4 n k) p0 y5 y7 u4.2)))
def f_X3_firstFault (n : Nat) (p0 : Nat) (M : vv_M) : Option (Int32 × vv_M) := f_X3_firstFault_4 n  n p0 (0 : Int32) (0 : Int32) M
def f_X3_readOrder_120 (n : Nat) (k41 : Nat → vv_M → Option (Int32 × vv_M)) (p0 : Nat) (M : vv_M) : Option (Int32 × vv_M) := vv_let (va_up M p0 (upd (M p0) 2 ((M p0 2) + (1 : Int32)))) (fun (M11 : vv_M) => k41 p0 M11)
def f_X3_readOrder_41 (n : Nat)  : Nat → Nat → vv_M → Option (Int32 × vv_M)
  | 0, _, _ => none
  | k + 1, p0, M => if (M p0 1) ≤ (M p0 2) then vv_let (va_up M p0 (upd (M p0) 2 ((M p0 2) + (1 : Int32)))) (fun (M6 : vv_M) => some ((1 : Int32), M6)) else if (M p0 2) < 0 ∨ 100 ≤ (M p0 2).toNatClampNeg then none else if (M (p0 + 1) (M p0 2).toNatClampNeg) = (59 : Int32) then vv_let (va_up M p0 (upd (M p0) 2 ((M p0 2) + (1 : Int32)))) (fun (M8 : vv_M) => some ((1 : Int32), M8)) else if (M p0 2) < 0 ∨ 100 ≤ (M p0 2).toNatClampNeg then none else if (M (p0 + 1) (M p0 2).toNatClampNeg) = (44 : Int32) then vv_let (va_up M p0 (upd (M p0) 4 (M p0 5))) (fun (M13 : vv_M) => vv_let (va_up M13 p0 (upd (M13 p0) 5 (0 : Int32))) (fun (M14 : vv_M) => f_X3_readOrder_120 n (f_X3_readOrder_41 n k) p0 M14)) else if (M p0 2) < 0 ∨ 100 ≤ (M p0 2).toNatClampNeg then none else vv_let (va_up M p0 (upd (M p0) 5 ((((M p0 5) * (10 : Int32)) + (M (p0 + 1) (M p0 2).toNatClampNeg)) - (48 : Int32)))) (fun (M10 : vv_M) => f_X3_readOrder_120 n (f_X3_readOrder_41 n k) p0 M10)
def f_X3_readOrder (n : Nat) (p0 : Nat) (M : vv_M) : Option (Int32 × vv_M) := if (M p0 2) < (M p0 1) then if (M p0 2) < 0 ∨ 100 ≤ (M p0 2).toNatClampNeg then none else vv_let (va_up M p0 (upd (M p0) 3 (M (p0 + 1) (M p0 2).toNatClampNeg))) (fun (M2 : vv_M) => vv_let (va_up M2 p0 (upd (M2 p0) 5 (0 : Int32))) (fun (M3 : vv_M) => vv_let (va_up M3 p0 (upd (M3 p0) 2 ((M3 p0 2) + (1 : Int32)))) (fun (M4 : vv_M) => f_X3_readOrder_41 n  n p0 M4))) else some ((0 : Int32), M)
def f_X4_setZone (n : Nat) (p0 : Nat) (x1 : Int32) (x2 : Int32) (x3 : Int32) (x4 : Int32) (M : vv_M) : Option (Int32 × vv_M) := (f_X0_keep n (p0 + 22) (p0 + 1) M).bind (fun (u1 : Unit × vv_M) => (f_X2_changeZone n ((p0 + 1) + 1) x1 x2 x3 x4 u1.2).bind (fun (u2 : Int32 × vv_M) => (f_X0_recordUnlessError n (p0 + 22) u2.1 u2.2).bind (fun (u3 : Int32 × vv_M) => some (u3.1, u3.2))))
def f_X4_setCurve (n : Nat) (p0 : Nat) (x1 : Int32) (x2 : Int32) (x3 : Int32) (M : vv_M) : Option (Int32 × vv_M) := (f_X0_keep n (p0 + 22) (p0 + 1) M).bind (fun (u1 : Unit × vv_M) => (f_X2_changeCurve n ((p0 + 1) + 1) x1 x2 x3 u1.2).bind (fun (u2 : Int32 × vv_M) => (f_X0_recordUnlessError n (p0 + 22) u2.1 u2.2).bind (fun (u3 : Int32 × vv_M) => some (u3.1, u3.2))))
def f_X4_set (n : Nat) (p0 : Nat) (x1 : Int32) (x2 : Int32) (M : vv_M) : Option (Int32 × vv_M) := (f_X0_keep n (p0 + 22) (p0 + 1) M).bind (fun (u1 : Unit × vv_M) => (f_X2_changeNumber n ((p0 + 1) + 1) x1 x2 u1.2).bind (fun (u2 : Int32 × vv_M) => (f_X0_recordUnlessError n (p0 + 22) u2.1 u2.2).bind (fun (u3 : Int32 × vv_M) => some (u3.1, u3.2))))
def f_X4_load (n : Nat) (p0 : Nat) (x1 : Int32) (x2 : Int32) (M : vv_M) : Option (Int32 × vv_M) := (f_X0_keep n (p0 + 22) (p0 + 1) M).bind (fun (u1 : Unit × vv_M) => (f_X2_addBoard n ((p0 + 1) + 1) x1 x2 u1.2).bind (fun (u2 : Int32 × vv_M) => (f_X0_recordUnlessError n (p0 + 22) u2.1 u2.2).bind (fun (u3 : Int32 × vv_M) => some (u3.1, u3.2))))
def f_X4_takeOff (n : Nat) (p0 : Nat) (x1 : Int32) (M : vv_M) : Option (Int32 × vv_M) := (f_X0_keep n (p0 + 22) (p0 + 1) M).bind (fun (u1 : Unit × vv_M) => (f_X2_removeBoard n ((p0 + 1) + 1) x1 u1.2).bind (fun (u2 : Int32 × vv_M) => (f_X0_recordUnlessError n (p0 + 22) u2.1 u2.2).bind (fun (u3 : Int32 × vv_M) => some (u3.1, u3.2))))
def f_X4_pass (n : Nat) (p0 : Nat) (x1 : Int32) (M : vv_M) : Option (Int32 × vv_M) := (f_X0_keep n (p0 + 22) (p0 + 1) M).bind (fun (u1 : Unit × vv_M) => (f_X2_letPass n ((p0 + 1) + 1) x1 u1.2).bind (fun (u2 : Int32 × vv_M) => (f_X0_recordUnlessError n (p0 + 22) u2.1 u2.2).bind (fun (u3 : Int32 × vv_M) => some (u3.1, u3.2))))
def f_X4_take (n : Nat) (p0 : Nat) (x1 : Int32) (M : vv_M) : Option (Int32 × vv_M) := (f_X0_keep n (p0 + 22) (p0 + 1) M).bind (fun (u1 : Unit × vv_M) => (f_X1_takeSnapshot n (p0 + 1) x1 u1.2).bind (fun (u2 : Int32 × vv_M) => (f_X0_recordUnlessError n (p0 + 22) u2.1 u2.2).bind (fun (u3 : Int32 × vv_M) => some (u3.1, u3.2))))
def f_X4_restore (n : Nat) (p0 : Nat) (x1 : Int32) (M : vv_M) : Option (Int32 × vv_M) := (f_X0_keep n (p0 + 22) (p0 + 1) M).bind (fun (u1 : Unit × vv_M) => (f_X1_restoreSnapshot n (p0 + 1) x1 u1.2).bind (fun (u2 : Int32 × vv_M) => (f_X0_recordUnlessError n (p0 + 22) u2.1 u2.2).bind (fun (u3 : Int32 × vv_M) => some (u3.1, u3.2))))
def f_X4_undo (n : Nat) (p0 : Nat) (M : vv_M) : Option (Int32 × vv_M) := (f_X0_goBack n (p0 + 22) (p0 + 1) M).bind (fun (u1 : Int32 × vv_M) => some (u1.1, u1.2))
def f_X4_append (n : Nat) (p0 : Nat) (x1 : Int32) (M : vv_M) : Option (Int32 × vv_M) := (f_X3_add n (p0 + 150) x1 M).bind (fun (u1 : Int32 × vv_M) => some (u1.1, u1.2))
def f_X4_clearText (n : Nat) (p0 : Nat) (M : vv_M) : Option (Int32 × vv_M) := (f_X3_wipe n (p0 + 150) M).bind (fun (u1 : Int32 × vv_M) => some (u1.1, u1.2))
def f_X4_carryOut_90 (n : Nat)  (p0 : Nat) (x2 : Int32) (M : vv_M) : Option (Int32 × vv_M) := (f_X3_wipe n (p0 + 150) M).bind (fun (u6 : Int32 × vv_M) => (f_X0_recordUnlessError n (p0 + 22) x2 u6.2).bind (fun (u7 : Int32 × vv_M) => some (u7.1, u7.2)))
def f_X4_carryOut_34 (n : Nat)  : Nat → Nat → Int32 → vv_M → Option (Int32 × vv_M)
  | 0, _, _, _ => none
  | k + 1, p0, x2, M => if (100 : Int32) ≤ x2 then f_X4_carryOut_90 n  p0 x2 M else (f_X3_readOrder n (p0 + 150) M).bind (fun (u8 : Int32 × vv_M) => if u8.1 = 0 then f_X4_carryOut_90 n  p0 x2 u8.2 else (f_X2_obey n ((p0 + 1) + 1) (u8.2 (p0 + 150) 3) (u8.2 (p0 + 150) 4) (u8.2 (p0 + 150) 5) u8.2).bind (fun (u10 : Int32 × vv_M) => if u10.1 < 0 then f_X4_carryOut_90 n  p0 x2 u10.2 else vv_let (x2 + (1 : Int32)) (fun (y12 : Int32) => (f_X4_carryOut_34 n k) p0 y12 u10.2)))
def f_X4_carryOut (n : Nat) (p0 : Nat) (M : vv_M) : Option (Int32 × vv_M) := (f_X3_firstFault n (p0 + 150) M).bind (fun (u1 : Int32 × vv_M) => vv_let u1.1 (fun (y2 : Int32) => if y2 = (-1009 : Int32) then (f_X0_keep n (p0 + 22) (p0 + 1) u1.2).bind (fun (u4 : Unit × vv_M) => f_X4_carryOut_34 n  n p0 (0 : Int32) u4.2) else some ((-2000 : Int32) - y2, u1.2)))
def f_X4_count (n : Nat) (p0 : Nat) (x1 : Int32) (M : vv_M) : Option (Int32 × vv_M) := if x1 = (0 : Int32) then some (M ((p0 + 1) + 1) 5, M) else if x1 = (1 : Int32) then some (M ((p0 + 1) + 1) 6, M) else if x1 = (2 : Int32) then (f_X2_boardsThatAre n ((p0 + 1) + 1) (0 : Int32) M).bind (fun (u4 : Int32 × vv_M) => some (u4.1, u4.2)) else if x1 = (3 : Int32) then (f_X2_boardsThatAre n ((p0 + 1) + 1) (1 : Int32) M).bind (fun (u6 : Int32 × vv_M) => some (u6.1, u6.2)) else if x1 = (4 : Int32) then (f_X2_boardsLeftFaultless n ((p0 + 1) + 1) M).bind (fun (u8 : Int32 × vv_M) => some (u8.1, u8.2)) else if x1 = (5 : Int32) then (f_X2_boardsThatAre n ((p0 + 1) + 1) (2 : Int32) M).bind (fun (u10 : Int32 × vv_M) => some (u10.1, u10.2)) else if x1 = (6 : Int32) then (f_X2_beltLength n ((p0 + 1) + 1) M).bind (fun (u12 : Int32 × vv_M) => some (u12.1, u12.2)) else if x1 = (7 : Int32) then if (0 : Int32) < 0 ∨ 4 ≤ (0 : Int32).toNatClampNeg then none else some (M (((p0 + 1) + 1) + 3) (0 : Int32).toNatClampNeg, M) else if x1 = (8 : Int32) then if (1 : Int32) < 0 ∨ 4 ≤ (1 : Int32).toNatClampNeg then none else some (M (((p0 + 1) + 1) + 3) (1 : Int32).toNatClampNeg, M) else if x1 = (9 : Int32) then if (2 : Int32) < 0 ∨ 4 ≤ (2 : Int32).toNatClampNeg then none else some (M (((p0 + 1) + 1) + 3) (2 : Int32).toNatClampNeg, M) else if x1 = (10 : Int32) then if (3 : Int32) < 0 ∨ 4 ≤ (3 : Int32).toNatClampNeg then none else some (M (((p0 + 1) + 1) + 3) (3 : Int32).toNatClampNeg, M) else if x1 = (11 : Int32) then some (M ((p0 + 1) + 1) 7, M) else if x1 = (12 : Int32) then some (M ((p0 + 1) + 1) 8, M) else if x1 = (13 : Int32) then (f_X1_snapshots n (p0 + 1) M).bind (fun (u24 : Int32 × vv_M) => some (u24.1, u24.2)) else if x1 = (14 : Int32) then some (M (p0 + 22) 2, M) else if x1 = (15 : Int32) then some (M (p0 + 150) 1, M) else some ((-1001 : Int32), M)
def f_X4_zone (n : Nat) (p0 : Nat) (x1 : Int32) (x2 : Int32) (M : vv_M) : Option (Int32 × vv_M) := (f_X4_isWithin n x1 (0 : Int32) (5 : Int32) M).bind (fun (u1 : Int32 × vv_M) => if u1.1 = 0 then some ((-1001 : Int32), u1.2) else if x2 = (0 : Int32) then if ((x1 * (4 : Int32)) + x2) < 0 ∨ 24 ≤ ((x1 * (4 : Int32)) + x2).toNatClampNeg then none else some (u1.2 (((p0 + 1) + 1) + 1) ((x1 * (4 : Int32)) + x2).toNatClampNeg, u1.2) else if x2 = (1 : Int32) then if ((x1 * (4 : Int32)) + x2) < 0 ∨ 24 ≤ ((x1 * (4 : Int32)) + x2).toNatClampNeg then none else some (u1.2 (((p0 + 1) + 1) + 1) ((x1 * (4 : Int32)) + x2).toNatClampNeg, u1.2) else if x2 = (2 : Int32) then if ((x1 * (4 : Int32)) + x2) < 0 ∨ 24 ≤ ((x1 * (4 : Int32)) + x2).toNatClampNeg then none else some (u1.2 (((p0 + 1) + 1) + 1) ((x1 * (4 : Int32)) + x2).toNatClampNeg, u1.2) else if x2 = (3 : Int32) then if ((x1 * (4 : Int32)) + x2) < 0 ∨ 24 ≤ ((x1 * (4 : Int32)) + x2).toNatClampNeg then none else some (u1.2 (((p0 + 1) + 1) + 1) ((x1 * (4 : Int32)) + x2).toNatClampNeg, u1.2) else if x2 = (4 : Int32) then (f_X2_firstCellOf n ((p0 + 1) + 1) x1 u1.2).bind (fun (u12 : Int32 × vv_M) => some (u12.1, u12.2)) else if x2 = (5 : Int32) then (f_X2_boardsIn n ((p0 + 1) + 1) x1 u1.2).bind (fun (u14 : Int32 × vv_M) => some (u14.1, u14.2)) else if x2 = (6 : Int32) then (f_X2_weightIn n ((p0 + 1) + 1) x1 u1.2).bind (fun (u16 : Int32 × vv_M) => some (u16.1, u16.2)) else some ((-1001 : Int32), u1.2))
def f_X4_curve (n : Nat) (p0 : Nat) (x1 : Int32) (x2 : Int32) (M : vv_M) : Option (Int32 × vv_M) := (f_X4_isWithin n x1 (0 : Int32) (3 : Int32) M).bind (fun (u1 : Int32 × vv_M) => if u1.1 = 0 then some ((-1001 : Int32), u1.2) else (f_X4_isWithin n x2 (0 : Int32) (5 : Int32) u1.2).bind (fun (u3 : Int32 × vv_M) => if u3.1 = 0 then some ((-1001 : Int32), u3.2) else if ((x1 * (6 : Int32)) + x2) < 0 ∨ 24 ≤ ((x1 * (6 : Int32)) + x2).toNatClampNeg then none else some (u3.2 (((p0 + 1) + 1) + 2) ((x1 * (6 : Int32)) + x2).toNatClampNeg, u3.2)))
def f_X4_board (n : Nat) (p0 : Nat) (x1 : Int32) (x2 : Int32) (M : vv_M) : Option (Int32 × vv_M) := (f_X2_hasBoard n ((p0 + 1) + 1) x1 M).bind (fun (u1 : Int32 × vv_M) => if u1.1 = 0 then some ((-1001 : Int32), u1.2) else (f_X4_isWithin n x2 (0 : Int32) (10 : Int32) u1.2).bind (fun (u3 : Int32 × vv_M) => if u3.1 = 0 then some ((-1001 : Int32), u3.2) else if ((x1 * (22 : Int32)) + x2) < 0 ∨ 682 ≤ ((x1 * (22 : Int32)) + x2).toNatClampNeg then none else some (u3.2 (((p0 + 1) + 1) + 4) ((x1 * (22 : Int32)) + x2).toNatClampNeg, u3.2)))
def f_X4_fault_47 (n : Nat)  (p0 : Nat) (x1 : Int32) (x2 : Int32) (s0 : Int32) (M : vv_M) : Option (Int32 × vv_M) := if (((x1 * (22 : Int32)) + s0) + x2) < 0 ∨ 682 ≤ (((x1 * (22 : Int32)) + s0) + x2).toNatClampNeg then none else some (M (((p0 + 1) + 1) + 4) (((x1 * (22 : Int32)) + s0) + x2).toNatClampNeg, M)
def f_X4_fault (n : Nat) (p0 : Nat) (x1 : Int32) (x2 : Int32) (x3 : Int32) (M : vv_M) : Option (Int32 × vv_M) := (f_X2_hasBoard n ((p0 + 1) + 1) x1 M).bind (fun (u1 : Int32 × vv_M) => if u1.1 = 0 then some ((-1001 : Int32), u1.2) else (f_X4_isWithin n x2 (0 : Int32) (4 : Int32) u1.2).bind (fun (u3 : Int32 × vv_M) => if u3.1 = 0 then some ((-1001 : Int32), u3.2) else (f_X4_isWithin n x3 (0 : Int32) (1 : Int32) u3.2).bind (fun (u5 : Int32 × vv_M) => if u5.1 = 0 then some ((-1001 : Int32), u5.2) else if x3 = 0 then f_X4_fault_47 n  p0 x1 x2 (12 : Int32) u5.2 else f_X4_fault_47 n  p0 x1 x2 (17 : Int32) u5.2)))
def f_X4_worstCell_68 (n : Nat) (k32 : Nat → Int32 → Int32 → Int32 → Int32 → Int32 → vv_M → Option (Int32 × vv_M)) (p0 : Nat) (x1 : Int32) (x2 : Int32) (x3 : Int32) (x4 : Int32) (x5 : Int32) (M : vv_M) : Option (Int32 × vv_M) := vv_let (x5 + (1 : Int32)) (fun (y10 : Int32) => k32 p0 x1 x2 x3 x4 y10 M)
def f_X4_worstCell_32 (n : Nat)  : Nat → Nat → Int32 → Int32 → Int32 → Int32 → Int32 → vv_M → Option (Int32 × vv_M)
  | 0, _, _, _, _, _, _, _ => none
  | k + 1, p0, x1, x2, x3, x4, x5, M => if (48 : Int32) < x5 then if x2 = 0 then some (x3, M) else some (x4, M) else (f_X2_boardsWithFault n ((p0 + 1) + 1) x1 x5 M).bind (fun (u7 : Int32 × vv_M) => vv_let u7.1 (fun (y8 : Int32) => if y8 ≤ x4 then f_X4_worstCell_68 n (f_X4_worstCell_32 n k) p0 x1 x2 x3 x4 x5 u7.2 else f_X4_worstCell_68 n (f_X4_worstCell_32 n k) p0 x1 x2 x5 y8 x5 u7.2))
def f_X4_worstCell (n : Nat) (p0 : Nat) (x1 : Int32) (x2 : Int32) (M : vv_M) : Option (Int32 × vv_M) := (f_X4_isWithin n x1 (0 : Int32) (4 : Int32) M).bind (fun (u1 : Int32 × vv_M) => if u1.1 = 0 then some ((-1001 : Int32), u1.2) else (f_X4_isWithin n x2 (0 : Int32) (1 : Int32) u1.2).bind (fun (u3 : Int32 × vv_M) => if u3.1 = 0 then some ((-1001 : Int32), u3.2) else f_X4_worstCell_32 n  n p0 x1 x2 (-1009 : Int32) (0 : Int32) (0 : Int32) u3.2))
def f_J13_bitCount_95d88_48 (n : Nat)  (l0 : Int64) (M : vv_M) : Option (Int32 × vv_M) := vv_let (l0 + ((l0.toUInt64 >>> ((32 : Int32).toInt64.toUInt64 &&& Int64.toUInt64 63)).toInt64)) (fun (y6 : Int64) => some (y6.toInt32 &&& (127 : Int32), M))
def f_J13_bitCount_95d88 (n : Nat) (l0 : Int64) (M : vv_M) : Option (Int32 × vv_M) := vv_let (l0 - (((l0.toUInt64 >>> ((1 : Int32).toInt64.toUInt64 &&& Int64.toUInt64 63)).toInt64) &&& (6148914691236517205 : Int64))) (fun (y1 : Int64) => vv_let ((y1 &&& (3689348814741910323 : Int64)) + (((y1.toUInt64 >>> ((2 : Int32).toInt64.toUInt64 &&& Int64.toUInt64 63)).toInt64) &&& (3689348814741910323 : Int64))) (fun (y2 : Int64) => vv_let ((y2 + ((y2.toUInt64 >>> ((4 : Int32).toInt64.toUInt64 &&& Int64.toUInt64 63)).toInt64)) &&& (1085102592571150095 : Int64)) (fun (y3 : Int64) => vv_let (y3 + ((y3.toUInt64 >>> ((8 : Int32).toInt64.toUInt64 &&& Int64.toUInt64 63)).toInt64)) (fun (y4 : Int64) => vv_let (y4 + ((y4.toUInt64 >>> ((16 : Int32).toInt64.toUInt64 &&& Int64.toUInt64 63)).toInt64)) (fun (y5 : Int64) => f_J13_bitCount_95d88_48 n  y5 M)))))
def f_X4_faultCells (n : Nat) (p0 : Nat) (M : vv_M) : Option (Int32 × vv_M) := (f_X2_setOfFaultCells n ((p0 + 1) + 1) M).bind (fun (u1 : Int64 × vv_M) => (f_J13_bitCount_95d88 n u1.1 u1.2).bind (fun (u2 : Int32 × vv_M) => some (u2.1, u2.2)))
def f_X4_foretell_68 (n : Nat)  (p0 : Nat) (x1 : Int32) (x2 : Int32) (x3 : Int32) (M : vv_M) : Option (Int32 × vv_M) := vv_let (x1 * (22 : Int32)) (fun (y10 : Int32) => if x2 = (0 : Int32) then if (y10 + (8 : Int32)) < 0 ∨ 682 ≤ (y10 + (8 : Int32)).toNatClampNeg then none else some (M ((p0 + 152) + 4) (y10 + (8 : Int32)).toNatClampNeg, M) else if x2 = (1 : Int32) then if (y10 + (6 : Int32)) < 0 ∨ 682 ≤ (y10 + (6 : Int32)).toNatClampNeg then none else some (M ((p0 + 152) + 4) (y10 + (6 : Int32)).toNatClampNeg, M) else if x2 = (2 : Int32) then some (x3, M) else if (y10 + (4 : Int32)) < 0 ∨ 682 ≤ (y10 + (4 : Int32)).toNatClampNeg then none else some (M ((p0 + 152) + 4) (y10 + (4 : Int32)).toNatClampNeg, M))
def f_X4_foretell (n : Nat) (p0 : Nat) (x1 : Int32) (x2 : Int32) (M : vv_M) : Option (Int32 × vv_M) := (f_X2_hasBoard n ((p0 + 1) + 1) x1 M).bind (fun (u1 : Int32 × vv_M) => if u1.1 = 0 then some ((-1001 : Int32), u1.2) else (f_X4_isWithin n x2 (0 : Int32) (3 : Int32) u1.2).bind (fun (u3 : Int32 × vv_M) => if u3.1 = 0 then some ((-1001 : Int32), u3.2) else (f_X2_isOnBelt n ((p0 + 1) + 1) x1 u3.2).bind (fun (u5 : Int32 × vv_M) => if u5.1 = 0 then some ((-1002 : Int32), u5.2) else (f_X2_become n (p0 + 152) ((p0 + 1) + 1) u5.2).bind (fun (u7 : Unit × vv_M) => (f_X2_passUntilLeft n (p0 + 152) x1 u7.2).bind (fun (u8 : Int32 × vv_M) => vv_let u8.1 (fun (y9 : Int32) => f_X4_foretell_68 n  p0 x1 x2 y9 u8.2))))))
def f_X4_faultsInTrial_38 (n : Nat)  (p0 : Nat) (x1 : Int32) (x2 : Int32) (M : vv_M) : Option (Int32 × vv_M) := (f_X2_placeBoard n (p0 + 152) x1 x2 M).bind (fun (u3 : Int32 × vv_M) => vv_let u3.1 (fun (y4 : Int32) => (f_X2_passUntilLeft n (p0 + 152) y4 u3.2).bind (fun (u5 : Int32 × vv_M) => if ((y4 * (22 : Int32)) + (8 : Int32)) < 0 ∨ 682 ≤ ((y4 * (22 : Int32)) + (8 : Int32)).toNatClampNeg then none else some (u5.2 ((p0 + 152) + 4) ((y4 * (22 : Int32)) + (8 : Int32)).toNatClampNeg, u5.2))))
def f_X4_faultsInTrial (n : Nat) (p0 : Nat) (x1 : Int32) (x2 : Int32) (x3 : Int32) (M : vv_M) : Option (Int32 × vv_M) := (f_X2_become n (p0 + 152) ((p0 + 1) + 1) M).bind (fun (u1 : Unit × vv_M) => if x3 = 0 then f_X4_faultsInTrial_38 n  p0 x1 x2 u1.2 else if (0 : Int32) < 0 ∨ 4 ≤ (0 : Int32).toNatClampNeg then none else vv_let (va_up u1.2 ((p0 + 152) + 3) (upd (u1.2 ((p0 + 152) + 3)) (0 : Int32).toNatClampNeg x3)) (fun (M8 : vv_M) => if (2 : Int32) < 0 ∨ 4 ≤ (2 : Int32).toNatClampNeg then none else vv_let (va_up M8 ((p0 + 152) + 3) (upd (M8 ((p0 + 152) + 3)) (2 : Int32).toNatClampNeg (0 : Int32))) (fun (M10 : vv_M) => f_X4_faultsInTrial_38 n  p0 x1 x2 M10)))
def f_X4_wouldFail (n : Nat) (p0 : Nat) (x1 : Int32) (x2 : Int32) (x3 : Int32) (M : vv_M) : Option (Int32 × vv_M) := (f_X4_isWithin n x1 (0 : Int32) (3 : Int32) M).bind (fun (u1 : Int32 × vv_M) => if u1.1 = 0 then some ((-1001 : Int32), u1.2) else (f_X4_isWithin n x2 (1 : Int32) (9 : Int32) u1.2).bind (fun (u3 : Int32 × vv_M) => if u3.1 = 0 then some ((-1001 : Int32), u3.2) else (f_X4_isWithin n x3 (0 : Int32) (3 : Int32) u3.2).bind (fun (u5 : Int32 × vv_M) => if u5.1 = 0 then some ((-1001 : Int32), u5.2) else (f_X4_faultsInTrial n p0 x1 x2 x3 u5.2).bind (fun (u7 : Int32 × vv_M) => some (u7.1, u7.2)))))
def f_X4_heaviest_16 (n : Nat)  : Nat → Nat → Int32 → Int32 → vv_M → Option (Int32 × vv_M)
  | 0, _, _, _, _ => none
  | k + 1, p0, x1, x2, M => if x2 < (1 : Int32) then some ((-1009 : Int32), M) else (f_X4_faultsInTrial n p0 x1 x2 (0 : Int32) M).bind (fun (u4 : Int32 × vv_M) => if u4.1 = 0 then some (x2, u4.2) else vv_let (x2 + (-1 : Int32)) (fun (y6 : Int32) => (f_X4_heaviest_16 n k) p0 x1 y6 u4.2))
def f_X4_heaviest (n : Nat) (p0 : Nat) (x1 : Int32) (M : vv_M) : Option (Int32 × vv_M) := (f_X4_isWithin n x1 (0 : Int32) (3 : Int32) M).bind (fun (u1 : Int32 × vv_M) => if u1.1 = 0 then some ((-1001 : Int32), u1.2) else f_X4_heaviest_16 n  n p0 x1 (9 : Int32) u1.2)
def f_X4_room (n : Nat) (p0 : Nat) (M : vv_M) : Option (Int32 × vv_M) := (f_X2_become n (p0 + 152) ((p0 + 1) + 1) M).bind (fun (u1 : Unit × vv_M) => (f_X2_passUntilFree n (p0 + 152) u1.2).bind (fun (u2 : Int32 × vv_M) => some (u2.1, u2.2)))
end
section
def f_X5_in (n : Nat) (x0 : Int32) (x1 : Int32) (x2 : Int32) (M : vv_M) : Option (Int32 × vv_M) := if x0 < x1 then some ((0 : Int32), M) else if x2 < x0 then some ((0 : Int32), M) else some ((1 : Int32), M)
def f_X5_ofZone (n : Nat) (x0 : Int32) (x1 : Int32) (M : vv_M) : Option (Int32 × vv_M) := some (((0 : Int32) + ((4 : Int32) * x0)) + x1, M)
def f_X5_ofCurve (n : Nat) (x0 : Int32) (x1 : Int32) (M : vv_M) : Option (Int32 × vv_M) := some (((24 : Int32) + ((6 : Int32) * x0)) + x1, M)
def f_X5_of (n : Nat) (x0 : Int32) (x1 : Int32) (M : vv_M) : Option (Int32 × vv_M) := some (((56 : Int32) + ((21 : Int32) * x0)) + x1, M)
def f_X5_isZone (n : Nat) (x0 : Int32) (M : vv_M) : Option (Int32 × vv_M) := (f_X5_in n x0 (0 : Int32) (5 : Int32) M).bind (fun (u1 : Int32 × vv_M) => if u1.1 = 0 ∨ u1.1 = 1 then some (u1.1, u1.2) else none)
def f_X5_isCurve (n : Nat) (x0 : Int32) (M : vv_M) : Option (Int32 × vv_M) := (f_X5_in n x0 (0 : Int32) (3 : Int32) M).bind (fun (u1 : Int32 × vv_M) => if u1.1 = 0 ∨ u1.1 = 1 then some (u1.1, u1.2) else none)
def f_X5_isBoard (n : Nat) (p0 : Nat) (x1 : Int32) (M : vv_M) : Option (Int32 × vv_M) := if (53 : Int32) < 0 ∨ 13445 ≤ (53 : Int32).toNatClampNeg then none else (f_X5_in n x1 (0 : Int32) ((M (p0 + 1) (53 : Int32).toNatClampNeg) - (1 : Int32)) M).bind (fun (u1 : Int32 × vv_M) => if u1.1 = 0 ∨ u1.1 = 1 then some (u1.1, u1.2) else none)
def f_X5_isOn (n : Nat) (p0 : Nat) (x1 : Int32) (M : vv_M) : Option (Int32 × vv_M) := (f_X5_of n x1 (2 : Int32) M).bind (fun (u1 : Int32 × vv_M) => if u1.1 < 0 ∨ 13445 ≤ u1.1.toNatClampNeg then none else if (u1.2 (p0 + 1) u1.1.toNatClampNeg) = 0 then some ((1 : Int32), u1.2) else some ((0 : Int32), u1.2))
def f_X5_copy_3 (n : Nat)  : Nat → Nat → Int32 → Int32 → Int32 → Int32 → vv_M → Option (Unit × vv_M)
  | 0, _, _, _, _, _, _ => none
  | k + 1, p0, x1, x2, x3, x4, M => if x3 ≤ x4 then some ((), M) else if (x1 + x4) < 0 ∨ 13445 ≤ (x1 + x4).toNatClampNeg then none else if (x2 + x4) < 0 ∨ 13445 ≤ (x2 + x4).toNatClampNeg then none else vv_let (va_up M (p0 + 1) (upd (M (p0 + 1)) (x2 + x4).toNatClampNeg (M (p0 + 1) (x1 + x4).toNatClampNeg))) (fun (M3 : vv_M) => vv_let (x4 + (1 : Int32)) (fun (y4 : Int32) => (f_X5_copy_3 n k) p0 x1 x2 x3 y4 M3))
def f_X5_copy (n : Nat) (p0 : Nat) (x1 : Int32) (x2 : Int32) (x3 : Int32) (M : vv_M) : Option (Unit × vv_M) := f_X5_copy_3 n  n p0 x1 x2 x3 (0 : Int32) M
def f_X5_record_52 (n : Nat)  (p0 : Nat) (M : vv_M) : Option (Unit × vv_M) := (f_X5_copy n p0 (0 : Int32) ((2123 : Int32) + ((2123 : Int32) * (M p0 1))) (2123 : Int32) M).bind (fun (u2 : Unit × vv_M) => vv_let (va_up u2.2 p0 (upd (u2.2 p0) 1 ((u2.2 p0 1) + (1 : Int32)))) (fun (M3 : vv_M) => some ((), M3)))
def f_X5_record_10 (n : Nat)  : Nat → Nat → Int32 → vv_M → Option (Unit × vv_M)
  | 0, _, _, _ => none
  | k + 1, p0, x1, M => if (5 : Int32) ≤ x1 then vv_let (va_up M p0 (upd (M p0) 1 ((M p0 1) - (1 : Int32)))) (fun (M5 : vv_M) => f_X5_record_52 n  p0 M5) else (f_X5_copy n p0 ((2123 : Int32) + ((2123 : Int32) * x1)) ((2123 : Int32) * x1) (2123 : Int32) M).bind (fun (u6 : Unit × vv_M) => vv_let (x1 + (1 : Int32)) (fun (y7 : Int32) => (f_X5_record_10 n k) p0 y7 u6.2))
def f_X5_record (n : Nat) (p0 : Nat) (M : vv_M) : Option (Unit × vv_M) := if (M p0 1) = (5 : Int32) then f_X5_record_10 n  n p0 (1 : Int32) M else f_X5_record_52 n  p0 M
def f_X5_undo (n : Nat) (p0 : Nat) (M : vv_M) : Option (Int32 × vv_M) := if (M p0 1) = 0 then some ((-1002 : Int32), M) else vv_let (va_up M p0 (upd (M p0) 1 ((M p0 1) - (1 : Int32)))) (fun (M2 : vv_M) => (f_X5_copy n p0 ((2123 : Int32) + ((2123 : Int32) * (M2 p0 1))) (0 : Int32) (2123 : Int32) M2).bind (fun (u3 : Unit × vv_M) => some (u3.2 p0 1, u3.2)))
def f_X5_take (n : Nat) (p0 : Nat) (x1 : Int32) (M : vv_M) : Option (Int32 × vv_M) := (f_X5_in n x1 (0 : Int32) (1 : Int32) M).bind (fun (u1 : Int32 × vv_M) => if u1.1 = 0 then some ((-1001 : Int32), u1.2) else (f_X5_record n p0 u1.2).bind (fun (u3 : Unit × vv_M) => (f_X5_copy n p0 (0 : Int32) ((707 : Int32) + ((707 : Int32) * x1)) (707 : Int32) u3.2).bind (fun (u4 : Unit × vv_M) => if ((2121 : Int32) + x1) < 0 ∨ 13445 ≤ ((2121 : Int32) + x1).toNatClampNeg then none else vv_let (va_up u4.2 (p0 + 1) (upd (u4.2 (p0 + 1)) ((2121 : Int32) + x1).toNatClampNeg (1 : Int32))) (fun (M6 : vv_M) => if (52 : Int32) < 0 ∨ 13445 ≤ (52 : Int32).toNatClampNeg then none else some (M6 (p0 + 1) (52 : Int32).toNatClampNeg, M6)))))
def f_X5_restore (n : Nat) (p0 : Nat) (x1 : Int32) (M : vv_M) : Option (Int32 × vv_M) := (f_X5_in n x1 (0 : Int32) (1 : Int32) M).bind (fun (u1 : Int32 × vv_M) => if u1.1 = 0 then some ((-1001 : Int32), u1.2) else if ((2121 : Int32) + x1) < 0 ∨ 13445 ≤ ((2121 : Int32) + x1).toNatClampNeg then none else if (u1.2 (p0 + 1) ((2121 : Int32) + x1).toNatClampNeg) = 0 then some ((-1002 : Int32), u1.2) else (f_X5_record n p0 u1.2).bind (fun (u4 : Unit × vv_M) => (f_X5_copy n p0 ((707 : Int32) + ((707 : Int32) * x1)) (0 : Int32) (707 : Int32) u4.2).bind (fun (u5 : Unit × vv_M) => if (52 : Int32) < 0 ∨ 13445 ≤ (52 : Int32).toNatClampNeg then none else some (u5.2 (p0 + 1) (52 : Int32).toNatClampNeg, u5.2))))
def f_X5_belt_4 (n : Nat)  : Nat → Nat → Int32 → Int32 → vv_M → Option (Int32 × vv_M)
  | 0, _, _, _, _ => none
  | k + 1, p0, x1, x2, M => if (6 : Int32) ≤ x2 then some (x1, M) else (f_X5_ofZone n x2 (0 : Int32) M).bind (fun (u2 : Int32 × vv_M) => if u2.1 < 0 ∨ 13445 ≤ u2.1.toNatClampNeg then none else vv_let (x1 + (u2.2 (p0 + 1) u2.1.toNatClampNeg)) (fun (y3 : Int32) => vv_let (x2 + (1 : Int32)) (fun (y4 : Int32) => (f_X5_belt_4 n k) p0 y3 y4 u2.2)))
def f_X5_belt (n : Nat) (p0 : Nat) (M : vv_M) : Option (Int32 × vv_M) := f_X5_belt_4 n  n p0 (0 : Int32) (0 : Int32) M
def f_X5_zoneOf_4 (n : Nat)  : Nat → Nat → Int32 → Int32 → vv_M → Option (Int32 × vv_M)
  | 0, _, _, _, _ => none
  | k + 1, p0, x2, x3, M => (f_X5_ofZone n x2 (0 : Int32) M).bind (fun (u1 : Int32 × vv_M) => if u1.1 < 0 ∨ 13445 ≤ u1.1.toNatClampNeg then none else if x3 < (u1.2 (p0 + 1) u1.1.toNatClampNeg) then some (x2, u1.2) else (f_X5_ofZone n x2 (0 : Int32) u1.2).bind (fun (u3 : Int32 × vv_M) => if u3.1 < 0 ∨ 13445 ≤ u3.1.toNatClampNeg then none else vv_let (x3 - (u3.2 (p0 + 1) u3.1.toNatClampNeg)) (fun (y4 : Int32) => vv_let (x2 + (1 : Int32)) (fun (y5 : Int32) => (f_X5_zoneOf_4 n k) p0 y5 y4 u3.2))))
def f_X5_zoneOf (n : Nat) (p0 : Nat) (x1 : Int32) (M : vv_M) : Option (Int32 × vv_M) := f_X5_zoneOf_4 n  n p0 (0 : Int32) x1 M
def f_X5_many_35 (n : Nat) (k4 : Nat → Int32 → Int32 → Int32 → vv_M → Option (Int32 × vv_M)) (p0 : Nat) (x1 : Int32) (x3 : Int32) (s0 : Int32) (s1 : Int32) (M : vv_M) : Option (Int32 × vv_M) := vv_let (s0 + s1) (fun (y4 : Int32) => vv_let (x3 + (1 : Int32)) (fun (y5 : Int32) => k4 p0 x1 y4 y5 M))
def f_X5_many_4 (n : Nat)  : Nat → Nat → Int32 → Int32 → Int32 → vv_M → Option (Int32 × vv_M)
  | 0, _, _, _, _, _ => none
  | k + 1, p0, x1, x2, x3, M => if (53 : Int32) < 0 ∨ 13445 ≤ (53 : Int32).toNatClampNeg then none else if (M (p0 + 1) (53 : Int32).toNatClampNeg) ≤ x3 then some (x2, M) else (f_X5_of n x3 (2 : Int32) M).bind (fun (u2 : Int32 × vv_M) => if u2.1 < 0 ∨ 13445 ≤ u2.1.toNatClampNeg then none else if (u2.2 (p0 + 1) u2.1.toNatClampNeg) = x1 then f_X5_many_35 n (f_X5_many_4 n k) p0 x1 x3 x2 (1 : Int32) u2.2 else f_X5_many_35 n (f_X5_many_4 n k) p0 x1 x3 x2 (0 : Int32) u2.2)
def f_X5_many (n : Nat) (p0 : Nat) (x1 : Int32) (M : vv_M) : Option (Int32 × vv_M) := f_X5_many_4 n  n p0 x1 (0 : Int32) (0 : Int32) M
def f_X5_setZone_82 (n : Nat)  (p0 : Nat) (x1 : Int32) (x3 : Int32) (x4 : Int32) (M : vv_M) : Option (Int32 × vv_M) := (f_X5_ofZone n x1 (2 : Int32) M).bind (fun (u18 : Int32 × vv_M) => if u18.1 < 0 ∨ 13445 ≤ u18.1.toNatClampNeg then none else vv_let (va_up u18.2 (p0 + 1) (upd (u18.2 (p0 + 1)) u18.1.toNatClampNeg x4)) (fun (M20 : vv_M) => (f_X5_ofZone n x1 (3 : Int32) M20).bind (fun (u21 : Int32 × vv_M) => if u21.1 < 0 ∨ 13445 ≤ u21.1.toNatClampNeg then none else vv_let (va_up u21.2 (p0 + 1) (upd (u21.2 (p0 + 1)) u21.1.toNatClampNeg x3)) (fun (M23 : vv_M) => (f_X5_belt n p0 M23).bind (fun (u24 : Int32 × vv_M) => some (u24.1, u24.2))))))
def f_X5_setZone_56 (n : Nat)  (p0 : Nat) (x1 : Int32) (x2 : Int32) (x3 : Int32) (x4 : Int32) (M : vv_M) : Option (Int32 × vv_M) := (f_X5_record n p0 M).bind (fun (u11 : Unit × vv_M) => (f_X5_ofZone n x1 (0 : Int32) u11.2).bind (fun (u12 : Int32 × vv_M) => if u12.1 < 0 ∨ 13445 ≤ u12.1.toNatClampNeg then none else vv_let (va_up u12.2 (p0 + 1) (upd (u12.2 (p0 + 1)) u12.1.toNatClampNeg x2)) (fun (M14 : vv_M) => (f_X5_ofZone n x1 (1 : Int32) M14).bind (fun (u15 : Int32 × vv_M) => if u15.1 < 0 ∨ 13445 ≤ u15.1.toNatClampNeg then none else vv_let (va_up u15.2 (p0 + 1) (upd (u15.2 (p0 + 1)) u15.1.toNatClampNeg x3)) (fun (M17 : vv_M) => f_X5_setZone_82 n  p0 x1 x3 x4 M17)))))
def f_X5_setZone (n : Nat) (p0 : Nat) (x1 : Int32) (x2 : Int32) (x3 : Int32) (x4 : Int32) (M : vv_M) : Option (Int32 × vv_M) := (f_X5_isZone n x1 M).bind (fun (u1 : Int32 × vv_M) => if u1.1 = 0 then some ((-1001 : Int32), u1.2) else (f_X5_in n x2 (2 : Int32) (8 : Int32) u1.2).bind (fun (u3 : Int32 × vv_M) => if u3.1 = 0 then some ((-1001 : Int32), u3.2) else (f_X5_in n x3 (20 : Int32) (300 : Int32) u3.2).bind (fun (u5 : Int32 × vv_M) => if u5.1 = 0 then some ((-1001 : Int32), u5.2) else (f_X5_in n x4 (1 : Int32) (20 : Int32) u5.2).bind (fun (u7 : Int32 × vv_M) => if u7.1 = 0 then some ((-1001 : Int32), u7.2) else (f_X5_many n p0 (0 : Int32) u7.2).bind (fun (u9 : Int32 × vv_M) => if u9.1 ≤ 0 then f_X5_setZone_56 n  p0 x1 x2 x3 x4 u9.2 else some ((-1002 : Int32), u9.2))))))
def f_X5_put (n : Nat) (p0 : Nat) (x1 : Int32) (x2 : Int32) (x3 : Int32) (M : vv_M) : Option (Int32 × vv_M) := if x1 = 0 then some ((-1001 : Int32), M) else (f_X5_record n p0 M).bind (fun (u2 : Unit × vv_M) => if x2 < 0 ∨ 13445 ≤ x2.toNatClampNeg then none else vv_let (u2.2 (p0 + 1) x2.toNatClampNeg) (fun (y3 : Int32) => if x2 < 0 ∨ 13445 ≤ x2.toNatClampNeg then none else vv_let (va_up u2.2 (p0 + 1) (upd (u2.2 (p0 + 1)) x2.toNatClampNeg x3)) (fun (M5 : vv_M) => some (y3, M5))))
def f_X5_isCurveNumber (n : Nat) (x0 : Int32) (x1 : Int32) (M : vv_M) : Option (Int32 × vv_M) := if x0 = (0 : Int32) then (f_X5_in n x1 (1 : Int32) (99 : Int32) M).bind (fun (u2 : Int32 × vv_M) => if u2.1 = 0 ∨ u2.1 = 1 then some (u2.1, u2.2) else none) else if x0 = (2 : Int32) then (f_X5_in n x1 (0 : Int32) (99 : Int32) M).bind (fun (u5 : Int32 × vv_M) => if u5.1 = 0 ∨ u5.1 = 1 then some (u5.1, u5.2) else none) else if x0 = (3 : Int32) then (f_X5_in n x1 (0 : Int32) (99 : Int32) M).bind (fun (u8 : Int32 × vv_M) => if u8.1 = 0 ∨ u8.1 = 1 then some (u8.1, u8.2) else none) else (f_X5_in n x0 (1 : Int32) (5 : Int32) M).bind (fun (u10 : Int32 × vv_M) => if u10.1 = 0 then some ((0 : Int32), u10.2) else (f_X5_in n x1 (20 : Int32) (300 : Int32) u10.2).bind (fun (u12 : Int32 × vv_M) => if u12.1 = 0 then some ((0 : Int32), u12.2) else some ((1 : Int32), u12.2)))
def f_X5_setCurve_39 (n : Nat)  (x3 : Int32) (s0 : Nat) (s1 : Int32) (s2 : Int32) (M : vv_M) : Option (Int32 × vv_M) := (f_X5_put n s0 s1 s2 x3 M).bind (fun (u4 : Int32 × vv_M) => some (u4.1, u4.2))
def f_X5_setCurve_20 (n : Nat)  (p0 : Nat) (x1 : Int32) (x2 : Int32) (x3 : Int32) (s0 : Int32) (M : vv_M) : Option (Int32 × vv_M) := if s0 = 0 then f_X5_setCurve_39 n  x3 p0 s0 (0 : Int32) M else (f_X5_ofCurve n x1 x2 M).bind (fun (u5 : Int32 × vv_M) => f_X5_setCurve_39 n  x3 p0 s0 u5.1 u5.2)
def f_X5_setCurve_19 (n : Nat)  (p0 : Nat) (x1 : Int32) (x2 : Int32) (x3 : Int32) (M : vv_M) : Option (Int32 × vv_M) := f_X5_setCurve_20 n  p0 x1 x2 x3 (0 : Int32) M
def f_X5_setCurve (n : Nat) (p0 : Nat) (x1 : Int32) (x2 : Int32) (x3 : Int32) (M : vv_M) : Option (Int32 × vv_M) := (f_X5_isCurve n x1 M).bind (fun (u1 : Int32 × vv_M) => if u1.1 = 0 then f_X5_setCurve_19 n  p0 x1 x2 x3 u1.2 else (f_X5_isCurveNumber n x2 x3 u1.2).bind (fun (u6 : Int32 × vv_M) => if u6.1 = 0 then f_X5_setCurve_19 n  p0 x1 x2 x3 u6.2 else f_X5_setCurve_20 n  p0 x1 x2 x3 (1 : Int32) u6.2))
def f_X5_isBeltNumber (n : Nat) (x0 : Int32) (x1 : Int32) (M : vv_M) : Option (Int32 × vv_M) := if x0 = 0 then (f_X5_in n x1 (1 : Int32) (3 : Int32) M).bind (fun (u11 : Int32 × vv_M) => if u11.1 = 0 ∨ u11.1 = 1 then some (u11.1, u11.2) else none) else if x0 = (1 : Int32) then (f_X5_in n x1 (1 : Int32) (20 : Int32) M).bind (fun (u9 : Int32 × vv_M) => if u9.1 = 0 ∨ u9.1 = 1 then some (u9.1, u9.2) else none) else if x0 = (2 : Int32) then (f_X5_in n x1 (0 : Int32) (99 : Int32) M).bind (fun (u7 : Int32 × vv_M) => if u7.1 = 0 ∨ u7.1 = 1 then some (u7.1, u7.2) else none) else if x0 = (3 : Int32) then (f_X5_in n x1 (0 : Int32) (9 : Int32) M).bind (fun (u5 : Int32 × vv_M) => if u5.1 = 0 then some ((0 : Int32), u5.2) else some ((1 : Int32), u5.2)) else some ((0 : Int32), M)
def f_X5_set_20 (n : Nat)  (x2 : Int32) (s0 : Nat) (s1 : Int32) (s2 : Int32) (M : vv_M) : Option (Int32 × vv_M) := (f_X5_put n s0 s1 s2 x2 M).bind (fun (u4 : Int32 × vv_M) => some (u4.1, u4.2))
def f_X5_set (n : Nat) (p0 : Nat) (x1 : Int32) (x2 : Int32) (M : vv_M) : Option (Int32 × vv_M) := (f_X5_isBeltNumber n x1 x2 M).bind (fun (u1 : Int32 × vv_M) => vv_let u1.1 (fun (y2 : Int32) => if y2 = 0 then f_X5_set_20 n  x2 p0 y2 (0 : Int32) u1.2 else f_X5_set_20 n  x2 p0 y2 ((48 : Int32) + x1) u1.2))
def f_X5_lay_62 (n : Nat)  (p0 : Nat) (x1 : Int32) (M : vv_M) : Option (Unit × vv_M) := (f_X5_of n x1 (6 : Int32) M).bind (fun (u11 : Int32 × vv_M) => if u11.1 < 0 ∨ 13445 ≤ u11.1.toNatClampNeg then none else vv_let (va_up u11.2 (p0 + 1) (upd (u11.2 (p0 + 1)) u11.1.toNatClampNeg (20 : Int32))) (fun (M13 : vv_M) => (f_X5_of n x1 (10 : Int32) M13).bind (fun (u14 : Int32 × vv_M) => if u14.1 < 0 ∨ 13445 ≤ u14.1.toNatClampNeg then none else vv_let (va_up u14.2 (p0 + 1) (upd (u14.2 (p0 + 1)) u14.1.toNatClampNeg (-1009 : Int32))) (fun (M16 : vv_M) => some ((), M16)))))
def f_X5_lay_3 (n : Nat)  : Nat → Nat → Int32 → Int32 → Int32 → Int32 → vv_M → Option (Unit × vv_M)
  | 0, _, _, _, _, _, _ => none
  | k + 1, p0, x1, x2, x3, x4, M => if (21 : Int32) ≤ x4 then (f_X5_of n x1 (0 : Int32) M).bind (fun (u2 : Int32 × vv_M) => if u2.1 < 0 ∨ 13445 ≤ u2.1.toNatClampNeg then none else vv_let (va_up u2.2 (p0 + 1) (upd (u2.2 (p0 + 1)) u2.1.toNatClampNeg x2)) (fun (M4 : vv_M) => (f_X5_of n x1 (1 : Int32) M4).bind (fun (u5 : Int32 × vv_M) => if u5.1 < 0 ∨ 13445 ≤ u5.1.toNatClampNeg then none else vv_let (va_up u5.2 (p0 + 1) (upd (u5.2 (p0 + 1)) u5.1.toNatClampNeg x3)) (fun (M7 : vv_M) => (f_X5_of n x1 (4 : Int32) M7).bind (fun (u8 : Int32 × vv_M) => if u8.1 < 0 ∨ 13445 ≤ u8.1.toNatClampNeg then none else vv_let (va_up u8.2 (p0 + 1) (upd (u8.2 (p0 + 1)) u8.1.toNatClampNeg (20 : Int32))) (fun (M10 : vv_M) => f_X5_lay_62 n  p0 x1 M10)))))) else (f_X5_of n x1 x4 M).bind (fun (u17 : Int32 × vv_M) => if u17.1 < 0 ∨ 13445 ≤ u17.1.toNatClampNeg then none else vv_let (va_up u17.2 (p0 + 1) (upd (u17.2 (p0 + 1)) u17.1.toNatClampNeg (0 : Int32))) (fun (M19 : vv_M) => vv_let (x4 + (1 : Int32)) (fun (y20 : Int32) => (f_X5_lay_3 n k) p0 x1 x2 x3 y20 M19)))
def f_X5_lay (n : Nat) (p0 : Nat) (x1 : Int32) (x2 : Int32) (x3 : Int32) (M : vv_M) : Option (Unit × vv_M) := f_X5_lay_3 n  n p0 x1 x2 x3 (0 : Int32) M
def f_X5_hasRoom_43 (n : Nat) (k2 : Nat → Int32 → vv_M → Option (Int32 × vv_M)) (p0 : Nat) (x1 : Int32) (M : vv_M) : Option (Int32 × vv_M) := vv_let (x1 + (1 : Int32)) (fun (y4 : Int32) => k2 p0 y4 M)
def f_X5_hasRoom_2 (n : Nat)  : Nat → Nat → Int32 → vv_M → Option (Int32 × vv_M)
  | 0, _, _, _ => none
  | k + 1, p0, x1, M => if (53 : Int32) < 0 ∨ 13445 ≤ (53 : Int32).toNatClampNeg then none else if (M (p0 + 1) (53 : Int32).toNatClampNeg) ≤ x1 then some ((1 : Int32), M) else (f_X5_isOn n p0 x1 M).bind (fun (u2 : Int32 × vv_M) => if u2.1 = 0 then f_X5_hasRoom_43 n (f_X5_hasRoom_2 n k) p0 x1 u2.2 else (f_X5_of n x1 (3 : Int32) u2.2).bind (fun (u5 : Int32 × vv_M) => if u5.1 < 0 ∨ 13445 ≤ u5.1.toNatClampNeg then none else if (49 : Int32) < 0 ∨ 13445 ≤ (49 : Int32).toNatClampNeg then none else if (u5.2 (p0 + 1) (49 : Int32).toNatClampNeg) ≤ (u5.2 (p0 + 1) u5.1.toNatClampNeg) then f_X5_hasRoom_43 n (f_X5_hasRoom_2 n k) p0 x1 u5.2 else some ((0 : Int32), u5.2)))
def f_X5_hasRoom (n : Nat) (p0 : Nat) (M : vv_M) : Option (Int32 × vv_M) := f_X5_hasRoom_2 n  n p0 (0 : Int32) M
def f_X5_noLoad (n : Nat) (p0 : Nat) (x1 : Int32) (x2 : Int32) (M : vv_M) : Option (Int32 × vv_M) := (f_X5_isCurve n x1 M).bind (fun (u1 : Int32 × vv_M) => if u1.1 = 0 then some ((-1001 : Int32), u1.2) else (f_X5_in n x2 (1 : Int32) (9 : Int32) u1.2).bind (fun (u3 : Int32 × vv_M) => if u3.1 = 0 then some ((-1001 : Int32), u3.2) else (f_X5_hasRoom n p0 u3.2).bind (fun (u5 : Int32 × vv_M) => if u5.1 = 0 then some ((-1002 : Int32), u5.2) else if (53 : Int32) < 0 ∨ 13445 ≤ (53 : Int32).toNatClampNeg then none else if (u5.2 (p0 + 1) (53 : Int32).toNatClampNeg) = (30 : Int32) then some ((-1003 : Int32), u5.2) else some ((0 : Int32), u5.2))))
def f_X5_doLoad (n : Nat) (p0 : Nat) (x1 : Int32) (x2 : Int32) (M : vv_M) : Option (Int32 × vv_M) := if (53 : Int32) < 0 ∨ 13445 ≤ (53 : Int32).toNatClampNeg then none else (f_X5_lay n p0 (M (p0 + 1) (53 : Int32).toNatClampNeg) x1 x2 M).bind (fun (u1 : Unit × vv_M) => if (53 : Int32) < 0 ∨ 13445 ≤ (53 : Int32).toNatClampNeg then none else if (53 : Int32) < 0 ∨ 13445 ≤ (53 : Int32).toNatClampNeg then none else vv_let (va_up u1.2 (p0 + 1) (upd (u1.2 (p0 + 1)) (53 : Int32).toNatClampNeg ((u1.2 (p0 + 1) (53 : Int32).toNatClampNeg) + (1 : Int32)))) (fun (M3 : vv_M) => if (53 : Int32) < 0 ∨ 13445 ≤ (53 : Int32).toNatClampNeg then none else some ((M3 (p0 + 1) (53 : Int32).toNatClampNeg) - (1 : Int32), M3)))
def f_X5_load (n : Nat) (p0 : Nat) (x1 : Int32) (x2 : Int32) (M : vv_M) : Option (Int32 × vv_M) := (f_X5_noLoad n p0 x1 x2 M).bind (fun (u1 : Int32 × vv_M) => vv_let u1.1 (fun (y2 : Int32) => if y2 = 0 then (f_X5_record n p0 u1.2).bind (fun (u4 : Unit × vv_M) => (f_X5_doLoad n p0 x1 x2 u4.2).bind (fun (u5 : Int32 × vv_M) => some (u5.1, u5.2))) else some (y2, u1.2)))
def f_X5_noTakeOff (n : Nat) (p0 : Nat) (x1 : Int32) (M : vv_M) : Option (Int32 × vv_M) := (f_X5_isBoard n p0 x1 M).bind (fun (u1 : Int32 × vv_M) => if u1.1 = 0 then some ((-1001 : Int32), u1.2) else (f_X5_isOn n p0 x1 u1.2).bind (fun (u3 : Int32 × vv_M) => if u3.1 = 0 then some ((-1002 : Int32), u3.2) else some ((0 : Int32), u3.2)))
def f_X5_takeOff_27 (n : Nat)  (p0 : Nat) (x1 : Int32) (M : vv_M) : Option (Int32 × vv_M) := (f_X5_of n x1 (3 : Int32) M).bind (fun (u8 : Int32 × vv_M) => if u8.1 < 0 ∨ 13445 ≤ u8.1.toNatClampNeg then none else some (u8.2 (p0 + 1) u8.1.toNatClampNeg, u8.2))
def f_X5_takeOff (n : Nat) (p0 : Nat) (x1 : Int32) (M : vv_M) : Option (Int32 × vv_M) := (f_X5_noTakeOff n p0 x1 M).bind (fun (u1 : Int32 × vv_M) => vv_let u1.1 (fun (y2 : Int32) => if y2 = 0 then (f_X5_record n p0 u1.2).bind (fun (u4 : Unit × vv_M) => (f_X5_of n x1 (2 : Int32) u4.2).bind (fun (u5 : Int32 × vv_M) => if u5.1 < 0 ∨ 13445 ≤ u5.1.toNatClampNeg then none else vv_let (va_up u5.2 (p0 + 1) (upd (u5.2 (p0 + 1)) u5.1.toNatClampNeg (2 : Int32))) (fun (M7 : vv_M) => f_X5_takeOff_27 n  p0 x1 M7))) else some (y2, u1.2)))
def f_X5_faultIf_54 (n : Nat)  (p0 : Nat) (x2 : Int32) (x3 : Int32) (M : vv_M) : Option (Unit × vv_M) := (f_X5_of n x2 ((16 : Int32) + x3) M).bind (fun (u10 : Int32 × vv_M) => if (52 : Int32) < 0 ∨ 13445 ≤ (52 : Int32).toNatClampNeg then none else if u10.1 < 0 ∨ 13445 ≤ u10.1.toNatClampNeg then none else vv_let (va_up u10.2 (p0 + 1) (upd (u10.2 (p0 + 1)) u10.1.toNatClampNeg (u10.2 (p0 + 1) (52 : Int32).toNatClampNeg))) (fun (M12 : vv_M) => some ((), M12)))
def f_X5_faultIf (n : Nat) (p0 : Nat) (x1 : Int32) (x2 : Int32) (x3 : Int32) (x4 : Int32) (M : vv_M) : Option (Unit × vv_M) := if x1 = 0 then some ((), M) else (f_X5_of n x2 (8 : Int32) M).bind (fun (u2 : Int32 × vv_M) => if u2.1 < 0 ∨ 13445 ≤ u2.1.toNatClampNeg then none else if (((u2.2 (p0 + 1) u2.1.toNatClampNeg) >>> (x3 &&& 31)) &&& (1 : Int32)) = 0 then (f_X5_of n x2 (8 : Int32) u2.2).bind (fun (u4 : Int32 × vv_M) => if u4.1 < 0 ∨ 13445 ≤ u4.1.toNatClampNeg then none else if u4.1 < 0 ∨ 13445 ≤ u4.1.toNatClampNeg then none else vv_let (va_up u4.2 (p0 + 1) (upd (u4.2 (p0 + 1)) u4.1.toNatClampNeg ((u4.2 (p0 + 1) u4.1.toNatClampNeg) ||| ((1 : Int32) <<< (x3 &&& 31))))) (fun (M6 : vv_M) => (f_X5_of n x2 ((11 : Int32) + x3) M6).bind (fun (u7 : Int32 × vv_M) => if u7.1 < 0 ∨ 13445 ≤ u7.1.toNatClampNeg then none else vv_let (va_up u7.2 (p0 + 1) (upd (u7.2 (p0 + 1)) u7.1.toNatClampNeg x4)) (fun (M9 : vv_M) => f_X5_faultIf_54 n  p0 x2 x3 M9)))) else some ((), u2.2))
def f_X5_curveOf (n : Nat) (p0 : Nat) (x1 : Int32) (x2 : Int32) (M : vv_M) : Option (Int32 × vv_M) := (f_X5_of n x1 (0 : Int32) M).bind (fun (u1 : Int32 × vv_M) => if u1.1 < 0 ∨ 13445 ≤ u1.1.toNatClampNeg then none else (f_X5_ofCurve n (u1.2 (p0 + 1) u1.1.toNatClampNeg) x2 u1.2).bind (fun (u2 : Int32 × vv_M) => if u2.1 < 0 ∨ 13445 ≤ u2.1.toNatClampNeg then none else some (u2.2 (p0 + 1) u2.1.toNatClampNeg, u2.2)))
def f_X5_goOn_126 (n : Nat)  (x1 : Int32) (x2 : Int32) (s0 : Nat) (s1 : Int32) (M : vv_M) : Option (Unit × vv_M) := (f_X5_faultIf n s0 s1 x1 (4 : Int32) x2 M).bind (fun (u21 : Unit × vv_M) => some ((), u21.2))
def f_X5_goOn_94 (n : Nat)  (p0 : Nat) (x1 : Int32) (x2 : Int32) (s0 : Nat) (s1 : Int32) (M : vv_M) : Option (Unit × vv_M) := (f_X5_faultIf n s0 s1 x1 (3 : Int32) x2 M).bind (fun (u17 : Unit × vv_M) => (f_X5_of n x1 (6 : Int32) u17.2).bind (fun (u18 : Int32 × vv_M) => if u18.1 < 0 ∨ 13445 ≤ u18.1.toNatClampNeg then none else (f_X5_curveOf n p0 x1 (4 : Int32) u18.2).bind (fun (u19 : Int32 × vv_M) => if u19.1 ≤ (u18.2 (p0 + 1) u18.1.toNatClampNeg) then f_X5_goOn_126 n  x1 x2 p0 (0 : Int32) u19.2 else f_X5_goOn_126 n  x1 x2 p0 (1 : Int32) u19.2)))
def f_X5_goOn_39 (n : Nat)  (p0 : Nat) (x1 : Int32) (x2 : Int32) (M : vv_M) : Option (Unit × vv_M) := (f_X5_of n x1 (2 : Int32) M).bind (fun (u8 : Int32 × vv_M) => if u8.1 < 0 ∨ 13445 ≤ u8.1.toNatClampNeg then none else vv_let (va_up u8.2 (p0 + 1) (upd (u8.2 (p0 + 1)) u8.1.toNatClampNeg (1 : Int32))) (fun (M10 : vv_M) => (f_X5_of n x1 (10 : Int32) M10).bind (fun (u11 : Int32 × vv_M) => if (52 : Int32) < 0 ∨ 13445 ≤ (52 : Int32).toNatClampNeg then none else if u11.1 < 0 ∨ 13445 ≤ u11.1.toNatClampNeg then none else vv_let (va_up u11.2 (p0 + 1) (upd (u11.2 (p0 + 1)) u11.1.toNatClampNeg (u11.2 (p0 + 1) (52 : Int32).toNatClampNeg))) (fun (M13 : vv_M) => (f_X5_of n x1 (7 : Int32) M13).bind (fun (u14 : Int32 × vv_M) => if u14.1 < 0 ∨ 13445 ≤ u14.1.toNatClampNeg then none else (f_X5_curveOf n p0 x1 (2 : Int32) u14.2).bind (fun (u15 : Int32 × vv_M) => if u15.1 ≤ (u14.2 (p0 + 1) u14.1.toNatClampNeg) then f_X5_goOn_94 n  p0 x1 x2 p0 (0 : Int32) u15.2 else f_X5_goOn_94 n  p0 x1 x2 p0 (1 : Int32) u15.2))))))
def f_X5_goOn (n : Nat) (p0 : Nat) (x1 : Int32) (M : vv_M) : Option (Unit × vv_M) := (f_X5_belt n p0 M).bind (fun (u1 : Int32 × vv_M) => vv_let u1.1 (fun (y2 : Int32) => (f_X5_of n x1 (3 : Int32) u1.2).bind (fun (u3 : Int32 × vv_M) => if u3.1 < 0 ∨ 13445 ≤ u3.1.toNatClampNeg then none else if (48 : Int32) < 0 ∨ 13445 ≤ (48 : Int32).toNatClampNeg then none else if u3.1 < 0 ∨ 13445 ≤ u3.1.toNatClampNeg then none else vv_let (va_up u3.2 (p0 + 1) (upd (u3.2 (p0 + 1)) u3.1.toNatClampNeg ((u3.2 (p0 + 1) u3.1.toNatClampNeg) + (u3.2 (p0 + 1) (48 : Int32).toNatClampNeg)))) (fun (M5 : vv_M) => (f_X5_of n x1 (3 : Int32) M5).bind (fun (u6 : Int32 × vv_M) => if u6.1 < 0 ∨ 13445 ≤ u6.1.toNatClampNeg then none else if (u6.2 (p0 + 1) u6.1.toNatClampNeg) < y2 then some ((), u6.2) else f_X5_goOn_39 n  p0 x1 y2 u6.2)))))
def f_X5_weightsIn_56 (n : Nat) (k4 : Nat → Int32 → Int32 → Int32 → vv_M → Option (Int32 × vv_M)) (p0 : Nat) (x1 : Int32) (x3 : Int32) (s0 : Int32) (s1 : Int32) (M : vv_M) : Option (Int32 × vv_M) := vv_let (s0 + s1) (fun (y4 : Int32) => vv_let (x3 + (1 : Int32)) (fun (y5 : Int32) => k4 p0 x1 y4 y5 M))
def f_X5_weightsIn_55 (n : Nat) (k4 : Nat → Int32 → Int32 → Int32 → vv_M → Option (Int32 × vv_M)) (p0 : Nat) (x1 : Int32) (x3 : Int32) (s0 : Int32) (M : vv_M) : Option (Int32 × vv_M) := f_X5_weightsIn_56 n k4 p0 x1 x3 s0 (0 : Int32) M
def f_X5_weightsIn_4 (n : Nat)  : Nat → Nat → Int32 → Int32 → Int32 → vv_M → Option (Int32 × vv_M)
  | 0, _, _, _, _, _ => none
  | k + 1, p0, x1, x2, x3, M => if (53 : Int32) < 0 ∨ 13445 ≤ (53 : Int32).toNatClampNeg then none else if (M (p0 + 1) (53 : Int32).toNatClampNeg) ≤ x3 then some (x2, M) else (f_X5_isOn n p0 x3 M).bind (fun (u2 : Int32 × vv_M) => if u2.1 = 0 then f_X5_weightsIn_55 n (f_X5_weightsIn_4 n k) p0 x1 x3 x2 u2.2 else (f_X5_of n x3 (3 : Int32) u2.2).bind (fun (u6 : Int32 × vv_M) => if u6.1 < 0 ∨ 13445 ≤ u6.1.toNatClampNeg then none else (f_X5_zoneOf n p0 (u6.2 (p0 + 1) u6.1.toNatClampNeg) u6.2).bind (fun (u7 : Int32 × vv_M) => if u7.1 = x1 then (f_X5_of n x3 (1 : Int32) u7.2).bind (fun (u9 : Int32 × vv_M) => if u9.1 < 0 ∨ 13445 ≤ u9.1.toNatClampNeg then none else f_X5_weightsIn_56 n (f_X5_weightsIn_4 n k) p0 x1 x3 x2 (u9.2 (p0 + 1) u9.1.toNatClampNeg) u9.2) else f_X5_weightsIn_55 n (f_X5_weightsIn_4 n k) p0 x1 x3 x2 u7.2)))
def f_X5_weightsIn (n : Nat) (p0 : Nat) (x1 : Int32) (M : vv_M) : Option (Int32 × vv_M) := f_X5_weightsIn_4 n  n p0 x1 (0 : Int32) (0 : Int32) M
def f_X5_heat_105 (n : Nat)  (p0 : Nat) (x1 : Int32) (x2 : Int32) (M : vv_M) : Option (Unit × vv_M) := (f_X5_ofZone n x1 (3 : Int32) M).bind (fun (u11 : Int32 × vv_M) => if u11.1 < 0 ∨ 13445 ≤ u11.1.toNatClampNeg then none else vv_let (va_up u11.2 (p0 + 1) (upd (u11.2 (p0 + 1)) u11.1.toNatClampNeg x2)) (fun (M13 : vv_M) => some ((), M13)))
def f_X5_heat_104 (n : Nat)  (p0 : Nat) (x1 : Int32) (s0 : Int32) (M : vv_M) : Option (Unit × vv_M) := f_X5_heat_105 n  p0 x1 s0 M
def f_X5_heat_84 (n : Nat)  (p0 : Nat) (x1 : Int32) (s0 : Int32) (M : vv_M) : Option (Unit × vv_M) := f_X5_heat_105 n  p0 x1 s0 M
def f_X5_heat_62 (n : Nat)  (p0 : Nat) (x1 : Int32) (x3 : Int32) (x4 : Int32) (s0 : Int32) (M : vv_M) : Option (Unit × vv_M) := if x3 ≤ s0 then if (s0 - x4) ≤ x3 then f_X5_heat_104 n  p0 x1 x3 M else f_X5_heat_104 n  p0 x1 (s0 - x4) M else if x3 ≤ (s0 + x4) then f_X5_heat_84 n  p0 x1 x3 M else f_X5_heat_84 n  p0 x1 (s0 + x4) M
def f_X5_heat_38 (n : Nat)  (p0 : Nat) (x1 : Int32) (x2 : Int32) (x3 : Int32) (M : vv_M) : Option (Unit × vv_M) := (f_X5_ofZone n x1 (2 : Int32) M).bind (fun (u6 : Int32 × vv_M) => if u6.1 < 0 ∨ 13445 ≤ u6.1.toNatClampNeg then none else vv_let (u6.2 (p0 + 1) u6.1.toNatClampNeg) (fun (y7 : Int32) => if (20 : Int32) ≤ x2 then f_X5_heat_62 n  p0 x1 x3 y7 x2 u6.2 else f_X5_heat_62 n  p0 x1 x3 y7 (20 : Int32) u6.2))
def f_X5_heat (n : Nat) (p0 : Nat) (x1 : Int32) (M : vv_M) : Option (Unit × vv_M) := (f_X5_ofZone n x1 (3 : Int32) M).bind (fun (u1 : Int32 × vv_M) => if u1.1 < 0 ∨ 13445 ≤ u1.1.toNatClampNeg then none else if (51 : Int32) < 0 ∨ 13445 ≤ (51 : Int32).toNatClampNeg then none else (f_X5_weightsIn n p0 x1 u1.2).bind (fun (u2 : Int32 × vv_M) => if (5 : Int32) = 0 then none else vv_let ((u1.2 (p0 + 1) u1.1.toNatClampNeg) - (((u1.2 (p0 + 1) (51 : Int32).toNatClampNeg) * u2.1) / (5 : Int32))) (fun (y3 : Int32) => (f_X5_ofZone n x1 (1 : Int32) u2.2).bind (fun (u4 : Int32 × vv_M) => if u4.1 < 0 ∨ 13445 ≤ u4.1.toNatClampNeg then none else vv_let (u4.2 (p0 + 1) u4.1.toNatClampNeg) (fun (y5 : Int32) => f_X5_heat_38 n  p0 x1 y3 y5 u4.2)))))
def f_X5_warmUp_274 (n : Nat)  (s0 : Nat) (s1 : Int32) (s2 : Int32) (M : vv_M) : Option (Unit × vv_M) := if s1 < 0 ∨ 13445 ≤ s1.toNatClampNeg then none else vv_let (va_up M s0 (upd (M s0) s1.toNatClampNeg s2)) (fun (M41 : vv_M) => some ((), M41))
def f_X5_warmUp_239 (n : Nat)  (p0 : Nat) (x1 : Int32) (x2 : Int32) (x5 : Int32) (x6 : Int32) (s0 : Nat) (s1 : Int32) (M : vv_M) : Option (Unit × vv_M) := (f_X5_faultIf n s0 s1 x1 (2 : Int32) x2 M).bind (fun (u36 : Unit × vv_M) => (f_X5_of n x1 (9 : Int32) u36.2).bind (fun (u37 : Int32 × vv_M) => if x5 = 0 then if x6 = 0 then f_X5_warmUp_274 n  (p0 + 1) u37.1 (0 : Int32) u37.2 else f_X5_warmUp_274 n  (p0 + 1) u37.1 (2 : Int32) u37.2 else f_X5_warmUp_274 n  (p0 + 1) u37.1 (1 : Int32) u37.2))
def f_X5_warmUp_202 (n : Nat)  (p0 : Nat) (x1 : Int32) (x2 : Int32) (x4 : Int32) (x5 : Int32) (s0 : Int32) (M : vv_M) : Option (Unit × vv_M) := (f_X5_faultIf n p0 x5 x1 (0 : Int32) x2 M).bind (fun (u32 : Unit × vv_M) => (f_X5_faultIf n p0 s0 x1 (1 : Int32) x2 u32.2).bind (fun (u33 : Unit × vv_M) => (f_X5_curveOf n p0 x1 (5 : Int32) u33.2).bind (fun (u34 : Int32 × vv_M) => if x4 ≤ u34.1 then f_X5_warmUp_239 n  p0 x1 x2 x5 s0 p0 (0 : Int32) u34.2 else f_X5_warmUp_239 n  p0 x1 x2 x5 s0 p0 (1 : Int32) u34.2)))
def f_X5_warmUp_175 (n : Nat)  (p0 : Nat) (x1 : Int32) (x2 : Int32) (x4 : Int32) (s0 : Int32) (M : vv_M) : Option (Unit × vv_M) := (f_X5_of n x1 (7 : Int32) M).bind (fun (u29 : Int32 × vv_M) => if u29.1 < 0 ∨ 13445 ≤ u29.1.toNatClampNeg then none else (f_X5_curveOf n p0 x1 (3 : Int32) u29.2).bind (fun (u30 : Int32 × vv_M) => if (u29.2 (p0 + 1) u29.1.toNatClampNeg) ≤ u30.1 then f_X5_warmUp_202 n  p0 x1 x2 x4 s0 (0 : Int32) u30.2 else f_X5_warmUp_202 n  p0 x1 x2 x4 s0 (1 : Int32) u30.2))
def f_X5_warmUp_158 (n : Nat)  (p0 : Nat) (x1 : Int32) (x2 : Int32) (x3 : Int32) (x4 : Int32) (s0 : Nat) (s1 : Int32) (s2 : Int32) (s3 : Int32) (M : vv_M) : Option (Unit × vv_M) := if s1 < 0 ∨ 13445 ≤ s1.toNatClampNeg then none else vv_let (va_up M s0 (upd (M s0) s1.toNatClampNeg (s2 + s3))) (fun (M26 : vv_M) => (f_X5_curveOf n p0 x1 (0 : Int32) M26).bind (fun (u27 : Int32 × vv_M) => if x3 ≤ u27.1 then f_X5_warmUp_175 n  p0 x1 x2 x4 (0 : Int32) u27.2 else f_X5_warmUp_175 n  p0 x1 x2 x4 (1 : Int32) u27.2))
def f_X5_warmUp_129 (n : Nat)  (p0 : Nat) (x1 : Int32) (x2 : Int32) (x3 : Int32) (x4 : Int32) (s0 : Nat) (s1 : Int32) (s2 : Int32) (M : vv_M) : Option (Unit × vv_M) := if s1 < 0 ∨ 13445 ≤ s1.toNatClampNeg then none else vv_let (va_up M s0 (upd (M s0) s1.toNatClampNeg s2)) (fun (M21 : vv_M) => (f_X5_of n x1 (7 : Int32) M21).bind (fun (u22 : Int32 × vv_M) => if u22.1 < 0 ∨ 13445 ≤ u22.1.toNatClampNeg then none else (f_X5_curveOf n p0 x1 (1 : Int32) u22.2).bind (fun (u23 : Int32 × vv_M) => if x4 ≤ u23.1 then f_X5_warmUp_158 n  p0 x1 x2 x3 x4 (p0 + 1) u22.1 (u22.2 (p0 + 1) u22.1.toNatClampNeg) (0 : Int32) u23.2 else f_X5_warmUp_158 n  p0 x1 x2 x3 x4 (p0 + 1) u22.1 (u22.2 (p0 + 1) u22.1.toNatClampNeg) (1 : Int32) u23.2)))
def f_X5_warmUp_87 (n : Nat)  (p0 : Nat) (x1 : Int32) (x2 : Int32) (x3 : Int32) (x4 : Int32) (M : vv_M) : Option (Unit × vv_M) := (f_X5_of n x1 (6 : Int32) M).bind (fun (u16 : Int32 × vv_M) => (f_X5_of n x1 (6 : Int32) u16.2).bind (fun (u17 : Int32 × vv_M) => if u17.1 < 0 ∨ 13445 ≤ u17.1.toNatClampNeg then none else if x4 ≤ (u17.2 (p0 + 1) u17.1.toNatClampNeg) then (f_X5_of n x1 (6 : Int32) u17.2).bind (fun (u19 : Int32 × vv_M) => if u19.1 < 0 ∨ 13445 ≤ u19.1.toNatClampNeg then none else f_X5_warmUp_129 n  p0 x1 x2 x3 x4 (p0 + 1) u16.1 (u19.2 (p0 + 1) u19.1.toNatClampNeg) u19.2) else f_X5_warmUp_129 n  p0 x1 x2 x3 x4 (p0 + 1) u16.1 x4 u17.2))
def f_X5_warmUp_50 (n : Nat)  (p0 : Nat) (x1 : Int32) (x2 : Int32) (x3 : Int32) (M : vv_M) : Option (Unit × vv_M) := (f_X5_of n x1 (4 : Int32) M).bind (fun (u8 : Int32 × vv_M) => if u8.1 < 0 ∨ 13445 ≤ u8.1.toNatClampNeg then none else vv_let ((u8.2 (p0 + 1) u8.1.toNatClampNeg) + x3) (fun (y9 : Int32) => (f_X5_of n x1 (5 : Int32) u8.2).bind (fun (u10 : Int32 × vv_M) => if u10.1 < 0 ∨ 13445 ≤ u10.1.toNatClampNeg then none else vv_let (va_up u10.2 (p0 + 1) (upd (u10.2 (p0 + 1)) u10.1.toNatClampNeg x3)) (fun (M12 : vv_M) => (f_X5_of n x1 (4 : Int32) M12).bind (fun (u13 : Int32 × vv_M) => if u13.1 < 0 ∨ 13445 ≤ u13.1.toNatClampNeg then none else vv_let (va_up u13.2 (p0 + 1) (upd (u13.2 (p0 + 1)) u13.1.toNatClampNeg y9)) (fun (M15 : vv_M) => f_X5_warmUp_87 n  p0 x1 x2 x3 y9 M15))))))
def f_X5_warmUp (n : Nat) (p0 : Nat) (x1 : Int32) (M : vv_M) : Option (Unit × vv_M) := (f_X5_of n x1 (3 : Int32) M).bind (fun (u1 : Int32 × vv_M) => if u1.1 < 0 ∨ 13445 ≤ u1.1.toNatClampNeg then none else vv_let (u1.2 (p0 + 1) u1.1.toNatClampNeg) (fun (y2 : Int32) => (f_X5_zoneOf n p0 y2 u1.2).bind (fun (u3 : Int32 × vv_M) => (f_X5_ofZone n u3.1 (3 : Int32) u3.2).bind (fun (u4 : Int32 × vv_M) => if u4.1 < 0 ∨ 13445 ≤ u4.1.toNatClampNeg then none else (f_X5_of n x1 (4 : Int32) u4.2).bind (fun (u5 : Int32 × vv_M) => if u5.1 < 0 ∨ 13445 ≤ u5.1.toNatClampNeg then none else (f_X5_of n x1 (1 : Int32) u5.2).bind (fun (u6 : Int32 × vv_M) => if u6.1 < 0 ∨ 13445 ≤ u6.1.toNatClampNeg then none else if ((u6.2 (p0 + 1) u6.1.toNatClampNeg) + (1 : Int32)) = 0 then none else vv_let (((u4.2 (p0 + 1) u4.1.toNatClampNeg) - (u5.2 (p0 + 1) u5.1.toNatClampNeg)) / ((u6.2 (p0 + 1) u6.1.toNatClampNeg) + (1 : Int32))) (fun (y7 : Int32) => f_X5_warmUp_50 n  p0 x1 y2 y7 u6.2)))))))
def f_X5_hear_144 (n : Nat)  (p0 : Nat) (x1 : Int32) (M : vv_M) : Option (Unit × vv_M) := if (50 : Int32) < 0 ∨ 13445 ≤ (50 : Int32).toNatClampNeg then none else if (-x1) < (M (p0 + 1) (50 : Int32).toNatClampNeg) then some ((), M) else if (48 : Int32) < 0 ∨ 13445 ≤ (48 : Int32).toNatClampNeg then none else if (3 : Int32) ≤ (M (p0 + 1) (48 : Int32).toNatClampNeg) then some ((), M) else if (48 : Int32) < 0 ∨ 13445 ≤ (48 : Int32).toNatClampNeg then none else if (48 : Int32) < 0 ∨ 13445 ≤ (48 : Int32).toNatClampNeg then none else vv_let (va_up M (p0 + 1) (upd (M (p0 + 1)) (48 : Int32).toNatClampNeg ((M (p0 + 1) (48 : Int32).toNatClampNeg) + (1 : Int32)))) (fun (M7 : vv_M) => if (55 : Int32) < 0 ∨ 13445 ≤ (55 : Int32).toNatClampNeg then none else if (55 : Int32) < 0 ∨ 13445 ≤ (55 : Int32).toNatClampNeg then none else vv_let (va_up M7 (p0 + 1) (upd (M7 (p0 + 1)) (55 : Int32).toNatClampNeg ((M7 (p0 + 1) (55 : Int32).toNatClampNeg) + (1 : Int32)))) (fun (M9 : vv_M) => some ((), M9)))
def f_X5_hear_78 (n : Nat) (k4 : Nat → Int32 → Int32 → vv_M → Option (Unit × vv_M)) (p0 : Nat) (x2 : Int32) (s0 : Int32) (s1 : Int32) (M : vv_M) : Option (Unit × vv_M) := vv_let (s0 + s1) (fun (y28 : Int32) => vv_let (x2 + (1 : Int32)) (fun (y29 : Int32) => k4 p0 y28 y29 M))
def f_X5_hear_38 (n : Nat) (k4 : Nat → Int32 → Int32 → vv_M → Option (Unit × vv_M)) (p0 : Nat) (x1 : Int32) (x2 : Int32) (s0 : Int32) (M : vv_M) : Option (Unit × vv_M) := if s0 = (1 : Int32) then (f_X5_of n x2 (1 : Int32) M).bind (fun (u32 : Int32 × vv_M) => if u32.1 < 0 ∨ 13445 ≤ u32.1.toNatClampNeg then none else f_X5_hear_78 n k4 p0 x2 x1 (u32.2 (p0 + 1) u32.1.toNatClampNeg) u32.2) else if s0 = (2 : Int32) then (f_X5_of n x2 (1 : Int32) M).bind (fun (u30 : Int32 × vv_M) => if u30.1 < 0 ∨ 13445 ≤ u30.1.toNatClampNeg then none else f_X5_hear_78 n k4 p0 x2 x1 (-(u30.2 (p0 + 1) u30.1.toNatClampNeg)) u30.2) else f_X5_hear_78 n k4 p0 x2 x1 (0 : Int32) M
def f_X5_hear_4 (n : Nat)  : Nat → Nat → Int32 → Int32 → vv_M → Option (Unit × vv_M)
  | 0, _, _, _, _ => none
  | k + 1, p0, x1, x2, M => if (53 : Int32) < 0 ∨ 13445 ≤ (53 : Int32).toNatClampNeg then none else if (M (p0 + 1) (53 : Int32).toNatClampNeg) ≤ x2 then if (50 : Int32) < 0 ∨ 13445 ≤ (50 : Int32).toNatClampNeg then none else if (M (p0 + 1) (50 : Int32).toNatClampNeg) = 0 then some ((), M) else if (50 : Int32) < 0 ∨ 13445 ≤ (50 : Int32).toNatClampNeg then none else if x1 < (M (p0 + 1) (50 : Int32).toNatClampNeg) then f_X5_hear_144 n  p0 x1 M else if (48 : Int32) < 0 ∨ 13445 ≤ (48 : Int32).toNatClampNeg then none else if (M (p0 + 1) (48 : Int32).toNatClampNeg) ≤ (1 : Int32) then f_X5_hear_144 n  p0 x1 M else if (48 : Int32) < 0 ∨ 13445 ≤ (48 : Int32).toNatClampNeg then none else if (48 : Int32) < 0 ∨ 13445 ≤ (48 : Int32).toNatClampNeg then none else vv_let (va_up M (p0 + 1) (upd (M (p0 + 1)) (48 : Int32).toNatClampNeg ((M (p0 + 1) (48 : Int32).toNatClampNeg) - (1 : Int32)))) (fun (M16 : vv_M) => if (54 : Int32) < 0 ∨ 13445 ≤ (54 : Int32).toNatClampNeg then none else if (54 : Int32) < 0 ∨ 13445 ≤ (54 : Int32).toNatClampNeg then none else vv_let (va_up M16 (p0 + 1) (upd (M16 (p0 + 1)) (54 : Int32).toNatClampNeg ((M16 (p0 + 1) (54 : Int32).toNatClampNeg) + (1 : Int32)))) (fun (M18 : vv_M) => some ((), M18))) else (f_X5_isOn n p0 x2 M).bind (fun (u24 : Int32 × vv_M) => if u24.1 = 0 then f_X5_hear_38 n (f_X5_hear_4 n k) p0 x1 x2 (0 : Int32) u24.2 else (f_X5_of n x2 (9 : Int32) u24.2).bind (fun (u34 : Int32 × vv_M) => if u34.1 < 0 ∨ 13445 ≤ u34.1.toNatClampNeg then none else f_X5_hear_38 n (f_X5_hear_4 n k) p0 x1 x2 (u34.2 (p0 + 1) u34.1.toNatClampNeg) u34.2))
def f_X5_hear (n : Nat) (p0 : Nat) (M : vv_M) : Option (Unit × vv_M) := f_X5_hear_4 n  n p0 (0 : Int32) (0 : Int32) M
def f_X5_tick_77 (n : Nat) (k53 : Nat → Int32 → vv_M → Option (Unit × vv_M)) (p0 : Nat) (x1 : Int32) (M : vv_M) : Option (Unit × vv_M) := vv_let (x1 + (1 : Int32)) (fun (y10 : Int32) => k53 p0 y10 M)
def f_X5_tick_53 (n : Nat)  : Nat → Nat → Int32 → vv_M → Option (Unit × vv_M)
  | 0, _, _, _ => none
  | k + 1, p0, x1, M => if (53 : Int32) < 0 ∨ 13445 ≤ (53 : Int32).toNatClampNeg then none else if (M (p0 + 1) (53 : Int32).toNatClampNeg) ≤ x1 then (f_X5_hear n p0 M).bind (fun (u4 : Unit × vv_M) => if (52 : Int32) < 0 ∨ 13445 ≤ (52 : Int32).toNatClampNeg then none else if (52 : Int32) < 0 ∨ 13445 ≤ (52 : Int32).toNatClampNeg then none else vv_let (va_up u4.2 (p0 + 1) (upd (u4.2 (p0 + 1)) (52 : Int32).toNatClampNeg ((u4.2 (p0 + 1) (52 : Int32).toNatClampNeg) + (1 : Int32)))) (fun (M6 : vv_M) => some ((), M6))) else (f_X5_isOn n p0 x1 M).bind (fun (u8 : Int32 × vv_M) => if u8.1 = 0 then f_X5_tick_77 n (f_X5_tick_53 n k) p0 x1 u8.2 else (f_X5_warmUp n p0 x1 u8.2).bind (fun (u11 : Unit × vv_M) => f_X5_tick_77 n (f_X5_tick_53 n k) p0 x1 u11.2))
def f_X5_tick_34 (n : Nat)  : Nat → Nat → Int32 → vv_M → Option (Unit × vv_M)
  | 0, _, _, _ => none
  | k + 1, p0, x1, M => if (6 : Int32) ≤ x1 then f_X5_tick_53 n  n p0 (0 : Int32) M else (f_X5_heat n p0 x1 M).bind (fun (u13 : Unit × vv_M) => vv_let (x1 + (1 : Int32)) (fun (y14 : Int32) => (f_X5_tick_34 n k) p0 y14 u13.2))
def f_X5_tick_26 (n : Nat) (k2 : Nat → Int32 → vv_M → Option (Unit × vv_M)) (p0 : Nat) (x1 : Int32) (M : vv_M) : Option (Unit × vv_M) := vv_let (x1 + (1 : Int32)) (fun (y17 : Int32) => k2 p0 y17 M)
def f_X5_tick_2 (n : Nat)  : Nat → Nat → Int32 → vv_M → Option (Unit × vv_M)
  | 0, _, _, _ => none
  | k + 1, p0, x1, M => if (53 : Int32) < 0 ∨ 13445 ≤ (53 : Int32).toNatClampNeg then none else if (M (p0 + 1) (53 : Int32).toNatClampNeg) ≤ x1 then f_X5_tick_34 n  n p0 (0 : Int32) M else (f_X5_isOn n p0 x1 M).bind (fun (u15 : Int32 × vv_M) => if u15.1 = 0 then f_X5_tick_26 n (f_X5_tick_2 n k) p0 x1 u15.2 else (f_X5_goOn n p0 x1 u15.2).bind (fun (u18 : Unit × vv_M) => f_X5_tick_26 n (f_X5_tick_2 n k) p0 x1 u18.2))
def f_X5_tick (n : Nat) (p0 : Nat) (M : vv_M) : Option (Unit × vv_M) := f_X5_tick_2 n  n p0 (0 : Int32) M
def f_X5_noPass (n : Nat) (p0 : Nat) (x1 : Int32) (M : vv_M) : Option (Int32 × vv_M) := (f_X5_in n x1 (1 : Int32) (99 : Int32) M).bind (fun (u1 : Int32 × vv_M) => if u1.1 = 0 then some ((-1001 : Int32), u1.2) else if (52 : Int32) < 0 ∨ 13445 ≤ (52 : Int32).toNatClampNeg then none else if ((u1.2 (p0 + 1) (52 : Int32).toNatClampNeg) + x1) ≤ (5000 : Int32) then some ((0 : Int32), u1.2) else some ((-1003 : Int32), u1.2))
def f_X5_doPass_8 (n : Nat)  : Nat → Nat → Int32 → Int32 → Int32 → vv_M → Option (Int32 × vv_M)
  | 0, _, _, _, _, _ => none
  | k + 1, p0, x1, x2, x3, M => if x1 ≤ x3 then (f_X5_many n p0 (1 : Int32) M).bind (fun (u4 : Int32 × vv_M) => some (u4.1 - x2, u4.2)) else (f_X5_tick n p0 M).bind (fun (u5 : Unit × vv_M) => vv_let (x3 + (1 : Int32)) (fun (y6 : Int32) => (f_X5_doPass_8 n k) p0 x1 x2 y6 u5.2))
def f_X5_doPass (n : Nat) (p0 : Nat) (x1 : Int32) (M : vv_M) : Option (Int32 × vv_M) := (f_X5_many n p0 (1 : Int32) M).bind (fun (u1 : Int32 × vv_M) => vv_let u1.1 (fun (y2 : Int32) => f_X5_doPass_8 n  n p0 x1 y2 (0 : Int32) u1.2))
def f_X5_pass (n : Nat) (p0 : Nat) (x1 : Int32) (M : vv_M) : Option (Int32 × vv_M) := (f_X5_noPass n p0 x1 M).bind (fun (u1 : Int32 × vv_M) => vv_let u1.1 (fun (y2 : Int32) => if y2 = 0 then (f_X5_record n p0 u1.2).bind (fun (u4 : Unit × vv_M) => (f_X5_doPass n p0 x1 u4.2).bind (fun (u5 : Int32 × vv_M) => some (u5.1, u5.2))) else some (y2, u1.2)))
def f_X5_append (n : Nat) (p0 : Nat) (x1 : Int32) (M : vv_M) : Option (Int32 × vv_M) := (f_X5_in n x1 (1 : Int32) (255 : Int32) M).bind (fun (u1 : Int32 × vv_M) => if u1.1 = 0 then some ((-1001 : Int32), u1.2) else if (u1.2 p0 3) = (100 : Int32) then some ((-1003 : Int32), u1.2) else if (u1.2 p0 3) < 0 ∨ 100 ≤ (u1.2 p0 3).toNatClampNeg then none else vv_let (va_up u1.2 (p0 + 2) (upd (u1.2 (p0 + 2)) (u1.2 p0 3).toNatClampNeg x1)) (fun (M5 : vv_M) => vv_let (va_up M5 p0 (upd (M5 p0) 3 ((M5 p0 3) + (1 : Int32)))) (fun (M6 : vv_M) => some (M6 p0 3, M6))))
def f_X5_clearText (n : Nat) (p0 : Nat) (M : vv_M) : Option (Int32 × vv_M) := vv_let (M p0 3) (fun (y1 : Int32) => vv_let (va_up M p0 (upd (M p0) 3 (0 : Int32))) (fun (M2 : vv_M) => some (y1, M2)))
def f_X5_code (n : Nat) (p0 : Nat) (M : vv_M) : Option (Int32 × vv_M) := if (M p0 3) ≤ (M p0 4) then some ((0 : Int32), M) else if (M p0 4) < 0 ∨ 100 ≤ (M p0 4).toNatClampNeg then none else some (M (p0 + 2) (M p0 4).toNatClampNeg, M)
def f_X5_isDigit (n : Nat) (p0 : Nat) (M : vv_M) : Option (Int32 × vv_M) := (f_X5_code n p0 M).bind (fun (u1 : Int32 × vv_M) => (f_X5_in n u1.1 (48 : Int32) (57 : Int32) u1.2).bind (fun (u2 : Int32 × vv_M) => if u2.1 = 0 ∨ u2.1 = 1 then some (u2.1, u2.2) else none))
def f_X5_number_38 (n : Nat)  (p0 : Nat) (x1 : Int32) (M : vv_M) : Option (Int32 × vv_M) := (f_X5_code n p0 M).bind (fun (u9 : Int32 × vv_M) => vv_let ((((10 : Int32) * x1) + u9.1) - (48 : Int32)) (fun (y10 : Int32) => vv_let (va_up u9.2 p0 (upd (u9.2 p0) 4 ((u9.2 p0 4) + (1 : Int32)))) (fun (M11 : vv_M) => some (y10, M11))))
def f_X5_number (n : Nat) (p0 : Nat) (M : vv_M) : Option (Int32 × vv_M) := (f_X5_isDigit n p0 M).bind (fun (u1 : Int32 × vv_M) => if u1.1 = 0 then some ((-1 : Int32), u1.2) else (f_X5_code n p0 u1.2).bind (fun (u3 : Int32 × vv_M) => vv_let (u3.1 - (48 : Int32)) (fun (y4 : Int32) => vv_let (va_up u3.2 p0 (upd (u3.2 p0) 4 ((u3.2 p0 4) + (1 : Int32)))) (fun (M5 : vv_M) => if y4 ≤ 0 then some (y4, M5) else (f_X5_isDigit n p0 M5).bind (fun (u7 : Int32 × vv_M) => if u7.1 = 0 then some (y4, u7.2) else f_X5_number_38 n  p0 y4 u7.2)))))
def f_X5_readsOrder_80 (n : Nat)  (p0 : Nat) (M : vv_M) : Option (Int32 × vv_M) := if (M p0 6) < 0 then some ((0 : Int32), M) else some ((1 : Int32), M)
def f_X5_readsOrder_114 (n : Nat)  (p0 : Nat) (M : vv_M) : Option (Int32 × vv_M) := (f_X5_number n p0 M).bind (fun (u13 : Int32 × vv_M) => vv_let (va_up u13.2 p0 (upd (u13.2 p0) 7 u13.1)) (fun (M14 : vv_M) => if (M14 p0 7) < 0 then some ((0 : Int32), M14) else some ((1 : Int32), M14)))
def f_X5_readsOrder_46 (n : Nat)  (p0 : Nat) (M : vv_M) : Option (Int32 × vv_M) := vv_let (va_up M p0 (upd (M p0) 4 ((M p0 4) + (1 : Int32)))) (fun (M4 : vv_M) => (f_X5_number n p0 M4).bind (fun (u5 : Int32 × vv_M) => vv_let (va_up u5.2 p0 (upd (u5.2 p0) 6 u5.1)) (fun (M6 : vv_M) => if (M6 p0 6) < 0 then f_X5_readsOrder_80 n  p0 M6 else if (M6 p0 5) = (108 : Int32) then (f_X5_code n p0 M6).bind (fun (u10 : Int32 × vv_M) => if u10.1 = (44 : Int32) then vv_let (va_up u10.2 p0 (upd (u10.2 p0) 4 ((u10.2 p0 4) + (1 : Int32)))) (fun (M12 : vv_M) => f_X5_readsOrder_114 n  p0 M12) else some ((0 : Int32), u10.2)) else f_X5_readsOrder_80 n  p0 M6)))
def f_X5_readsOrder (n : Nat) (p0 : Nat) (M : vv_M) : Option (Int32 × vv_M) := (f_X5_code n p0 M).bind (fun (u1 : Int32 × vv_M) => vv_let (va_up u1.2 p0 (upd (u1.2 p0) 5 u1.1)) (fun (M2 : vv_M) => if (M2 p0 5) = (108 : Int32) then f_X5_readsOrder_46 n  p0 M2 else if (M2 p0 5) = (112 : Int32) then f_X5_readsOrder_46 n  p0 M2 else if (M2 p0 5) = (116 : Int32) then f_X5_readsOrder_46 n  p0 M2 else if (M2 p0 5) = (115 : Int32) then f_X5_readsOrder_46 n  p0 M2 else some ((0 : Int32), M2)))
def f_X5_faultOf_78 (n : Nat)  (p0 : Nat) (x1 : Int32) (M : vv_M) : Option (Int32 × vv_M) := if x1 = 0 then some (M p0 4, M) else some ((-1 : Int32), M)
def f_X5_faultOf_74 (n : Nat) (k10 : Nat → Int32 → vv_M → Option (Int32 × vv_M)) (p0 : Nat) (s0 : Int32) (M : vv_M) : Option (Int32 × vv_M) := k10 p0 s0 M
def f_X5_faultOf_73 (n : Nat) (k10 : Nat → Int32 → vv_M → Option (Int32 × vv_M)) (p0 : Nat) (M : vv_M) : Option (Int32 × vv_M) := f_X5_faultOf_74 n k10 p0 (0 : Int32) M
def f_X5_faultOf_54 (n : Nat) (k10 : Nat → Int32 → vv_M → Option (Int32 × vv_M)) (p0 : Nat) (x1 : Int32) (s0 : Nat) (s1 : Int32) (s2 : Int32) (M : vv_M) : Option (Int32 × vv_M) := vv_let (va_up M s0 (upd (M s0) 4 (s1 + s2))) (fun (M10 : vv_M) => if x1 = 0 then f_X5_faultOf_73 n k10 p0 M10 else (f_X5_readsOrder n p0 M10).bind (fun (u12 : Int32 × vv_M) => if u12.1 = 0 then f_X5_faultOf_73 n k10 p0 u12.2 else f_X5_faultOf_74 n k10 p0 (1 : Int32) u12.2))
def f_X5_faultOf_39 (n : Nat) (k10 : Nat → Int32 → vv_M → Option (Int32 × vv_M)) (p0 : Nat) (s0 : Int32) (M : vv_M) : Option (Int32 × vv_M) := if s0 = 0 then f_X5_faultOf_54 n k10 p0 s0 p0 (M p0 4) (0 : Int32) M else f_X5_faultOf_54 n k10 p0 s0 p0 (M p0 4) (1 : Int32) M
def f_X5_faultOf_10 (n : Nat)  : Nat → Nat → Int32 → vv_M → Option (Int32 × vv_M)
  | 0, _, _, _ => none
  | k + 1, p0, x1, M => if x1 = 0 then f_X5_faultOf_78 n  p0 x1 M else if (M p0 3) ≤ (M p0 4) then f_X5_faultOf_78 n  p0 x1 M else (f_X5_code n p0 M).bind (fun (u7 : Int32 × vv_M) => if u7.1 = (59 : Int32) then f_X5_faultOf_39 n (f_X5_faultOf_10 n k) p0 (1 : Int32) u7.2 else f_X5_faultOf_39 n (f_X5_faultOf_10 n k) p0 (0 : Int32) u7.2)
def f_X5_faultOf (n : Nat) (p0 : Nat) (M : vv_M) : Option (Int32 × vv_M) := vv_let (va_up M p0 (upd (M p0) 4 (0 : Int32))) (fun (M1 : vv_M) => (f_X5_readsOrder n p0 M1).bind (fun (u2 : Int32 × vv_M) => vv_let u2.1 (fun (y3 : Int32) => f_X5_faultOf_10 n  n p0 y3 u2.2)))
def f_X5_does_172 (n : Nat)  (x1 : Int32) (M : vv_M) : Option (Int32 × vv_M) := if x1 = 0 then some ((1 : Int32), M) else some ((0 : Int32), M)
def f_X5_does_125 (n : Nat)  (x1 : Int32) (M : vv_M) : Option (Int32 × vv_M) := f_X5_does_172 n  x1 M
def f_X5_does_171 (n : Nat)  (x1 : Int32) (s0 : Nat) (s1 : Int32) (s2 : Int32) (M : vv_M) : Option (Int32 × vv_M) := if s1 < 0 ∨ 13445 ≤ s1.toNatClampNeg then none else vv_let (va_up M s0 (upd (M s0) s1.toNatClampNeg s2)) (fun (M23 : vv_M) => f_X5_does_172 n  x1 M23)
def f_X5_does_146 (n : Nat)  (p0 : Nat) (s0 : Int32) (M : vv_M) : Option (Int32 × vv_M) := if s0 = 0 then f_X5_does_171 n  s0 (p0 + 1) (48 : Int32) (M p0 6) M else if (48 : Int32) < 0 ∨ 13445 ≤ (48 : Int32).toNatClampNeg then none else f_X5_does_171 n  s0 (p0 + 1) (48 : Int32) (M (p0 + 1) (48 : Int32).toNatClampNeg) M
def f_X5_does (n : Nat) (p0 : Nat) (M : vv_M) : Option (Int32 × vv_M) := if (M p0 5) = (108 : Int32) then (f_X5_noLoad n p0 (M p0 6) (M p0 7) M).bind (fun (u2 : Int32 × vv_M) => vv_let u2.1 (fun (y3 : Int32) => if y3 = 0 then (f_X5_doLoad n p0 (u2.2 p0 6) (u2.2 p0 7) u2.2).bind (fun (u6 : Int32 × vv_M) => f_X5_does_172 n  y3 u6.2) else f_X5_does_172 n  y3 u2.2)) else if (M p0 5) = (112 : Int32) then (f_X5_noPass n p0 (M p0 6) M).bind (fun (u8 : Int32 × vv_M) => vv_let u8.1 (fun (y9 : Int32) => if y9 = 0 then (f_X5_doPass n p0 (u8.2 p0 6) u8.2).bind (fun (u11 : Int32 × vv_M) => f_X5_does_172 n  y9 u11.2) else f_X5_does_172 n  y9 u8.2)) else if (M p0 5) = (116 : Int32) then (f_X5_noTakeOff n p0 (M p0 6) M).bind (fun (u13 : Int32 × vv_M) => vv_let u13.1 (fun (y14 : Int32) => if y14 = 0 then (f_X5_of n (u13.2 p0 6) (2 : Int32) u13.2).bind (fun (u16 : Int32 × vv_M) => if u16.1 < 0 ∨ 13445 ≤ u16.1.toNatClampNeg then none else vv_let (va_up u16.2 (p0 + 1) (upd (u16.2 (p0 + 1)) u16.1.toNatClampNeg (2 : Int32))) (fun (M18 : vv_M) => f_X5_does_125 n  y14 M18)) else f_X5_does_172 n  y14 u13.2)) else (f_X5_isBeltNumber n (0 : Int32) (M p0 6) M).bind (fun (u19 : Int32 × vv_M) => if u19.1 = 0 then f_X5_does_146 n  p0 (-1001 : Int32) u19.2 else f_X5_does_146 n  p0 (0 : Int32) u19.2)
def f_X5_carryOut_26 (n : Nat)  : Nat → Nat → Int32 → vv_M → Option (Int32 × vv_M)
  | 0, _, _, _ => none
  | k + 1, p0, x2, M => if (M p0 3) ≤ (M p0 4) then vv_let (va_up M p0 (upd (M p0) 3 (0 : Int32))) (fun (M7 : vv_M) => some (x2, M7)) else (f_X5_readsOrder n p0 M).bind (fun (u8 : Int32 × vv_M) => if u8.1 = 0 then vv_let (va_up u8.2 p0 (upd (u8.2 p0) 3 (0 : Int32))) (fun (M10 : vv_M) => some (x2, M10)) else (f_X5_does n p0 u8.2).bind (fun (u11 : Int32 × vv_M) => if u11.1 = 0 then vv_let (va_up u11.2 p0 (upd (u11.2 p0) 3 (0 : Int32))) (fun (M13 : vv_M) => some (x2, M13)) else vv_let (x2 + (1 : Int32)) (fun (y14 : Int32) => vv_let (va_up u11.2 p0 (upd (u11.2 p0) 4 ((u11.2 p0 4) + (1 : Int32)))) (fun (M15 : vv_M) => (f_X5_carryOut_26 n k) p0 y14 M15))))
def f_X5_carryOut (n : Nat) (p0 : Nat) (M : vv_M) : Option (Int32 × vv_M) := (f_X5_faultOf n p0 M).bind (fun (u1 : Int32 × vv_M) => vv_let u1.1 (fun (y2 : Int32) => if y2 < 0 then (f_X5_record n p0 u1.2).bind (fun (u4 : Unit × vv_M) => vv_let (va_up u4.2 p0 (upd (u4.2 p0) 4 (0 : Int32))) (fun (M5 : vv_M) => f_X5_carryOut_26 n  n p0 (0 : Int32) M5)) else some ((-2000 : Int32) - y2, u1.2)))
def f_X5_faultless_49 (n : Nat) (k4 : Nat → Int32 → Int32 → vv_M → Option (Int32 × vv_M)) (p0 : Nat) (x2 : Int32) (s0 : Int32) (s1 : Int32) (M : vv_M) : Option (Int32 × vv_M) := vv_let (s0 + s1) (fun (y4 : Int32) => vv_let (x2 + (1 : Int32)) (fun (y5 : Int32) => k4 p0 y4 y5 M))
def f_X5_faultless_48 (n : Nat) (k4 : Nat → Int32 → Int32 → vv_M → Option (Int32 × vv_M)) (p0 : Nat) (x2 : Int32) (s0 : Int32) (M : vv_M) : Option (Int32 × vv_M) := f_X5_faultless_49 n k4 p0 x2 s0 (0 : Int32) M
def f_X5_faultless_4 (n : Nat)  : Nat → Nat → Int32 → Int32 → vv_M → Option (Int32 × vv_M)
  | 0, _, _, _, _ => none
  | k + 1, p0, x1, x2, M => if (53 : Int32) < 0 ∨ 13445 ≤ (53 : Int32).toNatClampNeg then none else if (M (p0 + 1) (53 : Int32).toNatClampNeg) ≤ x2 then some (x1, M) else (f_X5_of n x2 (2 : Int32) M).bind (fun (u2 : Int32 × vv_M) => if u2.1 < 0 ∨ 13445 ≤ u2.1.toNatClampNeg then none else if (u2.2 (p0 + 1) u2.1.toNatClampNeg) = (1 : Int32) then (f_X5_of n x2 (8 : Int32) u2.2).bind (fun (u6 : Int32 × vv_M) => if u6.1 < 0 ∨ 13445 ≤ u6.1.toNatClampNeg then none else if (u6.2 (p0 + 1) u6.1.toNatClampNeg) = 0 then f_X5_faultless_49 n (f_X5_faultless_4 n k) p0 x2 x1 (1 : Int32) u6.2 else f_X5_faultless_48 n (f_X5_faultless_4 n k) p0 x2 x1 u6.2) else f_X5_faultless_48 n (f_X5_faultless_4 n k) p0 x2 x1 u2.2)
def f_X5_faultless (n : Nat) (p0 : Nat) (M : vv_M) : Option (Int32 × vv_M) := f_X5_faultless_4 n  n p0 (0 : Int32) (0 : Int32) M
def f_X5_count (n : Nat) (p0 : Nat) (x1 : Int32) (M : vv_M) : Option (Int32 × vv_M) := if x1 = (0 : Int32) then if (52 : Int32) < 0 ∨ 13445 ≤ (52 : Int32).toNatClampNeg then none else some (M (p0 + 1) (52 : Int32).toNatClampNeg, M) else if x1 = (1 : Int32) then if (53 : Int32) < 0 ∨ 13445 ≤ (53 : Int32).toNatClampNeg then none else some (M (p0 + 1) (53 : Int32).toNatClampNeg, M) else if x1 = (2 : Int32) then (f_X5_many n p0 (0 : Int32) M).bind (fun (u6 : Int32 × vv_M) => some (u6.1, u6.2)) else if x1 = (3 : Int32) then (f_X5_many n p0 (1 : Int32) M).bind (fun (u8 : Int32 × vv_M) => some (u8.1, u8.2)) else if x1 = (4 : Int32) then (f_X5_faultless n p0 M).bind (fun (u10 : Int32 × vv_M) => some (u10.1, u10.2)) else if x1 = (5 : Int32) then (f_X5_many n p0 (2 : Int32) M).bind (fun (u12 : Int32 × vv_M) => some (u12.1, u12.2)) else if x1 = (6 : Int32) then (f_X5_belt n p0 M).bind (fun (u14 : Int32 × vv_M) => some (u14.1, u14.2)) else if x1 = (7 : Int32) then if (((48 : Int32) + x1) - (7 : Int32)) < 0 ∨ 13445 ≤ (((48 : Int32) + x1) - (7 : Int32)).toNatClampNeg then none else some (M (p0 + 1) (((48 : Int32) + x1) - (7 : Int32)).toNatClampNeg, M) else if x1 = (8 : Int32) then if (((48 : Int32) + x1) - (7 : Int32)) < 0 ∨ 13445 ≤ (((48 : Int32) + x1) - (7 : Int32)).toNatClampNeg then none else some (M (p0 + 1) (((48 : Int32) + x1) - (7 : Int32)).toNatClampNeg, M) else if x1 = (9 : Int32) then if (((48 : Int32) + x1) - (7 : Int32)) < 0 ∨ 13445 ≤ (((48 : Int32) + x1) - (7 : Int32)).toNatClampNeg then none else some (M (p0 + 1) (((48 : Int32) + x1) - (7 : Int32)).toNatClampNeg, M) else if x1 = (10 : Int32) then if (((48 : Int32) + x1) - (7 : Int32)) < 0 ∨ 13445 ≤ (((48 : Int32) + x1) - (7 : Int32)).toNatClampNeg then none else some (M (p0 + 1) (((48 : Int32) + x1) - (7 : Int32)).toNatClampNeg, M) else if x1 = (11 : Int32) then if (54 : Int32) < 0 ∨ 13445 ≤ (54 : Int32).toNatClampNeg then none else some (M (p0 + 1) (54 : Int32).toNatClampNeg, M) else if x1 = (12 : Int32) then if (55 : Int32) < 0 ∨ 13445 ≤ (55 : Int32).toNatClampNeg then none else some (M (p0 + 1) (55 : Int32).toNatClampNeg, M) else if x1 = (13 : Int32) then if (2121 : Int32) < 0 ∨ 13445 ≤ (2121 : Int32).toNatClampNeg then none else if (2122 : Int32) < 0 ∨ 13445 ≤ (2122 : Int32).toNatClampNeg then none else some ((M (p0 + 1) (2121 : Int32).toNatClampNeg) + (M (p0 + 1) (2122 : Int32).toNatClampNeg), M) else if x1 = (14 : Int32) then some (M p0 1, M) else if x1 = (15 : Int32) then some (M p0 3, M) else some ((-1001 : Int32), M)
def f_X5_firstCell_4 (n : Nat)  : Nat → Nat → Int32 → Int32 → Int32 → vv_M → Option (Int32 × vv_M)
  | 0, _, _, _, _, _ => none
  | k + 1, p0, x1, x2, x3, M => if x1 ≤ x3 then some (x2, M) else (f_X5_ofZone n x3 (0 : Int32) M).bind (fun (u2 : Int32 × vv_M) => if u2.1 < 0 ∨ 13445 ≤ u2.1.toNatClampNeg then none else vv_let (x2 + (u2.2 (p0 + 1) u2.1.toNatClampNeg)) (fun (y3 : Int32) => vv_let (x3 + (1 : Int32)) (fun (y4 : Int32) => (f_X5_firstCell_4 n k) p0 x1 y3 y4 u2.2)))
def f_X5_firstCell (n : Nat) (p0 : Nat) (x1 : Int32) (M : vv_M) : Option (Int32 × vv_M) := f_X5_firstCell_4 n  n p0 x1 (0 : Int32) (0 : Int32) M
def f_X5_boardsIn_47 (n : Nat) (k4 : Nat → Int32 → Int32 → Int32 → vv_M → Option (Int32 × vv_M)) (p0 : Nat) (x1 : Int32) (x3 : Int32) (s0 : Int32) (s1 : Int32) (M : vv_M) : Option (Int32 × vv_M) := vv_let (s0 + s1) (fun (y4 : Int32) => vv_let (x3 + (1 : Int32)) (fun (y5 : Int32) => k4 p0 x1 y4 y5 M))
def f_X5_boardsIn_46 (n : Nat) (k4 : Nat → Int32 → Int32 → Int32 → vv_M → Option (Int32 × vv_M)) (p0 : Nat) (x1 : Int32) (x3 : Int32) (s0 : Int32) (M : vv_M) : Option (Int32 × vv_M) := f_X5_boardsIn_47 n k4 p0 x1 x3 s0 (0 : Int32) M
def f_X5_boardsIn_4 (n : Nat)  : Nat → Nat → Int32 → Int32 → Int32 → vv_M → Option (Int32 × vv_M)
  | 0, _, _, _, _, _ => none
  | k + 1, p0, x1, x2, x3, M => if (53 : Int32) < 0 ∨ 13445 ≤ (53 : Int32).toNatClampNeg then none else if (M (p0 + 1) (53 : Int32).toNatClampNeg) ≤ x3 then some (x2, M) else (f_X5_isOn n p0 x3 M).bind (fun (u2 : Int32 × vv_M) => if u2.1 = 0 then f_X5_boardsIn_46 n (f_X5_boardsIn_4 n k) p0 x1 x3 x2 u2.2 else (f_X5_of n x3 (3 : Int32) u2.2).bind (fun (u6 : Int32 × vv_M) => if u6.1 < 0 ∨ 13445 ≤ u6.1.toNatClampNeg then none else (f_X5_zoneOf n p0 (u6.2 (p0 + 1) u6.1.toNatClampNeg) u6.2).bind (fun (u7 : Int32 × vv_M) => if u7.1 = x1 then f_X5_boardsIn_47 n (f_X5_boardsIn_4 n k) p0 x1 x3 x2 (1 : Int32) u7.2 else f_X5_boardsIn_46 n (f_X5_boardsIn_4 n k) p0 x1 x3 x2 u7.2)))
def f_X5_boardsIn (n : Nat) (p0 : Nat) (x1 : Int32) (M : vv_M) : Option (Int32 × vv_M) := f_X5_boardsIn_4 n  n p0 x1 (0 : Int32) (0 : Int32) M
def f_X5_zone (n : Nat) (p0 : Nat) (x1 : Int32) (x2 : Int32) (M : vv_M) : Option (Int32 × vv_M) := (f_X5_isZone n x1 M).bind (fun (u1 : Int32 × vv_M) => if u1.1 = 0 then some ((-1001 : Int32), u1.2) else (f_X5_in n x2 (0 : Int32) (6 : Int32) u1.2).bind (fun (u3 : Int32 × vv_M) => if u3.1 = 0 then some ((-1001 : Int32), u3.2) else if (4 : Int32) ≤ x2 then if x2 = (4 : Int32) then (f_X5_firstCell n p0 x1 u3.2).bind (fun (u10 : Int32 × vv_M) => some (u10.1, u10.2)) else if x2 = (5 : Int32) then (f_X5_boardsIn n p0 x1 u3.2).bind (fun (u9 : Int32 × vv_M) => some (u9.1, u9.2)) else (f_X5_weightsIn n p0 x1 u3.2).bind (fun (u8 : Int32 × vv_M) => some (u8.1, u8.2)) else (f_X5_ofZone n x1 x2 u3.2).bind (fun (u11 : Int32 × vv_M) => if u11.1 < 0 ∨ 13445 ≤ u11.1.toNatClampNeg then none else some (u11.2 (p0 + 1) u11.1.toNatClampNeg, u11.2))))
def f_X5_curve (n : Nat) (p0 : Nat) (x1 : Int32) (x2 : Int32) (M : vv_M) : Option (Int32 × vv_M) := (f_X5_isCurve n x1 M).bind (fun (u1 : Int32 × vv_M) => if u1.1 = 0 then some ((-1001 : Int32), u1.2) else (f_X5_in n x2 (0 : Int32) (5 : Int32) u1.2).bind (fun (u3 : Int32 × vv_M) => if u3.1 = 0 then some ((-1001 : Int32), u3.2) else (f_X5_ofCurve n x1 x2 u3.2).bind (fun (u5 : Int32 × vv_M) => if u5.1 < 0 ∨ 13445 ≤ u5.1.toNatClampNeg then none else some (u5.2 (p0 + 1) u5.1.toNatClampNeg, u5.2))))
def f_X5_board_41 (n : Nat)  (p0 : Nat) (x1 : Int32) (x2 : Int32) (M : vv_M) : Option (Int32 × vv_M) := (f_X5_of n x1 x2 M).bind (fun (u6 : Int32 × vv_M) => if u6.1 < 0 ∨ 13445 ≤ u6.1.toNatClampNeg then none else some (u6.2 (p0 + 1) u6.1.toNatClampNeg, u6.2))
def f_X5_board (n : Nat) (p0 : Nat) (x1 : Int32) (x2 : Int32) (M : vv_M) : Option (Int32 × vv_M) := (f_X5_isBoard n p0 x1 M).bind (fun (u1 : Int32 × vv_M) => if u1.1 = 0 then some ((-1001 : Int32), u1.2) else (f_X5_in n x2 (0 : Int32) (10 : Int32) u1.2).bind (fun (u3 : Int32 × vv_M) => if u3.1 = 0 then some ((-1001 : Int32), u3.2) else if x2 = (3 : Int32) then (f_X5_isOn n p0 x1 u3.2).bind (fun (u8 : Int32 × vv_M) => if u8.1 = 0 then some ((-1009 : Int32), u8.2) else f_X5_board_41 n  p0 x1 x2 u8.2) else f_X5_board_41 n  p0 x1 x2 u3.2))
def f_X5_hasFault (n : Nat) (p0 : Nat) (x1 : Int32) (x2 : Int32) (M : vv_M) : Option (Int32 × vv_M) := (f_X5_of n x1 (8 : Int32) M).bind (fun (u1 : Int32 × vv_M) => if u1.1 < 0 ∨ 13445 ≤ u1.1.toNatClampNeg then none else if (((u1.2 (p0 + 1) u1.1.toNatClampNeg) >>> (x2 &&& 31)) &&& (1 : Int32)) = (1 : Int32) then some ((1 : Int32), u1.2) else some ((0 : Int32), u1.2))
def f_X5_fault_55 (n : Nat)  (x2 : Int32) (s0 : Nat) (s1 : Int32) (s2 : Int32) (M : vv_M) : Option (Int32 × vv_M) := (f_X5_of n s1 (s2 + x2) M).bind (fun (u10 : Int32 × vv_M) => if u10.1 < 0 ∨ 13445 ≤ u10.1.toNatClampNeg then none else some (u10.2 s0 u10.1.toNatClampNeg, u10.2))
def f_X5_fault (n : Nat) (p0 : Nat) (x1 : Int32) (x2 : Int32) (x3 : Int32) (M : vv_M) : Option (Int32 × vv_M) := (f_X5_isBoard n p0 x1 M).bind (fun (u1 : Int32 × vv_M) => if u1.1 = 0 then some ((-1001 : Int32), u1.2) else (f_X5_in n x2 (0 : Int32) (4 : Int32) u1.2).bind (fun (u3 : Int32 × vv_M) => if u3.1 = 0 then some ((-1001 : Int32), u3.2) else (f_X5_in n x3 (0 : Int32) (1 : Int32) u3.2).bind (fun (u5 : Int32 × vv_M) => if u5.1 = 0 then some ((-1001 : Int32), u5.2) else (f_X5_hasFault n p0 x1 x2 u5.2).bind (fun (u7 : Int32 × vv_M) => if u7.1 = 0 then some ((-1009 : Int32), u7.2) else if x3 = 0 then f_X5_fault_55 n  x2 (p0 + 1) x1 (11 : Int32) u7.2 else f_X5_fault_55 n  x2 (p0 + 1) x1 (16 : Int32) u7.2))))
def f_X5_faultsIn_73 (n : Nat) (k5 : Nat → Int32 → Int32 → Int32 → Int32 → vv_M → Option (Int32 × vv_M)) (k20 : Nat → Int32 → Int32 → Int32 → Int32 → Int32 → vv_M → Option (Int32 × vv_M)) (p0 : Nat) (x1 : Int32) (x2 : Int32) (x4 : Int32) (x5 : Int32) (s0 : Int32) (s1 : Int32) (M : vv_M) : Option (Int32 × vv_M) := vv_let (s0 + s1) (fun (y7 : Int32) => vv_let (x5 + (1 : Int32)) (fun (y8 : Int32) => k20 p0 x1 x2 y7 x4 y8 M))
def f_X5_faultsIn_72 (n : Nat) (k5 : Nat → Int32 → Int32 → Int32 → Int32 → vv_M → Option (Int32 × vv_M)) (k20 : Nat → Int32 → Int32 → Int32 → Int32 → Int32 → vv_M → Option (Int32 × vv_M)) (p0 : Nat) (x1 : Int32) (x2 : Int32) (x4 : Int32) (x5 : Int32) (s0 : Int32) (M : vv_M) : Option (Int32 × vv_M) := f_X5_faultsIn_73 n k5 k20 p0 x1 x2 x4 x5 s0 (0 : Int32) M
def f_X5_faultsIn_38 (n : Nat) (k5 : Nat → Int32 → Int32 → Int32 → Int32 → vv_M → Option (Int32 × vv_M)) (k20 : Nat → Int32 → Int32 → Int32 → Int32 → Int32 → vv_M → Option (Int32 × vv_M)) (p0 : Nat) (x1 : Int32) (x2 : Int32) (x4 : Int32) (x5 : Int32) (s0 : Int32) (M : vv_M) : Option (Int32 × vv_M) := (f_X5_hasFault n p0 x4 x5 M).bind (fun (u5 : Int32 × vv_M) => if u5.1 = 0 then f_X5_faultsIn_72 n k5 k20 p0 x1 x2 x4 x5 s0 u5.2 else (f_X5_of n x4 ((11 : Int32) + x5) u5.2).bind (fun (u9 : Int32 × vv_M) => if u9.1 < 0 ∨ 13445 ≤ u9.1.toNatClampNeg then none else if (u9.2 (p0 + 1) u9.1.toNatClampNeg) = x1 then f_X5_faultsIn_73 n k5 k20 p0 x1 x2 x4 x5 s0 (1 : Int32) u9.2 else f_X5_faultsIn_72 n k5 k20 p0 x1 x2 x4 x5 s0 u9.2))
def f_X5_faultsIn_20 (n : Nat) (k5 : Nat → Int32 → Int32 → Int32 → Int32 → vv_M → Option (Int32 × vv_M)) : Nat → Nat → Int32 → Int32 → Int32 → Int32 → Int32 → vv_M → Option (Int32 × vv_M)
  | 0, _, _, _, _, _, _, _ => none
  | k + 1, p0, x1, x2, x3, x4, x5, M => if (5 : Int32) ≤ x5 then vv_let (x4 + (1 : Int32)) (fun (y3 : Int32) => k5 p0 x1 x2 x3 y3 M) else if x2 = (5 : Int32) then f_X5_faultsIn_38 n k5 (f_X5_faultsIn_20 n k5 k) p0 x1 x2 x4 x5 x3 M else if x5 = x2 then f_X5_faultsIn_38 n k5 (f_X5_faultsIn_20 n k5 k) p0 x1 x2 x4 x5 x3 M else f_X5_faultsIn_72 n k5 (f_X5_faultsIn_20 n k5 k) p0 x1 x2 x4 x5 x3 M
def f_X5_faultsIn_5 (n : Nat)  : Nat → Nat → Int32 → Int32 → Int32 → Int32 → vv_M → Option (Int32 × vv_M)
  | 0, _, _, _, _, _, _ => none
  | k + 1, p0, x1, x2, x3, x4, M => if (53 : Int32) < 0 ∨ 13445 ≤ (53 : Int32).toNatClampNeg then none else if (M (p0 + 1) (53 : Int32).toNatClampNeg) ≤ x4 then some (x3, M) else f_X5_faultsIn_20 n (f_X5_faultsIn_5 n k) n p0 x1 x2 x3 x4 (0 : Int32) M
def f_X5_faultsIn (n : Nat) (p0 : Nat) (x1 : Int32) (x2 : Int32) (M : vv_M) : Option (Int32 × vv_M) := f_X5_faultsIn_5 n  n p0 x1 x2 (0 : Int32) (0 : Int32) M
def f_X5_worstCell_76 (n : Nat) (k32 : Nat → Int32 → Int32 → Int32 → Int32 → Int32 → vv_M → Option (Int32 × vv_M)) (p0 : Nat) (x1 : Int32) (x2 : Int32) (x3 : Int32) (x5 : Int32) (s0 : Int32) (M : vv_M) : Option (Int32 × vv_M) := vv_let (x5 + (1 : Int32)) (fun (y11 : Int32) => k32 p0 x1 x2 x3 s0 y11 M)
def f_X5_worstCell_61 (n : Nat) (k32 : Nat → Int32 → Int32 → Int32 → Int32 → Int32 → vv_M → Option (Int32 × vv_M)) (p0 : Nat) (x1 : Int32) (x2 : Int32) (x4 : Int32) (x5 : Int32) (x6 : Int32) (s0 : Int32) (M : vv_M) : Option (Int32 × vv_M) := if x6 ≤ x4 then f_X5_worstCell_76 n k32 p0 x1 x2 s0 x5 x4 M else f_X5_worstCell_76 n k32 p0 x1 x2 s0 x5 x6 M
def f_X5_worstCell_32 (n : Nat)  : Nat → Nat → Int32 → Int32 → Int32 → Int32 → Int32 → vv_M → Option (Int32 × vv_M)
  | 0, _, _, _, _, _, _, _ => none
  | k + 1, p0, x1, x2, x3, x4, x5, M => if (49 : Int32) ≤ x5 then if x2 = 0 then some (x3, M) else some (x4, M) else (f_X5_faultsIn n p0 x5 x1 M).bind (fun (u7 : Int32 × vv_M) => vv_let u7.1 (fun (y8 : Int32) => if y8 ≤ x4 then f_X5_worstCell_61 n (f_X5_worstCell_32 n k) p0 x1 x2 x4 x5 y8 x3 u7.2 else f_X5_worstCell_61 n (f_X5_worstCell_32 n k) p0 x1 x2 x4 x5 y8 x5 u7.2))
def f_X5_worstCell (n : Nat) (p0 : Nat) (x1 : Int32) (x2 : Int32) (M : vv_M) : Option (Int32 × vv_M) := (f_X5_in n x1 (0 : Int32) (4 : Int32) M).bind (fun (u1 : Int32 × vv_M) => if u1.1 = 0 then some ((-1001 : Int32), u1.2) else (f_X5_in n x2 (0 : Int32) (1 : Int32) u1.2).bind (fun (u3 : Int32 × vv_M) => if u3.1 = 0 then some ((-1001 : Int32), u3.2) else f_X5_worstCell_32 n  n p0 x1 x2 (-1009 : Int32) (0 : Int32) (0 : Int32) u3.2))
def f_X5_faultCells_25 (n : Nat) (k4 : Nat → Int32 → Int32 → vv_M → Option (Int32 × vv_M)) (p0 : Nat) (x2 : Int32) (s0 : Int32) (s1 : Int32) (M : vv_M) : Option (Int32 × vv_M) := vv_let (s0 + s1) (fun (y4 : Int32) => vv_let (x2 + (1 : Int32)) (fun (y5 : Int32) => k4 p0 y4 y5 M))
def f_X5_faultCells_4 (n : Nat)  : Nat → Nat → Int32 → Int32 → vv_M → Option (Int32 × vv_M)
  | 0, _, _, _, _ => none
  | k + 1, p0, x1, x2, M => if (49 : Int32) ≤ x2 then some (x1, M) else (f_X5_faultsIn n p0 x2 (5 : Int32) M).bind (fun (u2 : Int32 × vv_M) => if u2.1 ≤ 0 then f_X5_faultCells_25 n (f_X5_faultCells_4 n k) p0 x2 x1 (0 : Int32) u2.2 else f_X5_faultCells_25 n (f_X5_faultCells_4 n k) p0 x2 x1 (1 : Int32) u2.2)
def f_X5_faultCells (n : Nat) (p0 : Nat) (M : vv_M) : Option (Int32 × vv_M) := f_X5_faultCells_4 n  n p0 (0 : Int32) (0 : Int32) M
def f_X5_ride_2 (n : Nat)  : Nat → Nat → Int32 → Int32 → vv_M → Option (Int32 × vv_M)
  | 0, _, _, _, _ => none
  | k + 1, p0, x1, x2, M => (f_X5_isOn n p0 x1 M).bind (fun (u1 : Int32 × vv_M) => if u1.1 = 0 then some (x2, u1.2) else (f_X5_tick n p0 u1.2).bind (fun (u3 : Unit × vv_M) => vv_let (x2 + (1 : Int32)) (fun (y4 : Int32) => (f_X5_ride_2 n k) p0 x1 y4 u3.2)))
def f_X5_ride (n : Nat) (p0 : Nat) (x1 : Int32) (M : vv_M) : Option (Int32 × vv_M) := f_X5_ride_2 n  n p0 x1 (0 : Int32) M
def f_X5_foretell_88 (n : Nat)  (p0 : Nat) (s0 : Int32) (M : vv_M) : Option (Int32 × vv_M) := (f_X5_copy n p0 (12738 : Int32) (0 : Int32) (707 : Int32) M).bind (fun (u14 : Unit × vv_M) => some (s0, u14.2))
def f_X5_foretell_84 (n : Nat)  (p0 : Nat) (s0 : Nat) (s1 : Int32) (s2 : Int32) (M : vv_M) : Option (Int32 × vv_M) := (f_X5_of n s1 s2 M).bind (fun (u13 : Int32 × vv_M) => if u13.1 < 0 ∨ 13445 ≤ u13.1.toNatClampNeg then none else f_X5_foretell_88 n  p0 (u13.2 s0 u13.1.toNatClampNeg) u13.2)
def f_X5_foretell_50 (n : Nat)  (p0 : Nat) (x1 : Int32) (x2 : Int32) (x3 : Int32) (M : vv_M) : Option (Int32 × vv_M) := if x2 = (2 : Int32) then f_X5_foretell_88 n  p0 x3 M else if x2 = 0 then f_X5_foretell_84 n  p0 (p0 + 1) x1 (8 : Int32) M else if x2 = (1 : Int32) then f_X5_foretell_84 n  p0 (p0 + 1) x1 (6 : Int32) M else f_X5_foretell_84 n  p0 (p0 + 1) x1 (4 : Int32) M
def f_X5_foretell (n : Nat) (p0 : Nat) (x1 : Int32) (x2 : Int32) (M : vv_M) : Option (Int32 × vv_M) := (f_X5_isBoard n p0 x1 M).bind (fun (u1 : Int32 × vv_M) => if u1.1 = 0 then some ((-1001 : Int32), u1.2) else (f_X5_in n x2 (0 : Int32) (3 : Int32) u1.2).bind (fun (u3 : Int32 × vv_M) => if u3.1 = 0 then some ((-1001 : Int32), u3.2) else (f_X5_isOn n p0 x1 u3.2).bind (fun (u5 : Int32 × vv_M) => if u5.1 = 0 then some ((-1002 : Int32), u5.2) else (f_X5_copy n p0 (0 : Int32) (12738 : Int32) (707 : Int32) u5.2).bind (fun (u7 : Unit × vv_M) => (f_X5_ride n p0 x1 u7.2).bind (fun (u8 : Int32 × vv_M) => vv_let u8.1 (fun (y9 : Int32) => f_X5_foretell_50 n  p0 x1 x2 y9 u8.2))))))
def f_X5_failsBy_62 (n : Nat)  (p0 : Nat) (x4 : Int32) (s0 : Nat) (s1 : Int32) (s2 : Int32) (M : vv_M) : Option (Int32 × vv_M) := if s1 < 0 ∨ 13445 ≤ s1.toNatClampNeg then none else vv_let (va_up M s0 (upd (M s0) s1.toNatClampNeg s2)) (fun (M9 : vv_M) => (f_X5_ride n p0 x4 M9).bind (fun (u10 : Int32 × vv_M) => (f_X5_of n x4 (8 : Int32) u10.2).bind (fun (u11 : Int32 × vv_M) => if u11.1 < 0 ∨ 13445 ≤ u11.1.toNatClampNeg then none else vv_let (u11.2 (p0 + 1) u11.1.toNatClampNeg) (fun (y12 : Int32) => (f_X5_copy n p0 (12738 : Int32) (0 : Int32) (707 : Int32) u11.2).bind (fun (u13 : Unit × vv_M) => some (y12, u13.2))))))
def f_X5_failsBy_40 (n : Nat)  (p0 : Nat) (x3 : Int32) (x4 : Int32) (s0 : Nat) (s1 : Int32) (s2 : Int32) (M : vv_M) : Option (Int32 × vv_M) := if s1 < 0 ∨ 13445 ≤ s1.toNatClampNeg then none else vv_let (va_up M s0 (upd (M s0) s1.toNatClampNeg s2)) (fun (M6 : vv_M) => if x3 ≤ 0 then if (48 : Int32) < 0 ∨ 13445 ≤ (48 : Int32).toNatClampNeg then none else f_X5_failsBy_62 n  p0 x4 (p0 + 1) (48 : Int32) (M6 (p0 + 1) (48 : Int32).toNatClampNeg) M6 else f_X5_failsBy_62 n  p0 x4 (p0 + 1) (48 : Int32) x3 M6)
def f_X5_failsBy (n : Nat) (p0 : Nat) (x1 : Int32) (x2 : Int32) (x3 : Int32) (M : vv_M) : Option (Int32 × vv_M) := (f_X5_copy n p0 (0 : Int32) (12738 : Int32) (707 : Int32) M).bind (fun (u1 : Unit × vv_M) => (f_X5_doLoad n p0 x1 x2 u1.2).bind (fun (u2 : Int32 × vv_M) => vv_let u2.1 (fun (y3 : Int32) => if x3 ≤ 0 then if (50 : Int32) < 0 ∨ 13445 ≤ (50 : Int32).toNatClampNeg then none else f_X5_failsBy_40 n  p0 x3 y3 (p0 + 1) (50 : Int32) (u2.2 (p0 + 1) (50 : Int32).toNatClampNeg) u2.2 else f_X5_failsBy_40 n  p0 x3 y3 (p0 + 1) (50 : Int32) (0 : Int32) u2.2)))
def f_X5_wouldFail (n : Nat) (p0 : Nat) (x1 : Int32) (x2 : Int32) (x3 : Int32) (M : vv_M) : Option (Int32 × vv_M) := (f_X5_isCurve n x1 M).bind (fun (u1 : Int32 × vv_M) => if u1.1 = 0 then some ((-1001 : Int32), u1.2) else (f_X5_in n x2 (1 : Int32) (9 : Int32) u1.2).bind (fun (u3 : Int32 × vv_M) => if u3.1 = 0 then some ((-1001 : Int32), u3.2) else (f_X5_in n x3 (0 : Int32) (3 : Int32) u3.2).bind (fun (u5 : Int32 × vv_M) => if u5.1 = 0 then some ((-1001 : Int32), u5.2) else (f_X5_failsBy n p0 x1 x2 x3 u5.2).bind (fun (u7 : Int32 × vv_M) => some (u7.1, u7.2)))))
def f_X5_heaviest_34 (n : Nat)  (x2 : Int32) (M : vv_M) : Option (Int32 × vv_M) := if x2 = 0 then some ((-1009 : Int32), M) else some (x2, M)
def f_X5_heaviest_14 (n : Nat)  : Nat → Nat → Int32 → Int32 → vv_M → Option (Int32 × vv_M)
  | 0, _, _, _, _ => none
  | k + 1, p0, x1, x2, M => if x2 ≤ 0 then f_X5_heaviest_34 n  x2 M else (f_X5_failsBy n p0 x1 x2 (0 : Int32) M).bind (fun (u5 : Int32 × vv_M) => if u5.1 = 0 then f_X5_heaviest_34 n  x2 u5.2 else vv_let (x2 + (-1 : Int32)) (fun (y7 : Int32) => (f_X5_heaviest_14 n k) p0 x1 y7 u5.2))
def f_X5_heaviest (n : Nat) (p0 : Nat) (x1 : Int32) (M : vv_M) : Option (Int32 × vv_M) := (f_X5_isCurve n x1 M).bind (fun (u1 : Int32 × vv_M) => if u1.1 = 0 then some ((-1001 : Int32), u1.2) else f_X5_heaviest_14 n  n p0 x1 (9 : Int32) u1.2)
def f_X5_room_13 (n : Nat)  : Nat → Nat → Int32 → vv_M → Option (Int32 × vv_M)
  | 0, _, _, _ => none
  | k + 1, p0, x1, M => (f_X5_hasRoom n p0 M).bind (fun (u2 : Int32 × vv_M) => if u2.1 = 0 then (f_X5_tick n p0 u2.2).bind (fun (u5 : Unit × vv_M) => vv_let (x1 + (1 : Int32)) (fun (y6 : Int32) => (f_X5_room_13 n k) p0 y6 u5.2)) else (f_X5_copy n p0 (12738 : Int32) (0 : Int32) (707 : Int32) u2.2).bind (fun (u4 : Unit × vv_M) => some (x1, u4.2)))
def f_X5_room (n : Nat) (p0 : Nat) (M : vv_M) : Option (Int32 × vv_M) := (f_X5_copy n p0 (0 : Int32) (12738 : Int32) (707 : Int32) M).bind (fun (u1 : Unit × vv_M) => f_X5_room_13 n  n p0 (0 : Int32) u1.2)
end
section
def f_L_law_779 (n : Nat) (sc : List Int32) (k18 : Nat → Nat → Int32 → vv_M → Option (Int32 × vv_M)) (p1 : Nat) (p2 : Nat) (x3 : Int32) (M : vv_M) : Option (Int32 × vv_M) := vv_let (x3 + (5 : Int32)) (fun (y6 : Int32) => k18 p1 p2 y6 M)
def f_L_law_18 (n : Nat) (sc : List Int32)  : Nat → Nat → Nat → Int32 → vv_M → Option (Int32 × vv_M)
  | 0, _, _, _, _ => none
  | k + 1, p1, p2, x3, M => if ((Int32.ofNat sc.length) - (5 : Int32)) < x3 then some ((1 : Int32), M) else if x3 < 0 ∨ sc.length ≤ x3.toNatClampNeg then none else if ((sc.getD x3.toNatClampNeg 0) &&& (31 : Int32)) = (0 : Int32) then if (x3 + (1 : Int32)) < 0 ∨ sc.length ≤ (x3 + (1 : Int32)).toNatClampNeg then none else if (x3 + (2 : Int32)) < 0 ∨ sc.length ≤ (x3 + (2 : Int32)).toNatClampNeg then none else if (x3 + (3 : Int32)) < 0 ∨ sc.length ≤ (x3 + (3 : Int32)).toNatClampNeg then none else if (x3 + (4 : Int32)) < 0 ∨ sc.length ≤ (x3 + (4 : Int32)).toNatClampNeg then none else (f_X4_setZone n p1 (sc.getD (x3 + (1 : Int32)).toNatClampNeg 0) (sc.getD (x3 + (2 : Int32)).toNatClampNeg 0) (sc.getD (x3 + (3 : Int32)).toNatClampNeg 0) (sc.getD (x3 + (4 : Int32)).toNatClampNeg 0) M).bind (fun (u3 : Int32 × vv_M) => if (x3 + (1 : Int32)) < 0 ∨ sc.length ≤ (x3 + (1 : Int32)).toNatClampNeg then none else if (x3 + (2 : Int32)) < 0 ∨ sc.length ≤ (x3 + (2 : Int32)).toNatClampNeg then none else if (x3 + (3 : Int32)) < 0 ∨ sc.length ≤ (x3 + (3 : Int32)).toNatClampNeg then none else if (x3 + (4 : Int32)) < 0 ∨ sc.length ≤ (x3 + (4 : Int32)).toNatClampNeg then none else (f_X5_setZone n p2 (sc.getD (x3 + (1 : Int32)).toNatClampNeg 0) (sc.getD (x3 + (2 : Int32)).toNatClampNeg 0) (sc.getD (x3 + (3 : Int32)).toNatClampNeg 0) (sc.getD (x3 + (4 : Int32)).toNatClampNeg 0) u3.2).bind (fun (u4 : Int32 × vv_M) => if u3.1 = u4.1 then f_L_law_779 n sc (f_L_law_18 n sc k) p1 p2 x3 u4.2 else some ((0 : Int32), u4.2))) else if ((sc.getD x3.toNatClampNeg 0) &&& (31 : Int32)) = (1 : Int32) then if (x3 + (1 : Int32)) < 0 ∨ sc.length ≤ (x3 + (1 : Int32)).toNatClampNeg then none else if (x3 + (2 : Int32)) < 0 ∨ sc.length ≤ (x3 + (2 : Int32)).toNatClampNeg then none else if (x3 + (3 : Int32)) < 0 ∨ sc.length ≤ (x3 + (3 : Int32)).toNatClampNeg then none else (f_X4_setCurve n p1 (sc.getD (x3 + (1 : Int32)).toNatClampNeg 0) (sc.getD (x3 + (2 : Int32)).toNatClampNeg 0) (sc.getD (x3 + (3 : Int32)).toNatClampNeg 0) M).bind (fun (u16 : Int32 × vv_M) => if (x3 + (1 : Int32)) < 0 ∨ sc.length ≤ (x3 + (1 : Int32)).toNatClampNeg then none else if (x3 + (2 : Int32)) < 0 ∨ sc.length ≤ (x3 + (2 : Int32)).toNatClampNeg then none else if (x3 + (3 : Int32)) < 0 ∨ sc.length ≤ (x3 + (3 : Int32)).toNatClampNeg then none else (f_X5_setCurve n p2 (sc.getD (x3 + (1 : Int32)).toNatClampNeg 0) (sc.getD (x3 + (2 : Int32)).toNatClampNeg 0) (sc.getD (x3 + (3 : Int32)).toNatClampNeg 0) u16.2).bind (fun (u17 : Int32 × vv_M) => if u16.1 = u17.1 then f_L_law_779 n sc (f_L_law_18 n sc k) p1 p2 x3 u17.2 else some ((0 : Int32), u17.2))) else if ((sc.getD x3.toNatClampNeg 0) &&& (31 : Int32)) = (2 : Int32) then if (x3 + (1 : Int32)) < 0 ∨ sc.length ≤ (x3 + (1 : Int32)).toNatClampNeg then none else if (x3 + (2 : Int32)) < 0 ∨ sc.length ≤ (x3 + (2 : Int32)).toNatClampNeg then none else (f_X4_set n p1 (sc.getD (x3 + (1 : Int32)).toNatClampNeg 0) (sc.getD (x3 + (2 : Int32)).toNatClampNeg 0) M).bind (fun (u26 : Int32 × vv_M) => if (x3 + (1 : Int32)) < 0 ∨ sc.length ≤ (x3 + (1 : Int32)).toNatClampNeg then none else if (x3 + (2 : Int32)) < 0 ∨ sc.length ≤ (x3 + (2 : Int32)).toNatClampNeg then none else (f_X5_set n p2 (sc.getD (x3 + (1 : Int32)).toNatClampNeg 0) (sc.getD (x3 + (2 : Int32)).toNatClampNeg 0) u26.2).bind (fun (u27 : Int32 × vv_M) => if u26.1 = u27.1 then f_L_law_779 n sc (f_L_law_18 n sc k) p1 p2 x3 u27.2 else some ((0 : Int32), u27.2))) else if ((sc.getD x3.toNatClampNeg 0) &&& (31 : Int32)) = (3 : Int32) then if (x3 + (1 : Int32)) < 0 ∨ sc.length ≤ (x3 + (1 : Int32)).toNatClampNeg then none else if (x3 + (2 : Int32)) < 0 ∨ sc.length ≤ (x3 + (2 : Int32)).toNatClampNeg then none else (f_X4_load n p1 (sc.getD (x3 + (1 : Int32)).toNatClampNeg 0) (sc.getD (x3 + (2 : Int32)).toNatClampNeg 0) M).bind (fun (u34 : Int32 × vv_M) => if (x3 + (1 : Int32)) < 0 ∨ sc.length ≤ (x3 + (1 : Int32)).toNatClampNeg then none else if (x3 + (2 : Int32)) < 0 ∨ sc.length ≤ (x3 + (2 : Int32)).toNatClampNeg then none else (f_X5_load n p2 (sc.getD (x3 + (1 : Int32)).toNatClampNeg 0) (sc.getD (x3 + (2 : Int32)).toNatClampNeg 0) u34.2).bind (fun (u35 : Int32 × vv_M) => if u34.1 = u35.1 then f_L_law_779 n sc (f_L_law_18 n sc k) p1 p2 x3 u35.2 else some ((0 : Int32), u35.2))) else if ((sc.getD x3.toNatClampNeg 0) &&& (31 : Int32)) = (4 : Int32) then if (x3 + (1 : Int32)) < 0 ∨ sc.length ≤ (x3 + (1 : Int32)).toNatClampNeg then none else (f_X4_takeOff n p1 (sc.getD (x3 + (1 : Int32)).toNatClampNeg 0) M).bind (fun (u42 : Int32 × vv_M) => if (x3 + (1 : Int32)) < 0 ∨ sc.length ≤ (x3 + (1 : Int32)).toNatClampNeg then none else (f_X5_takeOff n p2 (sc.getD (x3 + (1 : Int32)).toNatClampNeg 0) u42.2).bind (fun (u43 : Int32 × vv_M) => if u42.1 = u43.1 then f_L_law_779 n sc (f_L_law_18 n sc k) p1 p2 x3 u43.2 else some ((0 : Int32), u43.2))) else if ((sc.getD x3.toNatClampNeg 0) &&& (31 : Int32)) = (5 : Int32) then if (x3 + (1 : Int32)) < 0 ∨ sc.length ≤ (x3 + (1 : Int32)).toNatClampNeg then none else (f_X4_pass n p1 (sc.getD (x3 + (1 : Int32)).toNatClampNeg 0) M).bind (fun (u48 : Int32 × vv_M) => if (x3 + (1 : Int32)) < 0 ∨ sc.length ≤ (x3 + (1 : Int32)).toNatClampNeg then none else (f_X5_pass n p2 (sc.getD (x3 + (1 : Int32)).toNatClampNeg 0) u48.2).bind (fun (u49 : Int32 × vv_M) => if u48.1 = u49.1 then f_L_law_779 n sc (f_L_law_18 n sc k) p1 p2 x3 u49.2 else some ((0 : Int32), u49.2))) else if ((sc.getD x3.toNatClampNeg 0) &&& (31 : Int32)) = (6 : Int32) then if (x3 + (1 : Int32)) < 0 ∨ sc.length ≤ (x3 + (1 : Int32)).toNatClampNeg then none else (f_X4_take n p1 (sc.getD (x3 + (1 : Int32)).toNatClampNeg 0) M).bind (fun (u54 : Int32 × vv_M) => if (x3 + (1 : Int32)) < 0 ∨ sc.length ≤ (x3 + (1 : Int32)).toNatClampNeg then none else (f_X5_take n p2 (sc.getD (x3 + (1 : Int32)).toNatClampNeg 0) u54.2).bind (fun (u55 : Int32 × vv_M) => if u54.1 = u55.1 then f_L_law_779 n sc (f_L_law_18 n sc k) p1 p2 x3 u55.2 else some ((0 : Int32), u55.2))) else if ((sc.getD x3.toNatClampNeg 0) &&& (31 : Int32)) = (7 : Int32) then if (x3 + (1 : Int32)) < 0 ∨ sc.length ≤ (x3 + (1 : Int32)).toNatClampNeg then none else (f_X4_restore n p1 (sc.getD (x3 + (1 : Int32)).toNatClampNeg 0) M).bind (fun (u60 : Int32 × vv_M) => if (x3 + (1 : Int32)) < 0 ∨ sc.length ≤ (x3 + (1 : Int32)).toNatClampNeg then none else (f_X5_restore n p2 (sc.getD (x3 + (1 : Int32)).toNatClampNeg 0) u60.2).bind (fun (u61 : Int32 × vv_M) => if u60.1 = u61.1 then f_L_law_779 n sc (f_L_law_18 n sc k) p1 p2 x3 u61.2 else some ((0 : Int32), u61.2))) else if ((sc.getD x3.toNatClampNeg 0) &&& (31 : Int32)) = (8 : Int32) then (f_X4_undo n p1 M).bind (fun (u66 : Int32 × vv_M) => (f_X5_undo n p2 u66.2).bind (fun (u67 : Int32 × vv_M) => if u66.1 = u67.1 then f_L_law_779 n sc (f_L_law_18 n sc k) p1 p2 x3 u67.2 else some ((0 : Int32), u67.2))) else if ((sc.getD x3.toNatClampNeg 0) &&& (31 : Int32)) = (9 : Int32) then if (x3 + (1 : Int32)) < 0 ∨ sc.length ≤ (x3 + (1 : Int32)).toNatClampNeg then none else (f_X4_append n p1 (sc.getD (x3 + (1 : Int32)).toNatClampNeg 0) M).bind (fun (u70 : Int32 × vv_M) => if (x3 + (1 : Int32)) < 0 ∨ sc.length ≤ (x3 + (1 : Int32)).toNatClampNeg then none else (f_X5_append n p2 (sc.getD (x3 + (1 : Int32)).toNatClampNeg 0) u70.2).bind (fun (u71 : Int32 × vv_M) => if u70.1 = u71.1 then f_L_law_779 n sc (f_L_law_18 n sc k) p1 p2 x3 u71.2 else some ((0 : Int32), u71.2))) else if ((sc.getD x3.toNatClampNeg 0) &&& (31 : Int32)) = (10 : Int32) then (f_X4_clearText n p1 M).bind (fun (u76 : Int32 × vv_M) => (f_X5_clearText n p2 u76.2).bind (fun (u77 : Int32 × vv_M) => if u76.1 = u77.1 then f_L_law_779 n sc (f_L_law_18 n sc k) p1 p2 x3 u77.2 else some ((0 : Int32), u77.2))) else if ((sc.getD x3.toNatClampNeg 0) &&& (31 : Int32)) = (11 : Int32) then (f_X4_carryOut n p1 M).bind (fun (u80 : Int32 × vv_M) => (f_X5_carryOut n p2 u80.2).bind (fun (u81 : Int32 × vv_M) => if u80.1 = u81.1 then f_L_law_779 n sc (f_L_law_18 n sc k) p1 p2 x3 u81.2 else some ((0 : Int32), u81.2))) else if ((sc.getD x3.toNatClampNeg 0) &&& (31 : Int32)) = (12 : Int32) then if (x3 + (1 : Int32)) < 0 ∨ sc.length ≤ (x3 + (1 : Int32)).toNatClampNeg then none else (f_X4_count n p1 (sc.getD (x3 + (1 : Int32)).toNatClampNeg 0) M).bind (fun (u84 : Int32 × vv_M) => if (x3 + (1 : Int32)) < 0 ∨ sc.length ≤ (x3 + (1 : Int32)).toNatClampNeg then none else (f_X5_count n p2 (sc.getD (x3 + (1 : Int32)).toNatClampNeg 0) u84.2).bind (fun (u85 : Int32 × vv_M) => if u84.1 = u85.1 then f_L_law_779 n sc (f_L_law_18 n sc k) p1 p2 x3 u85.2 else some ((0 : Int32), u85.2))) else if ((sc.getD x3.toNatClampNeg 0) &&& (31 : Int32)) = (13 : Int32) then if (x3 + (1 : Int32)) < 0 ∨ sc.length ≤ (x3 + (1 : Int32)).toNatClampNeg then none else if (x3 + (2 : Int32)) < 0 ∨ sc.length ≤ (x3 + (2 : Int32)).toNatClampNeg then none else (f_X4_zone n p1 (sc.getD (x3 + (1 : Int32)).toNatClampNeg 0) (sc.getD (x3 + (2 : Int32)).toNatClampNeg 0) M).bind (fun (u90 : Int32 × vv_M) => if (x3 + (1 : Int32)) < 0 ∨ sc.length ≤ (x3 + (1 : Int32)).toNatClampNeg then none else if (x3 + (2 : Int32)) < 0 ∨ sc.length ≤ (x3 + (2 : Int32)).toNatClampNeg then none else (f_X5_zone n p2 (sc.getD (x3 + (1 : Int32)).toNatClampNeg 0) (sc.getD (x3 + (2 : Int32)).toNatClampNeg 0) u90.2).bind (fun (u91 : Int32 × vv_M) => if u90.1 = u91.1 then f_L_law_779 n sc (f_L_law_18 n sc k) p1 p2 x3 u91.2 else some ((0 : Int32), u91.2))) else if ((sc.getD x3.toNatClampNeg 0) &&& (31 : Int32)) = (14 : Int32) then if (x3 + (1 : Int32)) < 0 ∨ sc.length ≤ (x3 + (1 : Int32)).toNatClampNeg then none else if (x3 + (2 : Int32)) < 0 ∨ sc.length ≤ (x3 + (2 : Int32)).toNatClampNeg then none else (f_X4_curve n p1 (sc.getD (x3 + (1 : Int32)).toNatClampNeg 0) (sc.getD (x3 + (2 : Int32)).toNatClampNeg 0) M).bind (fun (u98 : Int32 × vv_M) => if (x3 + (1 : Int32)) < 0 ∨ sc.length ≤ (x3 + (1 : Int32)).toNatClampNeg then none else if (x3 + (2 : Int32)) < 0 ∨ sc.length ≤ (x3 + (2 : Int32)).toNatClampNeg then none else (f_X5_curve n p2 (sc.getD (x3 + (1 : Int32)).toNatClampNeg 0) (sc.getD (x3 + (2 : Int32)).toNatClampNeg 0) u98.2).bind (fun (u99 : Int32 × vv_M) => if u98.1 = u99.1 then f_L_law_779 n sc (f_L_law_18 n sc k) p1 p2 x3 u99.2 else some ((0 : Int32), u99.2))) else if ((sc.getD x3.toNatClampNeg 0) &&& (31 : Int32)) = (15 : Int32) then if (x3 + (1 : Int32)) < 0 ∨ sc.length ≤ (x3 + (1 : Int32)).toNatClampNeg then none else if (x3 + (2 : Int32)) < 0 ∨ sc.length ≤ (x3 + (2 : Int32)).toNatClampNeg then none else (f_X4_board n p1 (sc.getD (x3 + (1 : Int32)).toNatClampNeg 0) (sc.getD (x3 + (2 : Int32)).toNatClampNeg 0) M).bind (fun (u106 : Int32 × vv_M) => if (x3 + (1 : Int32)) < 0 ∨ sc.length ≤ (x3 + (1 : Int32)).toNatClampNeg then none else if (x3 + (2 : Int32)) < 0 ∨ sc.length ≤ (x3 + (2 : Int32)).toNatClampNeg then none else (f_X5_board n p2 (sc.getD (x3 + (1 : Int32)).toNatClampNeg 0) (sc.getD (x3 + (2 : Int32)).toNatClampNeg 0) u106.2).bind (fun (u107 : Int32 × vv_M) => if u106.1 = u107.1 then f_L_law_779 n sc (f_L_law_18 n sc k) p1 p2 x3 u107.2 else some ((0 : Int32), u107.2))) else if ((sc.getD x3.toNatClampNeg 0) &&& (31 : Int32)) = (16 : Int32) then if (x3 + (1 : Int32)) < 0 ∨ sc.length ≤ (x3 + (1 : Int32)).toNatClampNeg then none else if (x3 + (2 : Int32)) < 0 ∨ sc.length ≤ (x3 + (2 : Int32)).toNatClampNeg then none else if (x3 + (3 : Int32)) < 0 ∨ sc.length ≤ (x3 + (3 : Int32)).toNatClampNeg then none else (f_X4_fault n p1 (sc.getD (x3 + (1 : Int32)).toNatClampNeg 0) (sc.getD (x3 + (2 : Int32)).toNatClampNeg 0) (sc.getD (x3 + (3 : Int32)).toNatClampNeg 0) M).bind (fun (u114 : Int32 × vv_M) => if (x3 + (1 : Int32)) < 0 ∨ sc.length ≤ (x3 + (1 : Int32)).toNatClampNeg then none else if (x3 + (2 : Int32)) < 0 ∨ sc.length ≤ (x3 + (2 : Int32)).toNatClampNeg then none else if (x3 + (3 : Int32)) < 0 ∨ sc.length ≤ (x3 + (3 : Int32)).toNatClampNeg then none else (f_X5_fault n p2 (sc.getD (x3 + (1 : Int32)).toNatClampNeg 0) (sc.getD (x3 + (2 : Int32)).toNatClampNeg 0) (sc.getD (x3 + (3 : Int32)).toNatClampNeg 0) u114.2).bind (fun (u115 : Int32 × vv_M) => if u114.1 = u115.1 then f_L_law_779 n sc (f_L_law_18 n sc k) p1 p2 x3 u115.2 else some ((0 : Int32), u115.2))) else if ((sc.getD x3.toNatClampNeg 0) &&& (31 : Int32)) = (17 : Int32) then if (x3 + (1 : Int32)) < 0 ∨ sc.length ≤ (x3 + (1 : Int32)).toNatClampNeg then none else if (x3 + (2 : Int32)) < 0 ∨ sc.length ≤ (x3 + (2 : Int32)).toNatClampNeg then none else (f_X4_worstCell n p1 (sc.getD (x3 + (1 : Int32)).toNatClampNeg 0) (sc.getD (x3 + (2 : Int32)).toNatClampNeg 0) M).bind (fun (u124 : Int32 × vv_M) => if (x3 + (1 : Int32)) < 0 ∨ sc.length ≤ (x3 + (1 : Int32)).toNatClampNeg then none else if (x3 + (2 : Int32)) < 0 ∨ sc.length ≤ (x3 + (2 : Int32)).toNatClampNeg then none else (f_X5_worstCell n p2 (sc.getD (x3 + (1 : Int32)).toNatClampNeg 0) (sc.getD (x3 + (2 : Int32)).toNatClampNeg 0) u124.2).bind (fun (u125 : Int32 × vv_M) => if u124.1 = u125.1 then f_L_law_779 n sc (f_L_law_18 n sc k) p1 p2 x3 u125.2 else some ((0 : Int32), u125.2))) else if ((sc.getD x3.toNatClampNeg 0) &&& (31 : Int32)) = (18 : Int32) then (f_X4_faultCells n p1 M).bind (fun (u132 : Int32 × vv_M) => (f_X5_faultCells n p2 u132.2).bind (fun (u133 : Int32 × vv_M) => if u132.1 = u133.1 then f_L_law_779 n sc (f_L_law_18 n sc k) p1 p2 x3 u133.2 else some ((0 : Int32), u133.2))) else if ((sc.getD x3.toNatClampNeg 0) &&& (31 : Int32)) = (19 : Int32) then if (x3 + (1 : Int32)) < 0 ∨ sc.length ≤ (x3 + (1 : Int32)).toNatClampNeg then none else if (x3 + (2 : Int32)) < 0 ∨ sc.length ≤ (x3 + (2 : Int32)).toNatClampNeg then none else (f_X4_foretell n p1 (sc.getD (x3 + (1 : Int32)).toNatClampNeg 0) (sc.getD (x3 + (2 : Int32)).toNatClampNeg 0) M).bind (fun (u136 : Int32 × vv_M) => if (x3 + (1 : Int32)) < 0 ∨ sc.length ≤ (x3 + (1 : Int32)).toNatClampNeg then none else if (x3 + (2 : Int32)) < 0 ∨ sc.length ≤ (x3 + (2 : Int32)).toNatClampNeg then none else (f_X5_foretell n p2 (sc.getD (x3 + (1 : Int32)).toNatClampNeg 0) (sc.getD (x3 + (2 : Int32)).toNatClampNeg 0) u136.2).bind (fun (u137 : Int32 × vv_M) => if u136.1 = u137.1 then f_L_law_779 n sc (f_L_law_18 n sc k) p1 p2 x3 u137.2 else some ((0 : Int32), u137.2))) else if ((sc.getD x3.toNatClampNeg 0) &&& (31 : Int32)) = (20 : Int32) then if (x3 + (1 : Int32)) < 0 ∨ sc.length ≤ (x3 + (1 : Int32)).toNatClampNeg then none else if (x3 + (2 : Int32)) < 0 ∨ sc.length ≤ (x3 + (2 : Int32)).toNatClampNeg then none else if (x3 + (3 : Int32)) < 0 ∨ sc.length ≤ (x3 + (3 : Int32)).toNatClampNeg then none else (f_X4_wouldFail n p1 (sc.getD (x3 + (1 : Int32)).toNatClampNeg 0) (sc.getD (x3 + (2 : Int32)).toNatClampNeg 0) (sc.getD (x3 + (3 : Int32)).toNatClampNeg 0) M).bind (fun (u144 : Int32 × vv_M) => if (x3 + (1 : Int32)) < 0 ∨ sc.length ≤ (x3 + (1 : Int32)).toNatClampNeg then none else if (x3 + (2 : Int32)) < 0 ∨ sc.length ≤ (x3 + (2 : Int32)).toNatClampNeg then none else if (x3 + (3 : Int32)) < 0 ∨ sc.length ≤ (x3 + (3 : Int32)).toNatClampNeg then none else (f_X5_wouldFail n p2 (sc.getD (x3 + (1 : Int32)).toNatClampNeg 0) (sc.getD (x3 + (2 : Int32)).toNatClampNeg 0) (sc.getD (x3 + (3 : Int32)).toNatClampNeg 0) u144.2).bind (fun (u145 : Int32 × vv_M) => if u144.1 = u145.1 then f_L_law_779 n sc (f_L_law_18 n sc k) p1 p2 x3 u145.2 else some ((0 : Int32), u145.2))) else if ((sc.getD x3.toNatClampNeg 0) &&& (31 : Int32)) = (21 : Int32) then if (x3 + (1 : Int32)) < 0 ∨ sc.length ≤ (x3 + (1 : Int32)).toNatClampNeg then none else (f_X4_heaviest n p1 (sc.getD (x3 + (1 : Int32)).toNatClampNeg 0) M).bind (fun (u154 : Int32 × vv_M) => if (x3 + (1 : Int32)) < 0 ∨ sc.length ≤ (x3 + (1 : Int32)).toNatClampNeg then none else (f_X5_heaviest n p2 (sc.getD (x3 + (1 : Int32)).toNatClampNeg 0) u154.2).bind (fun (u155 : Int32 × vv_M) => if u154.1 = u155.1 then f_L_law_779 n sc (f_L_law_18 n sc k) p1 p2 x3 u155.2 else some ((0 : Int32), u155.2))) else if ((sc.getD x3.toNatClampNeg 0) &&& (31 : Int32)) = (22 : Int32) then (f_X4_room n p1 M).bind (fun (u160 : Int32 × vv_M) => (f_X5_room n p2 u160.2).bind (fun (u161 : Int32 × vv_M) => if u160.1 = u161.1 then f_L_law_779 n sc (f_L_law_18 n sc k) p1 p2 x3 u161.2 else some ((0 : Int32), u161.2))) else f_L_law_779 n sc (f_L_law_18 n sc k) p1 p2 x3 M
end
section
def f_X2_init_108 (n : Nat)  : Nat → Nat → Int32 → vv_M → Option (Unit × vv_M)
  | 0, _, _, _ => none
  | k + 1, p0, x1, M => if (4 : Int32) ≤ x1 then if (0 : Int32) < 0 then none else if (0 : Int32) < 0 then none else if (4 : Int32) < 0 then none else if 4 < (0 : Int32).toNatClampNeg + (4 : Int32).toNatClampNeg then none else if 4 < (0 : Int32).toNatClampNeg + (4 : Int32).toNatClampNeg then none else vv_let (va_up M (p0 + 3) (va_cpy (fun j => ([2, 3, 6, 1] : List Int32).getD j 0) (M (p0 + 3)) (0 : Int32).toNatClampNeg (0 : Int32).toNatClampNeg (4 : Int32).toNatClampNeg)) (fun (M3 : vv_M) => some ((), M3)) else if (0 : Int32) < 0 then none else if (x1 * (6 : Int32)) < 0 then none else if (6 : Int32) < 0 then none else if 6 < (0 : Int32).toNatClampNeg + (6 : Int32).toNatClampNeg then none else if 24 < (x1 * (6 : Int32)).toNatClampNeg + (6 : Int32).toNatClampNeg then none else vv_let (va_up M (p0 + 2) (va_cpy (fun j => ([40, 180, 2, 6, 190, 240] : List Int32).getD j 0) (M (p0 + 2)) (0 : Int32).toNatClampNeg (x1 * (6 : Int32)).toNatClampNeg (6 : Int32).toNatClampNeg)) (fun (M9 : vv_M) => vv_let (x1 + (1 : Int32)) (fun (y15 : Int32) => (f_X2_init_108 n k) p0 y15 M9))
def f_X2_init_100 (n : Nat) (k46 : Nat → Int32 → vv_M → Option (Unit × vv_M)) (p0 : Nat) (x1 : Int32) (M : vv_M) : Option (Unit × vv_M) := vv_let (x1 + (1 : Int32)) (fun (y25 : Int32) => k46 p0 y25 M)
def f_X2_init_46 (n : Nat)  : Nat → Nat → Int32 → vv_M → Option (Unit × vv_M)
  | 0, _, _, _ => none
  | k + 1, p0, x1, M => if (6 : Int32) ≤ x1 then f_X2_init_108 n  n p0 (0 : Int32) M else vv_let (x1 * (4 : Int32)) (fun (y16 : Int32) => if (y16 + (0 : Int32)) < 0 ∨ 24 ≤ (y16 + (0 : Int32)).toNatClampNeg then none else vv_let (va_up M (p0 + 1) (upd (M (p0 + 1)) (y16 + (0 : Int32)).toNatClampNeg (4 : Int32))) (fun (M18 : vv_M) => if x1 < 0 ∨ 6 ≤ x1.toNatClampNeg then none else if (y16 + (1 : Int32)) < 0 ∨ 24 ≤ (y16 + (1 : Int32)).toNatClampNeg then none else vv_let (va_up M18 (p0 + 1) (upd (M18 (p0 + 1)) (y16 + (1 : Int32)).toNatClampNeg (([120, 160, 180, 240, 230, 60] : List Int32).getD x1.toNatClampNeg 0))) (fun (M20 : vv_M) => if (y16 + (2 : Int32)) < 0 ∨ 24 ≤ (y16 + (2 : Int32)).toNatClampNeg then none else vv_let (va_up M20 (p0 + 1) (upd (M20 (p0 + 1)) (y16 + (2 : Int32)).toNatClampNeg (5 : Int32))) (fun (M22 : vv_M) => if x1 < 0 ∨ 6 ≤ x1.toNatClampNeg then none else if (y16 + (3 : Int32)) < 0 ∨ 24 ≤ (y16 + (3 : Int32)).toNatClampNeg then none else vv_let (va_up M22 (p0 + 1) (upd (M22 (p0 + 1)) (y16 + (3 : Int32)).toNatClampNeg (([120, 160, 180, 240, 230, 60] : List Int32).getD x1.toNatClampNeg 0))) (fun (M24 : vv_M) => f_X2_init_100 n (f_X2_init_46 n k) p0 x1 M24)))))
def f_X5_init_216 (n : Nat) (k137 : Nat → Int32 → vv_M → Option (Unit × vv_M)) (p0 : Nat) (x1 : Int32) (M : vv_M) : Option (Unit × vv_M) := vv_let (x1 + (1 : Int32)) (fun (y29 : Int32) => k137 p0 y29 M)
def f_X5_init_178 (n : Nat) (k137 : Nat → Int32 → vv_M → Option (Unit × vv_M)) (p0 : Nat) (x1 : Int32) (M : vv_M) : Option (Unit × vv_M) := (f_X5_ofCurve n x1 (3 : Int32) M).bind (fun (u20 : Int32 × vv_M) => if u20.1 < 0 ∨ 13445 ≤ u20.1.toNatClampNeg then none else vv_let (va_up u20.2 (p0 + 1) (upd (u20.2 (p0 + 1)) u20.1.toNatClampNeg (6 : Int32))) (fun (M22 : vv_M) => (f_X5_ofCurve n x1 (4 : Int32) M22).bind (fun (u23 : Int32 × vv_M) => if u23.1 < 0 ∨ 13445 ≤ u23.1.toNatClampNeg then none else vv_let (va_up u23.2 (p0 + 1) (upd (u23.2 (p0 + 1)) u23.1.toNatClampNeg (190 : Int32))) (fun (M25 : vv_M) => (f_X5_ofCurve n x1 (5 : Int32) M25).bind (fun (u26 : Int32 × vv_M) => if u26.1 < 0 ∨ 13445 ≤ u26.1.toNatClampNeg then none else vv_let (va_up u26.2 (p0 + 1) (upd (u26.2 (p0 + 1)) u26.1.toNatClampNeg (240 : Int32))) (fun (M28 : vv_M) => f_X5_init_216 n k137 p0 x1 M28))))))
def f_X5_init_137 (n : Nat)  : Nat → Nat → Int32 → vv_M → Option (Unit × vv_M)
  | 0, _, _, _ => none
  | k + 1, p0, x1, M => if (4 : Int32) ≤ x1 then if (48 : Int32) < 0 ∨ 13445 ≤ (48 : Int32).toNatClampNeg then none else vv_let (va_up M (p0 + 1) (upd (M (p0 + 1)) (48 : Int32).toNatClampNeg (2 : Int32))) (fun (M4 : vv_M) => if (49 : Int32) < 0 ∨ 13445 ≤ (49 : Int32).toNatClampNeg then none else vv_let (va_up M4 (p0 + 1) (upd (M4 (p0 + 1)) (49 : Int32).toNatClampNeg (3 : Int32))) (fun (M6 : vv_M) => if (50 : Int32) < 0 ∨ 13445 ≤ (50 : Int32).toNatClampNeg then none else vv_let (va_up M6 (p0 + 1) (upd (M6 (p0 + 1)) (50 : Int32).toNatClampNeg (6 : Int32))) (fun (M8 : vv_M) => if (51 : Int32) < 0 ∨ 13445 ≤ (51 : Int32).toNatClampNeg then none else vv_let (va_up M8 (p0 + 1) (upd (M8 (p0 + 1)) (51 : Int32).toNatClampNeg (1 : Int32))) (fun (M10 : vv_M) => some ((), M10))))) else (f_X5_ofCurve n x1 (0 : Int32) M).bind (fun (u11 : Int32 × vv_M) => if u11.1 < 0 ∨ 13445 ≤ u11.1.toNatClampNeg then none else vv_let (va_up u11.2 (p0 + 1) (upd (u11.2 (p0 + 1)) u11.1.toNatClampNeg (40 : Int32))) (fun (M13 : vv_M) => (f_X5_ofCurve n x1 (1 : Int32) M13).bind (fun (u14 : Int32 × vv_M) => if u14.1 < 0 ∨ 13445 ≤ u14.1.toNatClampNeg then none else vv_let (va_up u14.2 (p0 + 1) (upd (u14.2 (p0 + 1)) u14.1.toNatClampNeg (180 : Int32))) (fun (M16 : vv_M) => (f_X5_ofCurve n x1 (2 : Int32) M16).bind (fun (u17 : Int32 × vv_M) => if u17.1 < 0 ∨ 13445 ≤ u17.1.toNatClampNeg then none else vv_let (va_up u17.2 (p0 + 1) (upd (u17.2 (p0 + 1)) u17.1.toNatClampNeg (2 : Int32))) (fun (M19 : vv_M) => f_X5_init_178 n (f_X5_init_137 n k) p0 x1 M19))))))
def f_X5_init_132 (n : Nat) (k23 : Nat → Int32 → vv_M → Option (Unit × vv_M)) (p0 : Nat) (x1 : Int32) (M : vv_M) : Option (Unit × vv_M) := k23 p0 x1 M
def f_X5_init_107 (n : Nat) (k23 : Nat → Int32 → vv_M → Option (Unit × vv_M)) (p0 : Nat) (x1 : Int32) (x2 : Int32) (M : vv_M) : Option (Unit × vv_M) := (f_X5_ofZone n x1 (2 : Int32) M).bind (fun (u41 : Int32 × vv_M) => if u41.1 < 0 ∨ 13445 ≤ u41.1.toNatClampNeg then none else vv_let (va_up u41.2 (p0 + 1) (upd (u41.2 (p0 + 1)) u41.1.toNatClampNeg (5 : Int32))) (fun (M43 : vv_M) => (f_X5_ofZone n x1 (3 : Int32) M43).bind (fun (u44 : Int32 × vv_M) => if u44.1 < 0 ∨ 13445 ≤ u44.1.toNatClampNeg then none else vv_let (va_up u44.2 (p0 + 1) (upd (u44.2 (p0 + 1)) u44.1.toNatClampNeg x2)) (fun (M46 : vv_M) => vv_let (x1 + (1 : Int32)) (fun (y47 : Int32) => f_X5_init_132 n k23 p0 y47 M46)))))
def f_X5_init_84 (n : Nat) (k23 : Nat → Int32 → vv_M → Option (Unit × vv_M)) (p0 : Nat) (x1 : Int32) (s0 : Int32) (M : vv_M) : Option (Unit × vv_M) := (f_X5_ofZone n x1 (0 : Int32) M).bind (fun (u35 : Int32 × vv_M) => if u35.1 < 0 ∨ 13445 ≤ u35.1.toNatClampNeg then none else vv_let (va_up u35.2 (p0 + 1) (upd (u35.2 (p0 + 1)) u35.1.toNatClampNeg (4 : Int32))) (fun (M37 : vv_M) => (f_X5_ofZone n x1 (1 : Int32) M37).bind (fun (u38 : Int32 × vv_M) => if u38.1 < 0 ∨ 13445 ≤ u38.1.toNatClampNeg then none else vv_let (va_up u38.2 (p0 + 1) (upd (u38.2 (p0 + 1)) u38.1.toNatClampNeg s0)) (fun (M40 : vv_M) => f_X5_init_107 n k23 p0 x1 s0 M40))))
def f_X5_init_23 (n : Nat)  : Nat → Nat → Int32 → vv_M → Option (Unit × vv_M)
  | 0, _, _, _ => none
  | k + 1, p0, x1, M => if (6 : Int32) ≤ x1 then f_X5_init_137 n  n p0 (0 : Int32) M else if x1 = 0 then f_X5_init_84 n (f_X5_init_23 n k) p0 x1 (120 : Int32) M else if x1 = (1 : Int32) then f_X5_init_84 n (f_X5_init_23 n k) p0 x1 (160 : Int32) M else if x1 = (2 : Int32) then f_X5_init_84 n (f_X5_init_23 n k) p0 x1 (180 : Int32) M else if x1 = (3 : Int32) then f_X5_init_84 n (f_X5_init_23 n k) p0 x1 (240 : Int32) M else if x1 = (4 : Int32) then f_X5_init_84 n (f_X5_init_23 n k) p0 x1 (230 : Int32) M else f_X5_init_84 n (f_X5_init_23 n k) p0 x1 (60 : Int32) M
end
section
/-! numbers: indices as naturals -/
theorem ix_al (a k : Nat) : nI a + (no_index (OfNat.ofNat k) : Int32) = nI (a + OfNat.ofNat k) := nI_add a k
theorem ix_ar (a k : Nat) : (no_index (OfNat.ofNat k) : Int32) + nI a = nI (OfNat.ofNat k + a) := nI_add k a
theorem ix_ml (a k : Nat) : nI a * (no_index (OfNat.ofNat k) : Int32) = nI (a * OfNat.ofNat k) := pk_mul a k
theorem ix_mr (a k : Nat) : (no_index (OfNat.ofNat k) : Int32) * nI a = nI (OfNat.ofNat k * a) := pk_mul k a
theorem ix_sl {a k : Nat} (h : OfNat.ofNat k ≤ a) : nI a - (no_index (OfNat.ofNat k) : Int32) = nI (a - OfNat.ofNat k) := pk_sub h
theorem ix_gd {m N : Nat} (h : m < N) (hN : N < 2147483648) : (nI m < 0 ∨ N ≤ (nI m).toNatClampNeg) = False := eq_false (nI_in h (by omega))
theorem ix_cl {m : Nat} (h : m < 2147483648) : (nI m).toNatClampNeg = m := nI_clamp (by omega)
theorem ix_lk (k : Nat) : (no_index (OfNat.ofNat k) : Int32) = nI (OfNat.ofNat k) := (show (OfNat.ofNat k : Int32) = nI k ∧ True from ⟨rfl, trivial⟩).1
theorem ix_nge {m N : Nat} (h : m < N) : (N ≤ m) = False := eq_false (Nat.not_le.mpr h)
theorem ix_yle {m N : Nat} (h : N ≤ m) : (N ≤ m) = True := eq_true h
theorem ix_nlt {m N : Nat} (h : N ≤ m) : (m < N) = False := eq_false (Nat.not_lt.mpr h)
theorem ix_ylt {m N : Nat} (h : m < N) : (m < N) = True := eq_true h
theorem ix_l0 {k : Nat} (h : OfNat.ofNat k < 2147483648) : ((no_index (OfNat.ofNat k) : Int32) < 0) = False := eq_false (nI_pos (n := k) (by have : (OfNat.ofNat k : Nat) = k := rfl; omega))
theorem ix_n0 {m : Nat} (h : m < 2147483648) : (nI m < 0) = False := eq_false (nI_pos (by omega))
theorem ix_lt {a b : Nat} (ha : a < 2147483648) (hb : b < 2147483648) : (nI a < nI b) = (a < b) := propext (nI_ltI (by omega) (by omega))
theorem ix_le {a b : Nat} (ha : a < 2147483648) (hb : b < 2147483648) : (nI a ≤ nI b) = (a ≤ b) := propext (nI_leI (by omega) (by omega))
theorem ix_eq {a b : Nat} (ha : a < 2147483648) (hb : b < 2147483648) : (nI a = nI b) = (a = b) := propext (nI_eq (by omega) (by omega))
theorem ix_ltl {k b : Nat} (ha : OfNat.ofNat k < 2147483648) (hb : b < 2147483648) : ((no_index (OfNat.ofNat k) : Int32) < nI b) = (OfNat.ofNat k < b) := ix_lt ha hb
theorem ix_ltr {a k : Nat} (ha : a < 2147483648) (hb : OfNat.ofNat k < 2147483648) : (nI a < (no_index (OfNat.ofNat k) : Int32)) = (a < OfNat.ofNat k) := ix_lt ha hb
theorem ix_lel {k b : Nat} (ha : OfNat.ofNat k < 2147483648) (hb : b < 2147483648) : ((no_index (OfNat.ofNat k) : Int32) ≤ nI b) = (OfNat.ofNat k ≤ b) := ix_le ha hb
theorem ix_ler {a k : Nat} (ha : a < 2147483648) (hb : OfNat.ofNat k < 2147483648) : (nI a ≤ (no_index (OfNat.ofNat k) : Int32)) = (a ≤ OfNat.ofNat k) := ix_le ha hb
theorem ix_eql {k b : Nat} (ha : OfNat.ofNat k < 2147483648) (hb : b < 2147483648) : ((no_index (OfNat.ofNat k) : Int32) = nI b) = (OfNat.ofNat k = b) := ix_eq ha hb
theorem ix_eqr {a k : Nat} (ha : a < 2147483648) (hb : OfNat.ofNat k < 2147483648) : (nI a = (no_index (OfNat.ofNat k) : Int32)) = (a = OfNat.ofNat k) := ix_eq ha hb
theorem ix_gdl {k N : Nat} (h : OfNat.ofNat k < N) (hN : N < 2147483648) : ((no_index (OfNat.ofNat k) : Int32) < 0 ∨ N ≤ (no_index (OfNat.ofNat k) : Int32).toNatClampNeg) = False := ix_gd h hN
theorem ix_cll {k : Nat} (h : OfNat.ofNat k < 2147483648) : (no_index (OfNat.ofNat k) : Int32).toNatClampNeg = OfNat.ofNat k := ix_cl h
theorem ix_let {α β : Type} (a : α) (f : α → β) : vv_let a f = f a := (show vv_let a f = f a ∧ True from ⟨rfl, trivial⟩).1
theorem ix_bs {α β : Type} (a : α) (f : α → Option β) : (some a).bind f = f a := (show (some a).bind f = f a ∧ True from ⟨rfl, trivial⟩).1
/-! rows -/
theorem up_s {α : Type} (f : Nat → α) (k : Nat) (v : α) : va_up f k v k = v := if_pos rfl
theorem up_n {α : Type} {f : Nat → α} {k j : Nat} {v : α} (h : j ≠ k) : va_up f k v j = f j := if_neg h
theorem ud_s (f : Nat → Int32) (k : Nat) (v : Int32) : upd f k v k = v := if_pos rfl
theorem ud_n {f : Nat → Int32} {k j : Nat} {v : Int32} (h : j ≠ k) : upd f k v j = f j := if_neg h
theorem up_id {α : Type} (f : Nat → α) (k : Nat) : va_up f k (f k) = f := by
  funext j
  unfold va_up
  by_cases h : j = k
  · rw [if_pos h, h]
  · rw [if_neg h]

def zi (c : Prop) [Decidable c] : Int32 := if c then 1 else 0
theorem zi_0 {c : Prop} [Decidable c] : (zi c = 0) = ¬ c := by
  unfold zi
  by_cases h : c
  · rw [if_pos h]; simp [h]
  · rw [if_neg h]; simp [h]
theorem zi_1 {c : Prop} [Decidable c] : (zi c = 1) = c := by
  unfold zi
  by_cases h : c
  · rw [if_pos h]; simp [h]
  · rw [if_neg h]; simp [h]
theorem zi_01 {c : Prop} [Decidable c] : (zi c = 0 ∨ zi c = 1) = True := by
  unfold zi
  by_cases h : c
  · rw [if_pos h]; simp
  · rw [if_neg h]; simp
theorem zi_t {c : Prop} [Decidable c] (h : c) : zi c = 1 := if_pos h
theorem zi_f {c : Prop} [Decidable c] (h : ¬ c) : zi c = 0 := if_neg h
theorem bnd {α β : Type} {o : Option α} {a : α} (h : o = some a) {f : α → Option β} : o.bind f = f a := by rw [h]; rfl
theorem ife {c : Prop} [Decidable c] {α : Type} {a b d : α} (h1 : c → a = d) (h2 : ¬ c → b = d) : (if c then a else b) = d := by
  by_cases h : c
  · rw [if_pos h]; exact h1 h
  · rw [if_neg h]; exact h2 h
end
section
/-! THE REFERENCE: its small methods -/
theorem r_in (n : Nat) (x lo hi : Int32) (M : vv_M) : f_X5_in n x lo hi M = some (zi (lo ≤ x ∧ x ≤ hi), M) := by
  unfold f_X5_in
  by_cases h1 : x < lo
  · rw [if_pos h1, zi_f (fun h => absurd h.1 (Int32.not_le.mpr h1))]
  · rw [if_neg h1]
    by_cases h2 : hi < x
    · rw [if_pos h2, zi_f (fun h => absurd h.2 (Int32.not_le.mpr h2))]
    · rw [if_neg h2, zi_t ⟨Int32.not_lt.mp h1, Int32.not_lt.mp h2⟩]
theorem c_in (n : Nat) (x lo hi : Int32) (M : vv_M) : f_X4_isWithin n x lo hi M = some (zi (lo ≤ x ∧ x ≤ hi), M) := r_in n x lo hi M
theorem r_of (n b k : Nat) (M : vv_M) : f_X5_of n (nI b) (no_index (OfNat.ofNat k)) M = some (nI (56 + 21 * b + OfNat.ofNat k), M) := by
  unfold f_X5_of
  rw [ix_mr, ix_ar, ix_al]
theorem r_ofZ (n b k : Nat) (M : vv_M) : f_X5_ofZone n (nI b) (no_index (OfNat.ofNat k)) M = some (nI (0 + 4 * b + OfNat.ofNat k), M) := by
  unfold f_X5_ofZone
  rw [ix_mr, ix_ar, ix_al]
theorem r_ofC (n b k : Nat) (M : vv_M) : f_X5_ofCurve n (nI b) (no_index (OfNat.ofNat k)) M = some (nI (24 + 6 * b + OfNat.ofNat k), M) := by
  unfold f_X5_ofCurve
  rw [ix_mr, ix_ar, ix_al]
theorem r_isZone (n : Nat) (x : Int32) (M : vv_M) : f_X5_isZone n x M = some (zi (0 ≤ x ∧ x ≤ 5), M) := by
  unfold f_X5_isZone
  simp only [r_in, ix_bs, zi_01, if_true]
theorem r_isCurve (n : Nat) (x : Int32) (M : vv_M) : f_X5_isCurve n x M = some (zi (0 ≤ x ∧ x ≤ 3), M) := by
  unfold f_X5_isCurve
  simp only [r_in, ix_bs, zi_01, if_true]
theorem r_isBoard (n p : Nat) (x : Int32) (M : vv_M) : f_X5_isBoard n p x M = some (zi (0 ≤ x ∧ x ≤ M (p + 1) 53 - 1), M) := by
  unfold f_X5_isBoard
  simp (disch := omega) only [r_in, ix_bs, zi_01, if_true, ix_cll, ix_l0, ix_nge, or_self, if_false]
theorem r_isOn {n p b : Nat} (hb : b ≤ 31) (M : vv_M) : f_X5_isOn n p (nI b) M = some (zi (M (p + 1) (56 + 21 * b + 2) = 0), M) := by
  unfold f_X5_isOn
  simp (disch := omega) only [r_of, ix_bs, ix_gd, ix_cl, ix_n0, ix_nge, or_self, if_false]
  unfold zi
  by_cases h : M (p + 1) (56 + 21 * b + 2) = 0
  · rw [if_pos h, if_pos h]
  · rw [if_neg h, if_neg h]

theorem r_in_b {β : Type} {n : Nat} {x lo hi : Int32} {M : vv_M} {f : Int32 × vv_M → Option β} : (f_X5_in n x lo hi M).bind f = f (zi (lo ≤ x ∧ x ≤ hi), M) := bnd (r_in n x lo hi M)
theorem c_in_b {β : Type} {n : Nat} {x lo hi : Int32} {M : vv_M} {f : Int32 × vv_M → Option β} : (f_X4_isWithin n x lo hi M).bind f = f (zi (lo ≤ x ∧ x ≤ hi), M) := bnd (c_in n x lo hi M)
theorem r_of_b {β : Type} {n b k : Nat} {M : vv_M} {f : Int32 × vv_M → Option β} : (f_X5_of n (nI b) (no_index (OfNat.ofNat k)) M).bind f = f (nI (56 + 21 * b + OfNat.ofNat k), M) := bnd (r_of n b k M)
theorem r_ofZ_b {β : Type} {n b k : Nat} {M : vv_M} {f : Int32 × vv_M → Option β} : (f_X5_ofZone n (nI b) (no_index (OfNat.ofNat k)) M).bind f = f (nI (0 + 4 * b + OfNat.ofNat k), M) := bnd (r_ofZ n b k M)
theorem r_ofC_b {β : Type} {n b k : Nat} {M : vv_M} {f : Int32 × vv_M → Option β} : (f_X5_ofCurve n (nI b) (no_index (OfNat.ofNat k)) M).bind f = f (nI (24 + 6 * b + OfNat.ofNat k), M) := bnd (r_ofC n b k M)
theorem r_isZone_b {β : Type} {n : Nat} {x : Int32} {M : vv_M} {f : Int32 × vv_M → Option β} : (f_X5_isZone n x M).bind f = f (zi (0 ≤ x ∧ x ≤ 5), M) := bnd (r_isZone n x M)
theorem r_isCurve_b {β : Type} {n : Nat} {x : Int32} {M : vv_M} {f : Int32 × vv_M → Option β} : (f_X5_isCurve n x M).bind f = f (zi (0 ≤ x ∧ x ≤ 3), M) := bnd (r_isCurve n x M)
theorem r_isBoard_b {β : Type} {n p : Nat} {x : Int32} {M : vv_M} {f : Int32 × vv_M → Option β} : (f_X5_isBoard n p x M).bind f = f (zi (0 ≤ x ∧ x ≤ M (p + 1) 53 - 1), M) := bnd (r_isBoard n p x M)
end
section

theorem ix_ll (a k : Nat) : (no_index (OfNat.ofNat a) : Int32) + nI k = nI (OfNat.ofNat a + k) := ix_ar k a
theorem ud_ne {f : Nat → Int32} {k j : Nat} {v : Int32} (h : j ≠ k) : upd f k v j = f j := if_neg h
theorem r_ofn (n b j : Nat) (M : vv_M) : f_X5_of n (nI b) (nI j) M = some (nI (56 + 21 * b + j), M) := by
  unfold f_X5_of
  rw [ix_mr, ix_ar, nI_add]
abbrev gbit (x : Int32) (k : Nat) : Prop := ¬ (((x >>> (nI k &&& 31)) &&& 1) = 0)
def pit {α : Type} (F : Nat → α → α) : Nat → α → α
  | 0, a => a
  | b + 1, a => F b (pit F b a)
/-! the pure picture: g is the reference's row, its first 707 places are the oven -/
def gBelt (g : Nat → Int32) : Int32 := (((((0 + g (0 + 4 * 0 + 0)) + g (0 + 4 * 1 + 0)) + g (0 + 4 * 2 + 0)) + g (0 + 4 * 3 + 0)) + g (0 + 4 * 4 + 0)) + g (0 + 4 * 5 + 0)
def gMany (g : Nat → Int32) (s : Int32) (l : Nat) : Int32 := pit (fun b a => a + if g (56 + 21 * b + 2) = s then 1 else 0) l 0
def gFault (g : Nat → Int32) (x : Int32) (b k : Nat) (c : Int32) : Nat → Int32 := if x = 0 then g else if gbit (g (56 + 21 * b + 8)) k then g else upd (upd (upd g (56 + 21 * b + 8) (g (56 + 21 * b + 8) ||| ((1 : Int32) <<< (nI k &&& 31)))) (56 + 21 * b + (11 + k)) c) (56 + 21 * b + (16 + k)) (g 52)
theorem r_belt {n p : Nat} (hn : 7 ≤ n) (M : vv_M) : f_X5_belt n p M = some (gBelt (M (p + 1)), M) := by
  have st : ∀ (k z : Nat) (x : Int32), z < 6 → f_X5_belt_4 n (k + 1) p x (nI z) M = f_X5_belt_4 n k p (x + M (p + 1) (0 + 4 * z + 0)) (nI (z + 1)) M := by
    intro k z x hz
    rw [f_X5_belt_4.eq_2]
    simp (disch := omega) only [ix_al, ix_ar, ix_ml, ix_mr, ix_cl, ix_cll, ix_n0, ix_l0, ix_nge, or_self, if_false, if_true, ix_let, ix_bs, up_s, bx_uu, r_ofZ, ix_lel]
  obtain ⟨m, rfl⟩ : ∃ m, n = m + 7 := ⟨n - 7, by omega⟩
  unfold f_X5_belt
  show f_X5_belt_4 (m + 7) (m + 6 + 1) p 0 (nI 0) M = _
  rw [st _ 0 _ (by omega), st _ 1 _ (by omega), st _ 2 _ (by omega), st _ 3 _ (by omega), st _ 4 _ (by omega), st _ 5 _ (by omega), f_X5_belt_4.eq_2]
  rfl
theorem r_many {n p l : Nat} (s : Int32) (M : vv_M) (hl : M (p + 1) 53 = nI l) (h31 : l ≤ 31) (hn : 40 ≤ n) : f_X5_many n p s M = some (gMany (M (p + 1)) s l, M) := by
  have st : ∀ (j b k : Nat) (x : Int32), b + j = l → j < k → x = gMany (M (p + 1)) s b → f_X5_many_4 n k p s x (nI b) M = some (gMany (M (p + 1)) s l, M) := by
    intro j
    induction j with
    | zero =>
      intro b k x hb hk hx
      obtain ⟨k, rfl⟩ : ∃ q, k = q + 1 := ⟨k - 1, by omega⟩
      obtain rfl : b = l := by omega
      rw [f_X5_many_4.eq_2]
      simp (disch := omega) only [ix_al, ix_ar, ix_ml, ix_mr, ix_cl, ix_cll, ix_n0, ix_l0, ix_nge, or_self, if_false, if_true, ix_let, ix_bs, up_s, bx_uu, hl, ix_le, Nat.le_refl, hx]
    | succ j ih =>
      intro b k x hb hk hx
      obtain ⟨k, rfl⟩ : ∃ q, k = q + 1 := ⟨k - 1, by omega⟩
      rw [f_X5_many_4.eq_2]
      simp (disch := omega) only [ix_al, ix_ar, ix_ml, ix_mr, ix_cl, ix_cll, ix_n0, ix_l0, ix_nge, or_self, if_false, if_true, ix_let, ix_bs, up_s, bx_uu, hl, ix_le, r_of, f_X5_many_35]
      by_cases h : M (p + 1) (56 + 21 * b + 2) = s
      · rw [if_pos h]
        exact ih (b + 1) k _ (by omega) (by omega) (by show _ = gMany _ _ b + if M (p + 1) (56 + 21 * b + 2) = s then 1 else 0; rw [if_pos h, hx])
      · rw [if_neg h]
        exact ih (b + 1) k _ (by omega) (by omega) (by show _ = gMany _ _ b + if M (p + 1) (56 + 21 * b + 2) = s then 1 else 0; rw [if_neg h, hx])
  exact st l 0 n 0 (by omega) (by omega) rfl
theorem r_faultn {n p b k : Nat} (x c : Int32) (M : vv_M) (hb : b ≤ 31) (hk : k < 5) : f_X5_faultIf n p x (nI b) (nI k) c M = some ((), va_up M (p + 1) (gFault (M (p + 1)) x b k c)) := by
  unfold f_X5_faultIf gFault
  by_cases hx : x = 0
  · rw [if_pos hx, if_pos hx, up_id]
  · rw [if_neg hx, if_neg hx]
    simp (disch := omega) only [ix_al, ix_ar, ix_ml, ix_mr, ix_cl, ix_cll, ix_n0, ix_l0, ix_nge, or_self, if_false, if_true, ix_let, ix_bs, up_s, bx_uu, r_of, r_ofn, ix_ll, ud_ne, f_X5_faultIf_54]
    by_cases h : ((M (p + 1) (56 + 21 * b + 8)) >>> (nI k &&& 31)) &&& 1 = 0
    · rw [if_pos h, if_neg (not_not_intro h)]
    · rw [if_neg h, if_pos h, up_id]
theorem r_fault {n p b k : Nat} (x c : Int32) (M : vv_M) (hb : b ≤ 31) (hk : OfNat.ofNat k < 5) : f_X5_faultIf n p x (nI b) (no_index (OfNat.ofNat k)) c M = some ((), va_up M (p + 1) (gFault (M (p + 1)) x b (OfNat.ofNat k) c)) := r_faultn x c M hb hk
theorem r_curveOf {n p b k c : Nat} (M : vv_M) (hb : b ≤ 31) (hk : OfNat.ofNat k < 6) (hc : M (p + 1) (56 + 21 * b + 0) = nI c) (h4 : c < 4) : f_X5_curveOf n p (nI b) (no_index (OfNat.ofNat k)) M = some (M (p + 1) (24 + 6 * c + OfNat.ofNat k), M) := by
  unfold f_X5_curveOf
  simp (disch := omega) only [ix_al, ix_ar, ix_ml, ix_mr, ix_cl, ix_cll, ix_n0, ix_l0, ix_nge, or_self, if_false, if_true, ix_let, ix_bs, up_s, bx_uu, r_of, r_ofC, hc]
end
section

def gln (g : Nat → Int32) (z : Nat) : Nat := (g (0 + 4 * z + 0)).toNatClampNeg
def gPre (g : Nat → Int32) : Nat → Nat
  | 0 => 0
  | z + 1 => gPre g z + gln g z
def gZone (g : Nat → Int32) (c : Nat) : Nat := if c < gPre g 1 then 0 else if c < gPre g 2 then 1 else if c < gPre g 3 then 2 else if c < gPre g 4 then 3 else if c < gPre g 5 then 4 else 5
def gcell (g : Nat → Int32) (b : Nat) : Nat := (g (56 + 21 * b + 3)).toNatClampNeg
def gLen (g : Nat → Int32) : Prop := ∀ z, z < 6 → g (0 + 4 * z + 0) = nI (gln g z) ∧ 2 ≤ gln g z ∧ gln g z ≤ 8
def gBrd (g : Nat → Int32) (b : Nat) : Prop := (∃ c, c < 4 ∧ g (56 + 21 * b + 0) = nI c) ∧ (∃ w, 1 ≤ w ∧ w ≤ 9 ∧ g (56 + 21 * b + 1) = nI w) ∧ (g (56 + 21 * b + 2) = 0 → g (56 + 21 * b + 3) = nI (gcell g b) ∧ gcell g b < gPre g 6) ∧ ∀ k, k < 5 → gbit (g (56 + 21 * b + 8)) k → ∃ c, c ≤ 48 ∧ g (56 + 21 * b + (11 + k)) = nI c
def gInv (g : Nat → Int32) (l : Nat) : Prop := gLen g ∧ g 53 = nI l ∧ l ≤ 31 ∧ (∃ s, g 48 = nI s ∧ 1 ≤ s ∧ s ≤ 3) ∧ (∃ a, g 49 = nI a ∧ 1 ≤ a ∧ a ≤ 20) ∧ ∀ b, b < l → gBrd g b
theorem gPre_6 {g : Nat → Int32} (h : gLen g) : gPre g 6 ≤ 48 ∧ 12 ≤ gPre g 6 := by
  have h0 := (h 0 (by omega)).2
  have h1 := (h 1 (by omega)).2
  have h2 := (h 2 (by omega)).2
  have h3 := (h 3 (by omega)).2
  have h4 := (h 4 (by omega)).2
  have h5 := (h 5 (by omega)).2
  simp only [gPre]
  omega
theorem gBelt_nI {g : Nat → Int32} (h : gLen g) : gBelt g = nI (gPre g 6) := by
  have h0 := (h 0 (by omega)).1
  have h1 := (h 1 (by omega)).1
  have h2 := (h 2 (by omega)).1
  have h3 := (h 3 (by omega)).1
  have h4 := (h 4 (by omega)).1
  have h5 := (h 5 (by omega)).1
  unfold gBelt
  rw [h0, h1, h2, h3, h4, h5]
  simp only [gPre, ix_ar, nI_add]
theorem gZone_eq {g : Nat → Int32} {z c : Nat} (hz : z < 6) (h1 : gPre g z ≤ c) (h2 : c < gPre g (z + 1)) : gZone g c = z := by
  unfold gZone
  rcases (show z = 0 ∨ z = 1 ∨ z = 2 ∨ z = 3 ∨ z = 4 ∨ z = 5 by omega) with rfl | rfl | rfl | rfl | rfl | rfl <;> simp only [gPre] at h1 h2 ⊢ <;> simp (disch := omega) only [ix_ylt, ix_nlt, if_true, if_false]
theorem gZone_lt (g : Nat → Int32) (c : Nat) : gZone g c < 6 := by
  unfold gZone
  split
  · omega
  split
  · omega
  split
  · omega
  split
  · omega
  split <;> omega
theorem r_zoneOf {n p c : Nat} (M : vv_M) (hL : gLen (M (p + 1))) (hc : c < gPre (M (p + 1)) 6) (hn : 7 ≤ n) : f_X5_zoneOf n p (nI c) M = some (nI (gZone (M (p + 1)) c), M) := by
  have h6 := gPre_6 hL
  have st : ∀ (j z k : Nat), z + j = 6 → j < k → gPre (M (p + 1)) z ≤ c → f_X5_zoneOf_4 n k p (nI z) (nI (c - gPre (M (p + 1)) z)) M = some (nI (gZone (M (p + 1)) c), M) := by
    intro j
    induction j with
    | zero =>
      intro z k hz hk h
      obtain rfl : z = 6 := by omega
      omega
    | succ j ih =>
      intro z k hz hk h
      obtain ⟨k, rfl⟩ : ∃ q, k = q + 1 := ⟨k - 1, by omega⟩
      obtain ⟨e1, e2, e3⟩ := hL z (by omega)
      rw [f_X5_zoneOf_4.eq_2]
      simp (disch := omega) only [ix_al, ix_ar, ix_ml, ix_mr, ix_cl, ix_cll, ix_n0, ix_l0, ix_nge, or_self, if_false, if_true, ix_let, ix_bs, up_s, bx_uu, r_ofZ, e1, ix_lt]
      by_cases h9 : c - gPre (M (p + 1)) z < gln (M (p + 1)) z
      · rw [if_pos h9, gZone_eq (by omega) h (by show c < gPre _ z + gln _ z; omega)]
      · rw [if_neg h9, pk_sub (by omega)]
        have e : c - gPre (M (p + 1)) z - gln (M (p + 1)) z = c - gPre (M (p + 1)) (z + 1) := by
          show _ = c - (gPre _ z + gln _ z)
          omega
        rw [e]
        exact ih (z + 1) k (by omega) (by omega) (by show gPre _ z + gln _ z ≤ c; omega)
  exact st 6 0 n (by omega) (by omega) (Nat.zero_le _)
/-- whether a board may be loaded -/
def gFree (g : Nat → Int32) : Nat → Bool
  | 0 => true
  | b + 1 => gFree g b && !(decide (g (56 + 21 * b + 2) = 0) && decide (g (56 + 21 * b + 3) < g 49))
theorem gFree_iff (g : Nat → Int32) (l : Nat) : gFree g l = true ↔ ∀ b, b < l → ¬ (g (56 + 21 * b + 2) = 0 ∧ g (56 + 21 * b + 3) < g 49) := by
  induction l with
  | zero => simp [gFree]
  | succ l ih =>
    simp only [gFree, Bool.and_eq_true, ih, Bool.not_eq_true', Bool.and_eq_false_iff, decide_eq_false_iff_not]
    constructor
    · intro ⟨h1, h2⟩ b hb
      rcases Nat.lt_or_ge b l with h | h
      · exact h1 b h
      · obtain rfl : b = l := by omega
        rintro ⟨g1, g2⟩
        rcases h2 with h2 | h2
        · exact h2 g1
        · exact h2 g2
    · intro h
      refine ⟨fun b hb => h b (by omega), ?_⟩
      by_cases g1 : g (56 + 21 * l + 2) = 0
      · exact Or.inr (fun g2 => h l (by omega) ⟨g1, g2⟩)
      · exact Or.inl g1
theorem r_hasRoom {n p l : Nat} (M : vv_M) (hl : M (p + 1) 53 = nI l) (h31 : l ≤ 31) (hn : 40 ≤ n) : f_X5_hasRoom n p M = some (zi (gFree (M (p + 1)) l = true), M) := by
  have st : ∀ (j b k : Nat), b + j = l → j < k → (∀ q, q < b → ¬ (M (p + 1) (56 + 21 * q + 2) = 0 ∧ M (p + 1) (56 + 21 * q + 3) < M (p + 1) 49)) → f_X5_hasRoom_2 n k p (nI b) M = some (zi (gFree (M (p + 1)) l = true), M) := by
    intro j
    induction j with
    | zero =>
      intro b k hb hk hx
      obtain ⟨k, rfl⟩ : ∃ q, k = q + 1 := ⟨k - 1, by omega⟩
      obtain rfl : b = l := by omega
      rw [f_X5_hasRoom_2.eq_2]
      simp (disch := omega) only [ix_al, ix_ar, ix_ml, ix_mr, ix_cl, ix_cll, ix_n0, ix_l0, ix_nge, or_self, if_false, if_true, ix_let, ix_bs, up_s, bx_uu, hl, ix_le, Nat.le_refl]
      rw [zi_t ((gFree_iff _ _).mpr hx)]
    | succ j ih =>
      intro b k hb hk hx
      obtain ⟨k, rfl⟩ : ∃ q, k = q + 1 := ⟨k - 1, by omega⟩
      rw [f_X5_hasRoom_2.eq_2]
      have hs : ∀ (h : ¬ (M (p + 1) (56 + 21 * b + 2) = 0 ∧ M (p + 1) (56 + 21 * b + 3) < M (p + 1) 49)), ∀ q, q < b + 1 → ¬ (M (p + 1) (56 + 21 * q + 2) = 0 ∧ M (p + 1) (56 + 21 * q + 3) < M (p + 1) 49) := by
        intro h q hq
        rcases Nat.lt_or_ge q b with g1 | g1
        · exact hx q g1
        · obtain rfl : q = b := by omega
          exact h
      simp (disch := omega) only [ix_al, ix_ar, ix_ml, ix_mr, ix_cl, ix_cll, ix_n0, ix_l0, ix_nge, or_self, if_false, if_true, ix_let, ix_bs, up_s, bx_uu, hl, ix_le, r_of, r_isOn (show b ≤ 31 by omega), zi_0, f_X5_hasRoom_43]
      by_cases h : M (p + 1) (56 + 21 * b + 2) = 0
      · rw [if_neg (not_not_intro h)]
        by_cases h2 : M (p + 1) 49 ≤ M (p + 1) (56 + 21 * b + 3)
        · rw [if_pos h2]
          exact ih (b + 1) k (by omega) (by omega) (hs (fun q => absurd q.2 (Int32.not_lt.mpr h2)))
        · rw [if_neg h2, zi_f]
          intro q
          exact (gFree_iff _ _).mp q b (by omega) ⟨h, Int32.not_le.mp h2⟩
      · rw [if_pos h]
        exact ih (b + 1) k (by omega) (by omega) (hs (fun q => h q.1))
  exact st l 0 n (by omega) (by omega) (fun q hq => absurd hq (Nat.not_lt_zero q))
/-- the weights in a zone -/
def gW (g : Nat → Int32) (z : Nat) : Nat → Int32
  | 0 => 0
  | b + 1 => if g (56 + 21 * b + 2) = 0 ∧ gZone g (gcell g b) = z then gW g z b + g (56 + 21 * b + 1) else gW g z b
theorem r_weightsIn {n p l z : Nat} (M : vv_M) (hI : gInv (M (p + 1)) l) (hn : 40 ≤ n) (hz : z < 6) : f_X5_weightsIn n p (nI z) M = some (gW (M (p + 1)) z l, M) := by
  obtain ⟨hL, hl, h31, -, -, hB⟩ := hI
  have st : ∀ (j b k : Nat), b + j = l → j < k → f_X5_weightsIn_4 n k p (nI z) (gW (M (p + 1)) z b) (nI b) M = some (gW (M (p + 1)) z l, M) := by
    intro j
    induction j with
    | zero =>
      intro b k hb hk
      obtain ⟨k, rfl⟩ : ∃ q, k = q + 1 := ⟨k - 1, by omega⟩
      obtain rfl : b = l := by omega
      rw [f_X5_weightsIn_4.eq_2]
      simp (disch := omega) only [ix_al, ix_ar, ix_ml, ix_mr, ix_cl, ix_cll, ix_n0, ix_l0, ix_nge, or_self, if_false, if_true, ix_let, ix_bs, up_s, bx_uu, hl, ix_le, Nat.le_refl]
    | succ j ih =>
      intro b k hb hk
      obtain ⟨k, rfl⟩ : ∃ q, k = q + 1 := ⟨k - 1, by omega⟩
      rw [f_X5_weightsIn_4.eq_2]
      have hi := ih (b + 1) k (by omega) (by omega)
      simp only [gW] at hi
      simp (disch := omega) only [ix_al, ix_ar, ix_ml, ix_mr, ix_cl, ix_cll, ix_n0, ix_l0, ix_nge, or_self, if_false, if_true, ix_let, ix_bs, up_s, bx_uu, hl, ix_le, r_of, r_isOn (show b ≤ 31 by omega), zi_0, f_X5_weightsIn_55, f_X5_weightsIn_56, Int32.add_zero]
      by_cases h : M (p + 1) (56 + 21 * b + 2) = 0
      · obtain ⟨e1, e2⟩ := (hB b (by omega)).2.2.1 h
        have h6 := gPre_6 hL
        have h7 := gZone_lt (M (p + 1)) (gcell (M (p + 1)) b)
        rw [if_neg (not_not_intro h), e1]
        simp (disch := omega) only [ix_al, ix_ar, ix_ml, ix_mr, ix_cl, ix_cll, ix_n0, ix_l0, ix_nge, or_self, if_false, if_true, ix_let, ix_bs, up_s, bx_uu, r_zoneOf (n := n) M hL e2 (by omega), ix_eq]
        by_cases h2 : gZone (M (p + 1)) (gcell (M (p + 1)) b) = z
        · rw [if_pos h2]
          rw [if_pos ⟨h, h2⟩] at hi
          exact hi
        · rw [if_neg h2]
          rw [if_neg (fun q => h2 q.2)] at hi
          exact hi
      · rw [if_pos h]
        rw [if_neg (fun q => h q.1)] at hi
        exact hi
  exact st l 0 n (by omega) (by omega)
end
section
/-! bits: rows of the kit's family of bits, and what is wanted of them here -/
def bt (x : Int32) (i : Nat) : Bool := x.toBitVec.getLsbD i
theorem b_ext {x y : Int32} (h : ∀ i, i < 32 → bt x i = bt y i) : x = y := Int32.toBitVec_inj.mp (BitVec.eq_of_getLsbD_eq (fun i hi => h i hi))
theorem b_or (x y : Int32) (i : Nat) : bt (x ||| y) i = (bt x i || bt y i) := by unfold bt; rw [Int32.toBitVec_or, BitVec.getLsbD_or]
theorem b_and (x y : Int32) (i : Nat) : bt (x &&& y) i = (bt x i && bt y i) := by unfold bt; rw [Int32.toBitVec_and, BitVec.getLsbD_and]
theorem b_big {x : Int32} {i : Nat} (h : 32 ≤ i) : bt x i = false := BitVec.getLsbD_of_ge _ _ h
theorem b_0 (i : Nat) : bt 0 i = false := BitVec.getLsbD_zero
theorem s_l : ∀ n, n < 32 → ((nI n &&& 31).toBitVec.smod 32).toNat = n := by decide +kernel
theorem b_shl (n : Nat) (hn : n < 32) (x : Int32) {i : Nat} (hi : i < 32) : bt (x <<< (nI n &&& 31)) i = (decide (n ≤ i) && bt x (i - n)) := by
  unfold bt
  rw [Int32.toBitVec_shiftLeft]
  show (x.toBitVec <<< ((nI n &&& 31).toBitVec.smod 32).toNat).getLsbD i = _
  rw [s_l n hn, BitVec.getLsbD_shiftLeft]
  rcases Nat.lt_or_ge i n with h | h
  · simp [h, Nat.not_le.mpr h]
  · simp [hi, h, Nat.not_lt.mpr h]
theorem b_sshr (n : Nat) (hn : n < 32) (x : Int32) {i : Nat} (hi : i < 32) : bt (x >>> (nI n &&& 31)) i = if n + i < 32 then bt x (n + i) else bt x 31 := by
  unfold bt
  rw [Int32.toBitVec_shiftRight]
  show (x.toBitVec.sshiftRight ((nI n &&& 31).toBitVec.smod 32).toNat).getLsbD i = _
  rw [s_l n hn, BitVec.getLsbD_sshiftRight, BitVec.msb_eq_getLsbD_last]
  simp [hi]
theorem b_1 {i : Nat} (hi : i < 32) : bt 1 i = decide (i = 0) := (by decide +kernel : ∀ i, i < 32 → bt 1 i = decide (i = 0)) i hi
theorem gbit_iff {x : Int32} {k : Nat} (hk : k < 32) : gbit x k ↔ bt x k = true := by
  have h0 : bt ((x >>> (nI k &&& 31)) &&& 1) 0 = bt x k := by
    rw [b_and, b_sshr k hk x (by omega), b_1 (by omega), if_pos (by omega)]
    simp
  constructor
  · intro h
    cases hb : bt x k with
    | true => rfl
    | false =>
      refine absurd (b_ext fun i hi => ?_) h
      rw [b_0]
      rcases Nat.eq_zero_or_pos i with rfl | h1
      · rw [h0, hb]
      · rw [b_and, b_1 hi, decide_eq_false (by omega), Bool.and_false]
  · intro h h2
    rw [h2, b_0, h] at h0
    cases h0
theorem b_one {k i : Nat} (hk : k < 32) (hi : i < 32) : bt ((1 : Int32) <<< (nI k &&& 31)) i = decide (i = k) := by
  rw [b_shl k hk 1 hi]
  rcases Nat.lt_or_ge i k with h | h
  · rw [decide_eq_false (by omega), decide_eq_false (by omega), Bool.false_and]
  · rw [decide_eq_true h, b_1 (by omega), Bool.true_and]
    by_cases h2 : i = k
    · rw [decide_eq_true (by omega), decide_eq_true h2]
    · rw [decide_eq_false (by omega), decide_eq_false h2]
theorem gbit_or {x : Int32} {k j : Nat} (hk : k < 32) (hj : j < 32) : gbit (x ||| ((1 : Int32) <<< (nI k &&& 31))) j ↔ gbit x j ∨ j = k := by
  rw [gbit_iff hj, gbit_iff hj, b_or, b_one hk hj]
  simp
theorem cbit_iff {x : Int32} {k : Nat} (hk : k < 32) : (x &&& ((1 : Int32) <<< (nI k &&& 31))) = 0 ↔ ¬ gbit x k := by
  rw [gbit_iff hk]
  constructor
  · intro h h2
    have h3 : bt (x &&& ((1 : Int32) <<< (nI k &&& 31))) k = true := by rw [b_and, b_one hk hk, h2]; simp
    rw [h, b_0] at h3
    cases h3
  · intro h
    refine b_ext fun i hi => ?_
    rw [b_and, b_one hk hi, b_0]
    by_cases h2 : i = k
    · subst h2
      rw [Bool.eq_false_iff.mpr h, Bool.false_and]
    · rw [decide_eq_false h2, Bool.and_false]
theorem b_or_id {x : Int32} {k : Nat} (hk : k < 32) (h : gbit x k) : x ||| ((1 : Int32) <<< (nI k &&& 31)) = x := by
  refine b_ext fun i hi => ?_
  rw [b_or, b_one hk hi]
  by_cases h2 : i = k
  · subst h2
    rw [(gbit_iff hk).mp h, Bool.true_or]
  · rw [decide_eq_false h2, Bool.or_false]
theorem gbit_0 {k : Nat} (hk : k < 32) : ¬ gbit 0 k := by
  rw [gbit_iff hk, b_0]
  simp
theorem or_comm3 (x a b : Int32) : (x ||| a) ||| b = (x ||| b) ||| a := by
  refine b_ext fun i hi => ?_
  simp only [b_or]
  cases bt x i <;> cases bt a i <;> cases bt b i <;> rfl
end
section

def gcv (g : Nat → Int32) (b : Nat) : Nat := (g (56 + 21 * b + 0)).toNatClampNeg
def gC (g : Nat → Int32) (b k : Nat) : Int32 := g (24 + 6 * gcv g b + k)
theorem gcv_eq {g : Nat → Int32} {b c : Nat} (h : g (56 + 21 * b + 0) = nI c) (h4 : c < 4) : gcv g b = c := by
  unfold gcv
  rw [h, ix_cl (by omega)]
theorem gFault_ne {g : Nat → Int32} {x c : Int32} {b k j : Nat} (h1 : j ≠ 56 + 21 * b + 8) (h2 : j ≠ 56 + 21 * b + (11 + k)) (h3 : j ≠ 56 + 21 * b + (16 + k)) : gFault g x b k c j = g j := by
  unfold gFault
  split
  · rfl
  split
  · rfl
  rw [ud_ne h3, ud_ne h2, ud_ne h1]
theorem r_curveU {n p b k c : Nat} {M : vv_M} {G : Nat → Int32} (hb : b ≤ 31) (hk : OfNat.ofNat k < 6) (hc : G (56 + 21 * b + 0) = nI c) (h4 : c < 4) : f_X5_curveOf n p (nI b) (no_index (OfNat.ofNat k)) (va_up M (p + 1) G) = some (G (24 + 6 * c + OfNat.ofNat k), va_up M (p + 1) G) := by
  rw [r_curveOf (c := c) _ hb hk (by rw [up_s]; exact hc) h4, up_s]
def gLeft (g : Nat → Int32) (b : Nat) (e : Int32) : Nat → Int32 := gFault (gFault (upd (upd g (56 + 21 * b + 2) 1) (56 + 21 * b + 10) (g 52)) (if gC g b 2 ≤ g (56 + 21 * b + 7) then 0 else 1) b 3 e) (if gC g b 4 ≤ g (56 + 21 * b + 6) then 0 else 1) b 4 e
def gGoOn (g : Nat → Int32) (b : Nat) : Nat → Int32 := if g (56 + 21 * b + 3) + g 48 < gBelt g then upd g (56 + 21 * b + 3) (g (56 + 21 * b + 3) + g 48) else gLeft (upd g (56 + 21 * b + 3) (g (56 + 21 * b + 3) + g 48)) b (gBelt g)
theorem r_goOn {n p b c : Nat} (M : vv_M) (hn : 40 ≤ n) (hb : b ≤ 31) (hc : M (p + 1) (56 + 21 * b + 0) = nI c) (h4 : c < 4) : f_X5_goOn n p (nI b) M = some ((), va_up M (p + 1) (gGoOn (M (p + 1)) b)) := by
  generalize hg : M (p + 1) = g at hc
  unfold f_X5_goOn f_X5_goOn_39 gGoOn
  simp (disch := omega) only [ix_al, ix_ar, ix_ml, ix_mr, ix_cl, ix_cll, ix_n0, ix_l0, ix_nge, or_self, if_false, if_true, ix_let, ix_bs, up_s, bx_uu, r_belt (n := n) (show 7 ≤ n by omega), r_of, hg, ud_s, ud_ne]
  by_cases h : g (56 + 21 * b + 3) + g 48 < gBelt g
  · rw [if_pos h, if_pos h]
  · rw [if_neg h, if_neg h]
    have hcv : gcv (upd g (56 + 21 * b + 3) (g (56 + 21 * b + 3) + g 48)) b = c := gcv_eq (by rw [ud_ne (by omega)]; exact hc) h4
    rw [r_curveU (c := c) hb (by omega) (by simp (disch := omega) only [ud_ne, hc]) h4]
    unfold gLeft gC
    rw [hcv]
    have e2 : ∀ (s : Int32) (G : Nat → Int32), G (56 + 21 * b + 0) = nI c → f_X5_goOn_94 n p (nI b) (gBelt g) p s (va_up M (p + 1) G) = some ((), va_up M (p + 1) (gFault (gFault G s b 3 (gBelt g)) (if G (24 + 6 * c + 4) ≤ G (56 + 21 * b + 6) then 0 else 1) b 4 (gBelt g))) := by
      intro s G hG
      unfold f_X5_goOn_94 f_X5_goOn_126
      simp (disch := omega) only [ix_al, ix_ar, ix_ml, ix_mr, ix_cl, ix_cll, ix_n0, ix_l0, ix_nge, or_self, if_false, if_true, ix_let, ix_bs, up_s, bx_uu, r_fault, r_of]
      rw [r_curveU (c := c) hb (by omega) (by rw [gFault_ne (by omega) (by omega) (by omega)]; exact hG) h4]
      simp (disch := omega) only [ix_al, ix_ar, ix_ml, ix_mr, ix_cl, ix_cll, ix_n0, ix_l0, ix_nge, or_self, if_false, if_true, ix_let, ix_bs, up_s, bx_uu, r_fault, gFault_ne]
      by_cases h9 : G (24 + 6 * c + 4) ≤ G (56 + 21 * b + 6)
      · rw [if_pos h9, if_pos h9]
      · rw [if_neg h9, if_neg h9]
    simp (disch := omega) only [ix_al, ix_ar, ix_ml, ix_mr, ix_cl, ix_cll, ix_n0, ix_l0, ix_nge, or_self, if_false, if_true, ix_let, ix_bs, up_s, bx_uu, ud_ne]
    by_cases h8 : g (24 + 6 * c + 2) ≤ g (56 + 21 * b + 7)
    · rw [if_pos h8, if_pos h8, e2 _ _ (by simp (disch := omega) only [ud_ne, hc])]
      simp (disch := omega) only [ud_ne]
    · rw [if_neg h8, if_neg h8, e2 _ _ (by simp (disch := omega) only [ud_ne, hc])]
      simp (disch := omega) only [ud_ne]
/-- a zone's warmth, by the weight in it -/
def gNew (w t q : Int32) : Int32 := if t ≤ (if 20 ≤ w then w else 20) then (if (if 20 ≤ w then w else 20) - q ≤ t then t else (if 20 ≤ w then w else 20) - q) else if t ≤ (if 20 ≤ w then w else 20) + q then t else (if 20 ≤ w then w else 20) + q
def gHeat (l : Nat) (z : Nat) (g : Nat → Int32) : Nat → Int32 := upd g (0 + 4 * z + 3) (gNew (g (0 + 4 * z + 3) - g 51 * gW g z l / 5) (g (0 + 4 * z + 1)) (g (0 + 4 * z + 2)))
theorem r_heat105 {n p z : Nat} (x : Int32) (M : vv_M) (hz : z < 6) : f_X5_heat_105 n p (nI z) x M = some ((), va_up M (p + 1) (upd (M (p + 1)) (0 + 4 * z + 3) x)) := by
  unfold f_X5_heat_105
  simp (disch := omega) only [ix_al, ix_ar, ix_ml, ix_mr, ix_cl, ix_cll, ix_n0, ix_l0, ix_nge, or_self, if_false, if_true, ix_let, ix_bs, up_s, bx_uu, r_ofZ]
theorem r_heat62 {n p z : Nat} (t q w : Int32) (M : vv_M) (hz : z < 6) : f_X5_heat_62 n p (nI z) t q w M = some ((), va_up M (p + 1) (upd (M (p + 1)) (0 + 4 * z + 3) (if t ≤ w then (if w - q ≤ t then t else w - q) else if t ≤ w + q then t else w + q))) := by
  unfold f_X5_heat_62 f_X5_heat_84 f_X5_heat_104
  simp only [r_heat105 _ _ hz]
  split
  · split <;> rfl
  · split <;> rfl
theorem r_heat {n p l z : Nat} (M : vv_M) (hI : gInv (M (p + 1)) l) (hn : 40 ≤ n) (hz : z < 6) : f_X5_heat n p (nI z) M = some ((), va_up M (p + 1) (gHeat l z (M (p + 1)))) := by
  unfold f_X5_heat gHeat
  have h5 : ((5 : Int32) = 0) = False := by decide
  simp (disch := omega) only [ix_al, ix_ar, ix_ml, ix_mr, ix_cl, ix_cll, ix_n0, ix_l0, ix_nge, or_self, if_false, if_true, ix_let, ix_bs, up_s, bx_uu, r_ofZ, r_weightsIn M hI hn hz, h5, f_X5_heat_38, r_heat62]
  unfold gNew
  generalize M (p + 1) (0 + 4 * z + 3) - M (p + 1) 51 * gW (M (p + 1)) z l / 5 = w
  by_cases h1 : (20 : Int32) ≤ w
  · simp only [if_pos h1]
  · simp only [if_neg h1]
end
section

def gLe (x y : Int32) : Int32 := if x ≤ y then 0 else 1
def gWarmA (g : Nat → Int32) (b c : Nat) (rise deg : Int32) : Nat → Int32 := upd (upd (upd (upd g (56 + 21 * b + 5) rise) (56 + 21 * b + 4) deg) (56 + 21 * b + 6) (if deg ≤ g (56 + 21 * b + 6) then g (56 + 21 * b + 6) else deg)) (56 + 21 * b + 7) (g (56 + 21 * b + 7) + gLe deg (g (24 + 6 * c + 1)))
def gPlea (steep long : Int32) : Int32 := if steep = 0 then (if long = 0 then 0 else 2) else 1
def gWarmB (G : Nat → Int32) (b c : Nat) (cell deg steep long : Int32) : Nat → Int32 := upd (gFault (gFault (gFault G steep b 0 cell) long b 1 cell) (gLe deg (G (24 + 6 * c + 5))) b 2 cell) (56 + 21 * b + 9) (gPlea steep long)
def gRise (g : Nat → Int32) (b : Nat) : Int32 := (g (0 + 4 * gZone g (gcell g b) + 3) - g (56 + 21 * b + 4)) / (g (56 + 21 * b + 1) + 1)
def gWarm (b : Nat) (g : Nat → Int32) : Nat → Int32 := gWarmB (gWarmA g b (gcv g b) (gRise g b) (g (56 + 21 * b + 4) + gRise g b)) b (gcv g b) (g (56 + 21 * b + 3)) (g (56 + 21 * b + 4) + gRise g b) (gLe (gRise g b) (g (24 + 6 * gcv g b + 0))) (gLe (g (56 + 21 * b + 7) + gLe (g (56 + 21 * b + 4) + gRise g b) (g (24 + 6 * gcv g b + 1))) (g (24 + 6 * gcv g b + 3)))
theorem gLe_p {x y : Int32} (h : x ≤ y) : gLe x y = 0 := if_pos h
theorem gLe_n {x y : Int32} (h : ¬ x ≤ y) : gLe x y = 1 := if_neg h
theorem r_w274 {n p j : Nat} (x : Int32) (M : vv_M) (hj : j < 13445) : f_X5_warmUp_274 n (p + 1) (nI j) x M = some ((), va_up M (p + 1) (upd (M (p + 1)) j x)) := by
  unfold f_X5_warmUp_274
  simp (disch := omega) only [ix_al, ix_ar, ix_ml, ix_mr, ix_cl, ix_cll, ix_n0, ix_l0, ix_nge, or_self, if_false, if_true, ix_let, ix_bs, up_s, bx_uu]
theorem r_w239 {n p b : Nat} (cell x5 x6 s1 : Int32) (M : vv_M) (hb : b ≤ 31) : f_X5_warmUp_239 n p (nI b) cell x5 x6 p s1 M = some ((), va_up M (p + 1) (upd (gFault (M (p + 1)) s1 b 2 cell) (56 + 21 * b + 9) (gPlea x5 x6))) := by
  unfold f_X5_warmUp_239 gPlea
  simp (disch := omega) only [ix_al, ix_ar, ix_ml, ix_mr, ix_cl, ix_cll, ix_n0, ix_l0, ix_nge, or_self, if_false, if_true, ix_let, ix_bs, up_s, bx_uu, r_fault, r_of, r_w274]
  by_cases h1 : x5 = 0
  · rw [if_pos h1, if_pos h1]
    by_cases h2 : x6 = 0
    · rw [if_pos h2, if_pos h2]
    · rw [if_neg h2, if_neg h2]
  · rw [if_neg h1, if_neg h1]
theorem r_w202 {n p b c : Nat} (cell deg x5 s0 : Int32) {M : vv_M} {G : Nat → Int32} (hb : b ≤ 31) (hc : G (56 + 21 * b + 0) = nI c) (h4 : c < 4) : f_X5_warmUp_202 n p (nI b) cell deg x5 s0 (va_up M (p + 1) G) = some ((), va_up M (p + 1) (gWarmB G b c cell deg x5 s0)) := by
  unfold f_X5_warmUp_202 gWarmB
  simp (disch := omega) only [ix_al, ix_ar, ix_ml, ix_mr, ix_cl, ix_cll, ix_n0, ix_l0, ix_nge, or_self, if_false, if_true, ix_let, ix_bs, up_s, bx_uu, r_fault]
  rw [r_curveU (c := c) hb (by omega) (by rw [gFault_ne (by omega) (by omega) (by omega), gFault_ne (by omega) (by omega) (by omega)]; exact hc) h4]
  simp (disch := omega) only [ix_al, ix_ar, ix_ml, ix_mr, ix_cl, ix_cll, ix_n0, ix_l0, ix_nge, or_self, if_false, if_true, ix_let, ix_bs, up_s, bx_uu, r_w239, gFault_ne]
  refine ife (fun h => ?_) (fun h => ?_)
  · rw [gLe_p h]
  · rw [gLe_n h]
theorem r_w175 {n p b c : Nat} (cell deg s0 : Int32) {M : vv_M} {G : Nat → Int32} (hb : b ≤ 31) (hc : G (56 + 21 * b + 0) = nI c) (h4 : c < 4) : f_X5_warmUp_175 n p (nI b) cell deg s0 (va_up M (p + 1) G) = some ((), va_up M (p + 1) (gWarmB G b c cell deg s0 (gLe (G (56 + 21 * b + 7)) (G (24 + 6 * c + 3))))) := by
  unfold f_X5_warmUp_175
  simp (disch := omega) only [ix_al, ix_ar, ix_ml, ix_mr, ix_cl, ix_cll, ix_n0, ix_l0, ix_nge, or_self, if_false, if_true, ix_let, ix_bs, up_s, bx_uu, r_of]
  rw [r_curveU (c := c) hb (by omega) hc h4]
  simp (disch := omega) only [ix_al, ix_ar, ix_ml, ix_mr, ix_cl, ix_cll, ix_n0, ix_l0, ix_nge, or_self, if_false, if_true, ix_let, ix_bs, up_s, bx_uu]
  refine ife (fun h => ?_) (fun h => ?_)
  · rw [r_w202 _ _ _ _ hb hc h4, gLe_p h]
  · rw [r_w202 _ _ _ _ hb hc h4, gLe_n h]
theorem r_w158 {n p b c : Nat} (cell rise deg s3 : Int32) {M : vv_M} {G : Nat → Int32} (hb : b ≤ 31) (hc : G (56 + 21 * b + 0) = nI c) (h4 : c < 4) (s2 : Int32) : f_X5_warmUp_158 n p (nI b) cell rise deg (p + 1) (nI (56 + 21 * b + 7)) s2 s3 (va_up M (p + 1) G) = some ((), va_up M (p + 1) (gWarmB (upd G (56 + 21 * b + 7) (s2 + s3)) b c cell deg (gLe rise (G (24 + 6 * c + 0))) (gLe (s2 + s3) (G (24 + 6 * c + 3))))) := by
  unfold f_X5_warmUp_158
  simp (disch := omega) only [ix_al, ix_ar, ix_ml, ix_mr, ix_cl, ix_cll, ix_n0, ix_l0, ix_nge, or_self, if_false, if_true, ix_let, ix_bs, up_s, bx_uu]
  have hc' : upd G (56 + 21 * b + 7) (s2 + s3) (56 + 21 * b + 0) = nI c := by rw [ud_ne (by omega)]; exact hc
  rw [r_curveU (c := c) hb (by omega) hc' h4]
  simp (disch := omega) only [ix_al, ix_ar, ix_ml, ix_mr, ix_cl, ix_cll, ix_n0, ix_l0, ix_nge, or_self, if_false, if_true, ix_let, ix_bs, up_s, bx_uu, ud_ne]
  refine ife (fun h => ?_) (fun h => ?_)
  · rw [r_w175 _ _ _ hb hc' h4, gLe_p h]
    simp (disch := omega) only [ud_ne, ud_s]
  · rw [r_w175 _ _ _ hb hc' h4, gLe_n h]
    simp (disch := omega) only [ud_ne, ud_s]
theorem r_w129 {n p b c : Nat} (cell rise deg : Int32) {M : vv_M} {G : Nat → Int32} (hb : b ≤ 31) (hc : G (56 + 21 * b + 0) = nI c) (h4 : c < 4) (s2 : Int32) : f_X5_warmUp_129 n p (nI b) cell rise deg (p + 1) (nI (56 + 21 * b + 6)) s2 (va_up M (p + 1) G) = some ((), va_up M (p + 1) (gWarmB (upd (upd G (56 + 21 * b + 6) s2) (56 + 21 * b + 7) (G (56 + 21 * b + 7) + gLe deg (G (24 + 6 * c + 1)))) b c cell deg (gLe rise (G (24 + 6 * c + 0))) (gLe (G (56 + 21 * b + 7) + gLe deg (G (24 + 6 * c + 1))) (G (24 + 6 * c + 3))))) := by
  unfold f_X5_warmUp_129
  simp (disch := omega) only [ix_al, ix_ar, ix_ml, ix_mr, ix_cl, ix_cll, ix_n0, ix_l0, ix_nge, or_self, if_false, if_true, ix_let, ix_bs, up_s, bx_uu, r_of]
  have hc' : upd G (56 + 21 * b + 6) s2 (56 + 21 * b + 0) = nI c := by rw [ud_ne (by omega)]; exact hc
  rw [r_curveU (c := c) hb (by omega) hc' h4]
  simp (disch := omega) only [ix_al, ix_ar, ix_ml, ix_mr, ix_cl, ix_cll, ix_n0, ix_l0, ix_nge, or_self, if_false, if_true, ix_let, ix_bs, up_s, bx_uu, ud_ne]
  refine ife (fun h => ?_) (fun h => ?_)
  · rw [r_w158 _ _ _ _ hb hc' h4, gLe_p h]
    simp (disch := omega) only [ud_ne]
  · rw [r_w158 _ _ _ _ hb hc' h4, gLe_n h]
    simp (disch := omega) only [ud_ne]
theorem i32_ne0 {w : Nat} (h : w < 100) : (nI (w + 1) = 0) = False := by
  rw [show (0 : Int32) = nI 0 from rfl, ix_eq (by omega) (by omega)]
  exact eq_false (by omega)
theorem r_w87 {n p b c : Nat} (cell rise deg : Int32) {M : vv_M} {G : Nat → Int32} (hb : b ≤ 31) (hc : G (56 + 21 * b + 0) = nI c) (h4 : c < 4) : f_X5_warmUp_87 n p (nI b) cell rise deg (va_up M (p + 1) G) = some ((), va_up M (p + 1) (gWarmB (upd (upd G (56 + 21 * b + 6) (if deg ≤ G (56 + 21 * b + 6) then G (56 + 21 * b + 6) else deg)) (56 + 21 * b + 7) (G (56 + 21 * b + 7) + gLe deg (G (24 + 6 * c + 1)))) b c cell deg (gLe rise (G (24 + 6 * c + 0))) (gLe (G (56 + 21 * b + 7) + gLe deg (G (24 + 6 * c + 1))) (G (24 + 6 * c + 3))))) := by
  unfold f_X5_warmUp_87
  simp (disch := omega) only [ix_al, ix_ar, ix_ml, ix_mr, ix_cl, ix_cll, ix_n0, ix_l0, ix_nge, or_self, ↓reduceIte, ↓ix_let, ix_bs, up_s, bx_uu, ↓r_of_b]
  refine ife (fun h => ?_) (fun h => ?_)
  · rw [r_w129 _ _ _ hb hc h4, if_pos h]
  · rw [r_w129 _ _ _ hb hc h4, if_neg h]
theorem r_w50 {n p b c : Nat} (cell rise : Int32) (M : vv_M) (hb : b ≤ 31) (hc : M (p + 1) (56 + 21 * b + 0) = nI c) (h4 : c < 4) (deg : Int32) (hd : M (p + 1) (56 + 21 * b + 4) + rise = deg) : f_X5_warmUp_50 n p (nI b) cell rise M = some ((), va_up M (p + 1) (gWarmB (gWarmA (M (p + 1)) b c rise deg) b c cell deg (gLe rise (M (p + 1) (24 + 6 * c + 0))) (gLe (M (p + 1) (56 + 21 * b + 7) + gLe deg (M (p + 1) (24 + 6 * c + 1))) (M (p + 1) (24 + 6 * c + 3))))) := by
  unfold f_X5_warmUp_50
  simp (disch := omega) only [ix_al, ix_ar, ix_ml, ix_mr, ix_cl, ix_cll, ix_n0, ix_l0, ix_nge, or_self, ↓reduceIte, ↓ix_let, ix_bs, up_s, bx_uu, ↓r_of_b, hd]
  have hc' : upd (upd (M (p + 1)) (56 + 21 * b + 5) rise) (56 + 21 * b + 4) deg (56 + 21 * b + 0) = nI c := by
    rw [ud_ne (by omega), ud_ne (by omega)]; exact hc
  rw [r_w87 _ _ _ hb hc' h4]
  unfold gWarmA
  simp (disch := omega) only [ud_ne]
theorem r_warmUp {n p l b : Nat} (M : vv_M) (hI : gInv (M (p + 1)) l) (hn : 40 ≤ n) (hb : b < l) (hon : M (p + 1) (56 + 21 * b + 2) = 0) : f_X5_warmUp n p (nI b) M = some ((), va_up M (p + 1) (gWarm b (M (p + 1)))) := by
  obtain ⟨hL, hl, h31, -, -, hB⟩ := hI
  obtain ⟨⟨c, h4, hc⟩, ⟨w, hw1, hw2, hw⟩, hcell, -⟩ := hB b hb
  obtain ⟨e1, e2⟩ := hcell hon
  have h6 := gPre_6 hL
  have h7 := gZone_lt (M (p + 1)) (gcell (M (p + 1)) b)
  have hz := r_zoneOf (n := n) M hL e2 (by omega)
  have hcv : gcv (M (p + 1)) b = c := gcv_eq hc h4
  have hr : gRise (M (p + 1)) b = (M (p + 1) (0 + 4 * gZone (M (p + 1)) (gcell (M (p + 1)) b) + 3) - M (p + 1) (56 + 21 * b + 4)) / nI (w + 1) := by
    unfold gRise
    rw [hw, ix_al]
  unfold gWarm
  rw [hcv, hr, e1]
  unfold f_X5_warmUp
  simp (disch := omega) only [ix_al, ix_ar, ix_ml, ix_mr, ix_cl, ix_cll, ix_n0, ix_l0, ix_nge, or_self, ↓reduceIte, ↓ix_let, ix_bs, up_s, bx_uu, ↓r_of_b, e1, ↓bnd hz, ↓r_ofZ_b, hw, i32_ne0]
  rw [r_w50 _ _ _ (by omega) hc h4 _ rfl]
end
section

def pif {α : Type} (F : Nat → α → α) : Nat → Nat → α → α
  | _, 0, a => a
  | b, j + 1, a => pif F (b + 1) j (F b a)
theorem pif_inv {α : Type} {F : Nat → α → α} {P : α → Prop} {l : Nat} (hF : ∀ b a, b < l → P a → P (F b a)) : ∀ j b a, b + j ≤ l → P a → P (pif F b j a) := by
  intro j
  induction j with
  | zero => intro b a _ h; exact h
  | succ j ih => intro b a hb h; exact ih (b + 1) _ (by omega) (hF b a (by omega) h)
/-! what keeps the invariant -/
def gOut (b i : Nat) : Prop := i < 56 + 21 * b ∨ 56 + 21 * b + 21 ≤ i
def gFl (g : Nat → Int32) (b : Nat) : Prop := ∀ k, k < 5 → gbit (g (56 + 21 * b + 8)) k → ∃ c, c ≤ 48 ∧ g (56 + 21 * b + (11 + k)) = nI c
theorem gPre_congr {g g' : Nat → Int32} (h : ∀ z, z < 6 → g' (0 + 4 * z + 0) = g (0 + 4 * z + 0)) : ∀ z, z ≤ 6 → gPre g' z = gPre g z := by
  intro z
  induction z with
  | zero => intro _; rfl
  | succ z ih =>
    intro hz
    show gPre g' z + gln g' z = gPre g z + gln g z
    rw [ih (by omega)]
    unfold gln
    rw [h z (by omega)]
theorem gLen_congr {g g' : Nat → Int32} (h : ∀ z, z < 6 → g' (0 + 4 * z + 0) = g (0 + 4 * z + 0)) (hL : gLen g) : gLen g' := by
  intro z hz
  have := hL z hz
  unfold gln at this ⊢
  rw [h z hz]
  exact this
theorem gZone_congr {g g' : Nat → Int32} (h : ∀ z, z < 6 → g' (0 + 4 * z + 0) = g (0 + 4 * z + 0)) (c : Nat) : gZone g' c = gZone g c := by
  unfold gZone
  rw [gPre_congr h 1 (by omega), gPre_congr h 2 (by omega), gPre_congr h 3 (by omega), gPre_congr h 4 (by omega), gPre_congr h 5 (by omega)]
theorem gBrd_congr {g g' : Nat → Int32} {b : Nat} (hp : gPre g' 6 = gPre g 6) (h : ∀ j, j < 21 → g' (56 + 21 * b + j) = g (56 + 21 * b + j)) (hB : gBrd g b) : gBrd g' b := by
  obtain ⟨⟨c, h1, h2⟩, ⟨w, h3, h4, h5⟩, h6, h7⟩ := hB
  refine ⟨⟨c, h1, by rw [h 0 (by omega)]; exact h2⟩, ⟨w, h3, h4, by rw [h 1 (by omega)]; exact h5⟩, fun h8 => ?_, fun k hk hb => ?_⟩
  · rw [h 2 (by omega)] at h8
    obtain ⟨a1, a2⟩ := h6 h8
    unfold gcell at a1 a2 ⊢
    rw [h 3 (by omega), hp]
    exact ⟨a1, a2⟩
  · rw [h 8 (by omega)] at hb
    rw [h (11 + k) (by omega)]
    exact h7 k hk hb
theorem gInv_board {g g' : Nat → Int32} {l b : Nat} (hI : gInv g l) (h : ∀ i, gOut b i → g' i = g i) (hB : gBrd g' b) : gInv g' l := by
  obtain ⟨hL, hl, h31, hs, ha, hBs⟩ := hI
  have hz : ∀ z, z < 6 → g' (0 + 4 * z + 0) = g (0 + 4 * z + 0) := fun z hz => h _ (Or.inl (by omega))
  refine ⟨gLen_congr hz hL, by rw [h 53 (Or.inl (by omega))]; exact hl, h31, by rw [h 48 (Or.inl (by omega))]; exact hs, by rw [h 49 (Or.inl (by omega))]; exact ha, fun q hq => ?_⟩
  by_cases hqb : q = b
  · rw [hqb]
    exact hB
  · exact gBrd_congr (gPre_congr hz 6 (by omega)) (fun j hj => h _ (by unfold gOut; omega)) (hBs q hq)
theorem gFault_out {g : Nat → Int32} {x c : Int32} {b k i : Nat} (hk : k < 5) (h : gOut b i) : gFault g x b k c i = g i := by
  unfold gOut at h
  exact gFault_ne (by omega) (by omega) (by omega)
theorem gFault_fl {g : Nat → Int32} {x : Int32} {b κ c : Nat} (h : gFl g b) (hk : κ < 5) (hc : c ≤ 48) : gFl (gFault g x b κ (nI c)) b := by
  unfold gFault
  split
  · exact h
  split
  · exact h
  intro k hk2 hb
  rw [ud_ne (by omega), ud_ne (by omega), ud_s, gbit_or (by omega) (by omega)] at hb
  rw [ud_ne (by omega)]
  by_cases he : k = κ
  · subst he
    exact ⟨c, hc, by rw [ud_s]⟩
  · rw [ud_ne (by omega), ud_ne (by omega)]
    rcases hb with hb | hb
    · exact h k hk2 hb
    · exact absurd hb he
theorem gUpd_fl {g : Nat → Int32} {v : Int32} {b i : Nat} (h : gFl g b) (h1 : i ≠ 56 + 21 * b + 8) (h2 : i < 56 + 21 * b + 11 ∨ 56 + 21 * b + 15 < i) : gFl (upd g i v) b := by
  intro k hk hb
  rw [ud_ne (fun e => h1 e.symm)] at hb
  rw [ud_ne (by omega)]
  exact h k hk hb
theorem gGoOn_out {g : Nat → Int32} {b i : Nat} (h : gOut b i) : gGoOn g b i = g i := by
  have h' := h
  unfold gOut at h'
  unfold gGoOn gLeft
  split
  · rw [ud_ne (by omega)]
  · rw [gFault_out (by omega) h, gFault_out (by omega) h, ud_ne (by omega), ud_ne (by omega), ud_ne (by omega)]
theorem gGoOn_inv {g : Nat → Int32} {l b : Nat} (hI : gInv g l) (hb : b < l) (hon : g (56 + 21 * b + 2) = 0) : gInv (gGoOn g b) l := by
  have hI' := hI
  obtain ⟨hL, hl, h31, ⟨s, hs, hs1, hs3⟩, ha, hBs⟩ := hI'
  refine gInv_board hI (fun i hi => gGoOn_out hi) ?_
  obtain ⟨⟨c, h1, h2⟩, ⟨w, h3, h4, h5⟩, h6, h7⟩ := hBs b hb
  obtain ⟨e1, e2⟩ := h6 hon
  have hp := gPre_6 hL
  have hpre : gPre (gGoOn g b) 6 = gPre g 6 := gPre_congr (fun z hz => gGoOn_out (Or.inl (by omega))) 6 (by omega)
  unfold gBrd gcell
  rw [hpre]
  unfold gGoOn
  rw [gBelt_nI hL, e1, hs, nI_add]
  split
  · rename_i hlt
    rw [ix_lt (by omega) (by omega)] at hlt
    refine ⟨⟨c, h1, by rw [ud_ne (by omega)]; exact h2⟩, ⟨w, h3, h4, by rw [ud_ne (by omega)]; exact h5⟩, fun _ => ?_, gUpd_fl h7 (by omega) (by omega)⟩
    rw [ud_s, ix_cl (by omega)]
    exact ⟨rfl, hlt⟩
  · unfold gLeft
    refine ⟨⟨c, h1, ?_⟩, ⟨w, h3, h4, ?_⟩, fun h9 => ?_, ?_⟩
    · rw [gFault_ne (by omega) (by omega) (by omega), gFault_ne (by omega) (by omega) (by omega), ud_ne (by omega), ud_ne (by omega), ud_ne (by omega)]; exact h2
    · rw [gFault_ne (by omega) (by omega) (by omega), gFault_ne (by omega) (by omega) (by omega), ud_ne (by omega), ud_ne (by omega), ud_ne (by omega)]; exact h5
    · rw [gFault_ne (by omega) (by omega) (by omega), gFault_ne (by omega) (by omega) (by omega), ud_ne (by omega), ud_s] at h9
      exact absurd h9 (by decide)
    · exact gFault_fl (gFault_fl (gUpd_fl (gUpd_fl (gUpd_fl h7 (by omega) (by omega)) (by omega) (by omega)) (by omega) (by omega)) (by omega) hp.1) (by omega) hp.1
theorem gWarm_out {g : Nat → Int32} {b i : Nat} (h : gOut b i) : gWarm b g i = g i := by
  have h' := h
  unfold gOut at h'
  unfold gWarm gWarmB gWarmA
  rw [ud_ne (by omega), gFault_out (by omega) h, gFault_out (by omega) h, gFault_out (by omega) h, ud_ne (by omega), ud_ne (by omega), ud_ne (by omega), ud_ne (by omega)]
theorem gWarm_col {g : Nat → Int32} {b j : Nat} (h : j < 4) : gWarm b g (56 + 21 * b + j) = g (56 + 21 * b + j) := by
  unfold gWarm gWarmB gWarmA
  rw [ud_ne (by omega), gFault_ne (by omega) (by omega) (by omega), gFault_ne (by omega) (by omega) (by omega), gFault_ne (by omega) (by omega) (by omega), ud_ne (by omega), ud_ne (by omega), ud_ne (by omega), ud_ne (by omega)]
theorem gWarm_inv {g : Nat → Int32} {l b : Nat} (hI : gInv g l) (hb : b < l) (hon : g (56 + 21 * b + 2) = 0) : gInv (gWarm b g) l := by
  have hI' := hI
  obtain ⟨hL, hl, h31, ⟨s, hs, hs1, hs3⟩, ha, hBs⟩ := hI'
  refine gInv_board hI (fun i hi => gWarm_out hi) ?_
  obtain ⟨⟨c, h1, h2⟩, ⟨w, h3, h4, h5⟩, h6, h7⟩ := hBs b hb
  obtain ⟨e1, e2⟩ := h6 hon
  have hp := gPre_6 hL
  have hpre : gPre (gWarm b g) 6 = gPre g 6 := gPre_congr (fun z hz => gWarm_out (Or.inl (by omega))) 6 (by omega)
  refine ⟨⟨c, h1, by rw [gWarm_col (by omega)]; exact h2⟩, ⟨w, h3, h4, by rw [gWarm_col (by omega)]; exact h5⟩, fun h9 => ?_, ?_⟩
  · rw [gWarm_col (by omega)] at h9
    unfold gcell
    rw [gWarm_col (by omega), hpre]
    exact h6 h9
  · unfold gWarm gWarmB gWarmA
    rw [e1]
    refine gUpd_fl ?_ (by omega) (by omega)
    refine gFault_fl (gFault_fl (gFault_fl ?_ (by omega) (by omega)) (by omega) (by omega)) (by omega) (by omega)
    exact gUpd_fl (gUpd_fl (gUpd_fl (gUpd_fl h7 (by omega) (by omega)) (by omega) (by omega)) (by omega) (by omega)) (by omega) (by omega)
/-- a change below the boards that leaves the lengths and the numbers -/
theorem gInv_low {g g' : Nat → Int32} {l : Nat} (hI : gInv g l) (hz : ∀ z, z < 6 → g' (0 + 4 * z + 0) = g (0 + 4 * z + 0)) (h53 : g' 53 = g 53) (hs : ∃ s, g' 48 = nI s ∧ 1 ≤ s ∧ s ≤ 3) (h49 : g' 49 = g 49) (h : ∀ i, 56 ≤ i → g' i = g i) : gInv g' l := by
  obtain ⟨hL, hl, h31, -, ha, hBs⟩ := hI
  exact ⟨gLen_congr hz hL, h53.trans hl, h31, hs, by rw [h49]; exact ha, fun q hq => gBrd_congr (gPre_congr hz 6 (by omega)) (fun j hj => h _ (by omega)) (hBs q hq)⟩
theorem gHeat_inv {g : Nat → Int32} {l z : Nat} (hI : gInv g l) (hz : z < 6) : gInv (gHeat l z g) l := by
  unfold gHeat
  refine gInv_low hI (fun q hq => by rw [ud_ne (by omega)]) (by rw [ud_ne (by omega)]) ?_ (by rw [ud_ne (by omega)]) (fun i hi => by rw [ud_ne (by omega)])
  rw [ud_ne (by omega)]
  exact hI.2.2.2.1
end
section

theorem r_isOn_b {β : Type} {n p b : Nat} {M : vv_M} {f : Int32 × vv_M → Option β} (hb : b ≤ 31) : (f_X5_isOn n p (nI b) M).bind f = f (zi (M (p + 1) (56 + 21 * b + 2) = 0), M) := bnd (r_isOn hb M)
/-- the pleas, weighed -/
def gBy (g : Nat → Int32) : Nat → Int32
  | 0 => 0
  | b + 1 => if g (56 + 21 * b + 2) = 0 then (if g (56 + 21 * b + 9) = 1 then gBy g b + g (56 + 21 * b + 1) else if g (56 + 21 * b + 9) = 2 then gBy g b + -g (56 + 21 * b + 1) else gBy g b) else gBy g b
def gHear2 (by0 : Int32) (g : Nat → Int32) : Nat → Int32 := if -by0 < g 50 then g else if 3 ≤ g 48 then g else upd (upd g 48 (g 48 + 1)) 55 (g 55 + 1)
def gHear (l : Nat) (g : Nat → Int32) : Nat → Int32 := if g 50 = 0 then g else if gBy g l < g 50 then gHear2 (gBy g l) g else if g 48 ≤ 1 then gHear2 (gBy g l) g else upd (upd g 48 (g 48 - 1)) 54 (g 54 + 1)
theorem r_hear144 {n p : Nat} (x : Int32) (M : vv_M) : f_X5_hear_144 n p x M = some ((), va_up M (p + 1) (gHear2 x (M (p + 1)))) := by
  unfold f_X5_hear_144 gHear2
  simp (disch := omega) only [ix_al, ix_ar, ix_ml, ix_mr, ix_cl, ix_cll, ix_n0, ix_l0, ix_nge, or_self, ↓reduceIte, ↓ix_let, ix_bs, up_s, bx_uu, ud_ne]
  refine ife (fun h => ?_) (fun h => ?_)
  · rw [if_pos h, up_id]
  · rw [if_neg h]
    refine ife (fun h => ?_) (fun h => ?_)
    · rw [if_pos h, up_id]
    · rw [if_neg h]
theorem r_hear {n p l : Nat} (M : vv_M) (hl : M (p + 1) 53 = nI l) (h31 : l ≤ 31) (hn : 40 ≤ n) : f_X5_hear n p M = some ((), va_up M (p + 1) (gHear l (M (p + 1)))) := by
  have st : ∀ (j b k : Nat), b + j = l → j < k → f_X5_hear_4 n k p (gBy (M (p + 1)) b) (nI b) M = some ((), va_up M (p + 1) (gHear l (M (p + 1)))) := by
    intro j
    induction j with
    | zero =>
      intro b k hb hk
      obtain ⟨k, rfl⟩ : ∃ q, k = q + 1 := ⟨k - 1, by omega⟩
      obtain rfl : b = l := by omega
      rw [f_X5_hear_4.eq_2]
      simp (disch := omega) only [ix_al, ix_ar, ix_ml, ix_mr, ix_cl, ix_cll, ix_n0, ix_l0, ix_nge, or_self, ↓reduceIte, ↓ix_let, ix_bs, up_s, bx_uu, hl, ix_le, Nat.le_refl, ud_ne, r_hear144]
      unfold gHear
      refine ife (fun h => ?_) (fun h => ?_)
      · rw [if_pos h, up_id]
      · rw [if_neg h]
        refine ife (fun h => ?_) (fun h => ?_)
        · rw [if_pos h]
        · rw [if_neg h]
          refine ife (fun h => ?_) (fun h => ?_)
          · rw [if_pos h]
          · rw [if_neg h]
    | succ j ih =>
      intro b k hb hk
      obtain ⟨k, rfl⟩ : ∃ q, k = q + 1 := ⟨k - 1, by omega⟩
      rw [f_X5_hear_4.eq_2]
      have hi := ih (b + 1) k (by omega) (by omega)
      simp only [gBy] at hi
      simp (disch := omega) only [ix_al, ix_ar, ix_ml, ix_mr, ix_cl, ix_cll, ix_n0, ix_l0, ix_nge, or_self, ↓reduceIte, ↓ix_let, ix_bs, up_s, bx_uu, hl, ix_le, ↓r_of_b, ↓r_isOn_b, zi_0, f_X5_hear_38, f_X5_hear_78, Int32.add_zero]
      have h01 : ((0 : Int32) = 1) = False := by decide
      have h02 : ((0 : Int32) = 2) = False := by decide
      refine ife (fun h => ?_) (fun h => ?_)
      · rw [if_neg h] at hi
        simp only [h01, h02, if_false, Int32.add_zero]
        exact hi
      · rw [if_pos (Classical.not_not.mp h)] at hi
        refine ife (fun h2 => ?_) (fun h2 => ?_)
        · rw [if_pos h2] at hi
          exact hi
        · rw [if_neg h2] at hi
          refine ife (fun h3 => ?_) (fun h3 => ?_)
          · rw [if_pos h3] at hi
            exact hi
          · rw [if_neg h3] at hi
            exact hi
  exact st l 0 n (by omega) (by omega)
theorem gHear2_inv {g : Nat → Int32} {l : Nat} {x : Int32} (hI : gInv g l) : gInv (gHear2 x g) l := by
  unfold gHear2
  split
  · exact hI
  split
  · exact hI
  rename_i h1 h2
  obtain ⟨s, hs, hs1, hs3⟩ := hI.2.2.2.1
  refine gInv_low hI (fun q hq => by rw [ud_ne (by omega), ud_ne (by omega)]) (by rw [ud_ne (by omega), ud_ne (by omega)]) ⟨s + 1, ?_⟩ (by rw [ud_ne (by omega), ud_ne (by omega)]) (fun i hi => by rw [ud_ne (by omega), ud_ne (by omega)])
  rw [hs, ix_lel (by omega) (by omega)] at h2
  rw [ud_ne (by omega), ud_s, hs, ix_al]
  exact ⟨rfl, by omega, by omega⟩
theorem gHear_inv {g : Nat → Int32} {l : Nat} (hI : gInv g l) : gInv (gHear l g) l := by
  unfold gHear
  split
  · exact hI
  split
  · exact gHear2_inv hI
  split
  · exact gHear2_inv hI
  rename_i h1 h2 h3
  obtain ⟨s, hs, hs1, hs3⟩ := hI.2.2.2.1
  refine gInv_low hI (fun q hq => by rw [ud_ne (by omega), ud_ne (by omega)]) (by rw [ud_ne (by omega), ud_ne (by omega)]) ⟨s - 1, ?_⟩ (by rw [ud_ne (by omega), ud_ne (by omega)]) (fun i hi => by rw [ud_ne (by omega), ud_ne (by omega)])
  rw [hs, ix_ler (by omega) (by omega)] at h3
  rw [ud_ne (by omega), ud_s, hs, ix_sl (by omega)]
  exact ⟨rfl, by omega, by omega⟩
def gMv (b : Nat) (g : Nat → Int32) : Nat → Int32 := if g (56 + 21 * b + 2) = 0 then gGoOn g b else g
def gWm (b : Nat) (g : Nat → Int32) : Nat → Int32 := if g (56 + 21 * b + 2) = 0 then gWarm b g else g
def gTk (g : Nat → Int32) : Nat → Int32 := upd g 52 (g 52 + 1)
def gTick (l : Nat) (g : Nat → Int32) : Nat → Int32 := gTk (gHear l (pif gWm 0 l (pif (gHeat l) 0 6 (pif gMv 0 l g))))
theorem gMv_inv {g : Nat → Int32} {l b : Nat} (hb : b < l) (hI : gInv g l) : gInv (gMv b g) l := by
  unfold gMv
  split
  · exact gGoOn_inv hI hb (by assumption)
  · exact hI
theorem gWm_inv {g : Nat → Int32} {l b : Nat} (hb : b < l) (hI : gInv g l) : gInv (gWm b g) l := by
  unfold gWm
  split
  · exact gWarm_inv hI hb (by assumption)
  · exact hI
theorem gTk_inv {g : Nat → Int32} {l : Nat} (hI : gInv g l) : gInv (gTk g) l := by
  unfold gTk
  refine gInv_low hI (fun q hq => by rw [ud_ne (by omega)]) (by rw [ud_ne (by omega)]) (by rw [ud_ne (by omega)]; exact hI.2.2.2.1) (by rw [ud_ne (by omega)]) (fun i hi => by rw [ud_ne (by omega)])
theorem gTick_inv {g : Nat → Int32} {l : Nat} (hI : gInv g l) : gInv (gTick l g) l :=
  gTk_inv (gHear_inv (pif_inv (P := fun g => gInv g l) (fun b a hb h => gWm_inv hb h) l 0 _ (by omega) (pif_inv (P := fun g => gInv g l) (l := 6) (fun b a hb h => gHeat_inv h hb) 6 0 _ (by omega) (pif_inv (P := fun g => gInv g l) (fun b a hb h => gMv_inv hb h) l 0 _ (by omega) hI))))
theorem r_tick53 {n p l : Nat} {M : vv_M} (hn : 40 ≤ n) : ∀ (j b k : Nat) (g : Nat → Int32), b + j = l → j < k → gInv g l → f_X5_tick_53 n k p (nI b) (va_up M (p + 1) g) = some ((), va_up M (p + 1) (gTk (gHear l (pif gWm b j g)))) := by
  intro j
  induction j with
  | zero =>
    intro b k g hb hk hI
    have h31 := hI.2.2.1
    obtain ⟨k, rfl⟩ : ∃ q, k = q + 1 := ⟨k - 1, by omega⟩
    obtain rfl : b = l := by omega
    rw [f_X5_tick_53.eq_2]
    have hh := r_hear (n := n) (p := p) (l := b) (va_up M (p + 1) g) (by rw [up_s]; exact hI.2.1) h31 hn
    rw [up_s, bx_uu] at hh
    simp (disch := omega) only [ix_al, ix_ar, ix_ml, ix_mr, ix_cl, ix_cll, ix_n0, ix_l0, ix_nge, or_self, ↓reduceIte, ↓ix_let, ix_bs, up_s, bx_uu, hI.2.1, ix_le, Nat.le_refl, ↓bnd hh]
    rfl
  | succ j ih =>
    intro b k g hb hk hI
    have h31 := hI.2.2.1
    obtain ⟨k, rfl⟩ : ∃ q, k = q + 1 := ⟨k - 1, by omega⟩
    rw [f_X5_tick_53.eq_2]
    have hi := ih (b + 1) k (gWm b g) (by omega) (by omega) (gWm_inv (by omega) hI)
    show _ = some ((), va_up M (p + 1) (gTk (gHear l (pif gWm (b + 1) j (gWm b g)))))
    rw [← hi]
    simp (disch := omega) only [ix_al, ix_ar, ix_ml, ix_mr, ix_cl, ix_cll, ix_n0, ix_l0, ix_nge, or_self, ↓reduceIte, ↓ix_let, ix_bs, up_s, bx_uu, hI.2.1, ix_le, ↓r_isOn_b, zi_0, f_X5_tick_77]
    unfold gWm
    refine ife (fun h => ?_) (fun h => ?_)
    · rw [if_neg h]
    · rw [if_pos (Classical.not_not.mp h)]
      have hw := r_warmUp (n := n) (p := p) (l := l) (b := b) (va_up M (p + 1) g) (by rw [up_s]; exact hI) hn (by omega) (by rw [up_s]; exact Classical.not_not.mp h)
      rw [up_s, bx_uu] at hw
      rw [bnd hw]
theorem r_tick34 {n p l : Nat} {M : vv_M} (hn : 40 ≤ n) : ∀ (j z k : Nat) (g : Nat → Int32), z + j = 6 → j < k → gInv g l → f_X5_tick_34 n k p (nI z) (va_up M (p + 1) g) = some ((), va_up M (p + 1) (gTk (gHear l (pif gWm 0 l (pif (gHeat l) z j g))))) := by
  intro j
  induction j with
  | zero =>
    intro z k g hz hk hI
    have h31 := hI.2.2.1
    obtain ⟨k, rfl⟩ : ∃ q, k = q + 1 := ⟨k - 1, by omega⟩
    obtain rfl : z = 6 := by omega
    rw [f_X5_tick_34.eq_2]
    exact r_tick53 hn l 0 n g (by omega) (by omega) hI
  | succ j ih =>
    intro z k g hz hk hI
    obtain ⟨k, rfl⟩ : ∃ q, k = q + 1 := ⟨k - 1, by omega⟩
    rw [f_X5_tick_34.eq_2]
    have hi := ih (z + 1) k (gHeat l z g) (by omega) (by omega) (gHeat_inv hI (by omega))
    have hh := r_heat (n := n) (p := p) (l := l) (z := z) (va_up M (p + 1) g) (by rw [up_s]; exact hI) hn (by omega)
    rw [up_s, bx_uu] at hh
    simp (disch := omega) only [ix_al, ix_ar, ix_ml, ix_mr, ix_cl, ix_cll, ix_n0, ix_l0, ix_nge, or_self, ↓reduceIte, ↓ix_let, ix_bs, up_s, bx_uu, ix_lel, ↓bnd hh]
    exact hi
theorem r_tick2 {n p l : Nat} {M : vv_M} (hn : 40 ≤ n) : ∀ (j b k : Nat) (g : Nat → Int32), b + j = l → j < k → gInv g l → f_X5_tick_2 n k p (nI b) (va_up M (p + 1) g) = some ((), va_up M (p + 1) (gTk (gHear l (pif gWm 0 l (pif (gHeat l) 0 6 (pif gMv b j g)))))) := by
  intro j
  induction j with
  | zero =>
    intro b k g hb hk hI
    have h31 := hI.2.2.1
    obtain ⟨k, rfl⟩ : ∃ q, k = q + 1 := ⟨k - 1, by omega⟩
    obtain rfl : b = l := by omega
    rw [f_X5_tick_2.eq_2]
    simp (disch := omega) only [ix_al, ix_ar, ix_ml, ix_mr, ix_cl, ix_cll, ix_n0, ix_l0, ix_nge, or_self, ↓reduceIte, ↓ix_let, ix_bs, up_s, bx_uu, hI.2.1, ix_le, Nat.le_refl]
    exact r_tick34 hn 6 0 n g (by omega) (by omega) hI
  | succ j ih =>
    intro b k g hb hk hI
    have h31 := hI.2.2.1
    obtain ⟨k, rfl⟩ : ∃ q, k = q + 1 := ⟨k - 1, by omega⟩
    rw [f_X5_tick_2.eq_2]
    have hi := ih (b + 1) k (gMv b g) (by omega) (by omega) (gMv_inv (by omega) hI)
    show _ = some ((), va_up M (p + 1) (gTk (gHear l (pif gWm 0 l (pif (gHeat l) 0 6 (pif gMv (b + 1) j (gMv b g)))))))
    rw [← hi]
    simp (disch := omega) only [ix_al, ix_ar, ix_ml, ix_mr, ix_cl, ix_cll, ix_n0, ix_l0, ix_nge, or_self, ↓reduceIte, ↓ix_let, ix_bs, up_s, bx_uu, hI.2.1, ix_le, ↓r_isOn_b, zi_0, f_X5_tick_26]
    unfold gMv
    refine ife (fun h => ?_) (fun h => ?_)
    · rw [if_neg h]
    · rw [if_pos (Classical.not_not.mp h)]
      obtain ⟨⟨c, h4, hc⟩, -⟩ := hI.2.2.2.2.2 b (by omega)
      have hw := r_goOn (n := n) (p := p) (b := b) (c := c) (va_up M (p + 1) g) hn (by omega) (by rw [up_s]; exact hc) h4
      rw [up_s, bx_uu] at hw
      rw [bnd hw]
/-- THE REFERENCE'S TICK -/
theorem r_tick {n p l : Nat} (M : vv_M) (hn : 40 ≤ n) (hI : gInv (M (p + 1)) l) : f_X5_tick n p M = some ((), va_up M (p + 1) (gTick l (M (p + 1)))) := by
  have h31 := hI.2.2.1
  have h := r_tick2 (M := M) (p := p) hn l 0 n (M (p + 1)) (by omega) (by omega) hI
  rw [up_id] at h
  exact h
end
section

/-! THE CLASS'S OVEN AT p AGAINST THE PICTURE g -/
def Rb (B g : Nat → Int32) (b : Nat) : Prop := (∀ j, j < 11 → j ≠ 3 → B (b * 22 + j) = g (56 + 21 * b + j)) ∧ (g (56 + 21 * b + 2) = 0 → B (b * 22 + 3) = g (56 + 21 * b + 3) ∧ B (b * 22 + 11) = nI (gZone g (gcell g b))) ∧ (g (56 + 21 * b + 2) ≠ 0 → B (b * 22 + 3) = -1009) ∧ ∀ k, k < 5 → (gbit (g (56 + 21 * b + 8)) k → B (b * 22 + (12 + k)) = g (56 + 21 * b + (11 + k)) ∧ B (b * 22 + (17 + k)) = g (56 + 21 * b + (16 + k))) ∧ (¬ gbit (g (56 + 21 * b + 8)) k → B (b * 22 + (12 + k)) = -1009 ∧ B (b * 22 + (17 + k)) = -1009)
def Ro (p : Nat) (M : vv_M) (g : Nat → Int32) (l : Nat) : Prop := (∀ k, k < 24 → M (p + 1) k = g k) ∧ (∀ k, k < 24 → M (p + 2) k = g (24 + k)) ∧ (∀ k, k < 4 → M (p + 3) k = g (48 + k)) ∧ (M p 5 = g 52 ∧ M p 6 = g 53 ∧ M p 7 = g 54 ∧ M p 8 = g 55) ∧ ∀ b, b < l → Rb (M (p + 4)) g b
def Fr (p : Nat) (M M' : vv_M) : Prop := ∀ q, q < p ∨ p + 6 ≤ q → M' q = M q
theorem Fr.rf {p : Nat} {M : vv_M} : Fr p M M := fun _ _ => rfl
theorem Fr.tr {p : Nat} {M M' M'' : vv_M} (h1 : Fr p M M') (h2 : Fr p M' M'') : Fr p M M'' := fun q hq => (h2 q hq).trans (h1 q hq)
theorem Fr.up {p i : Nat} {M : vv_M} {r : Nat → Int32} (hi : i < 6) : Fr p M (va_up M (p + i) r) := fun q hq => up_n (by omega)
theorem c_first {n p z : Nat} {g : Nat → Int32} (M : vv_M) (hM : ∀ k, k < 24 → M (p + 1) k = g k) (hL : gLen g) (hz : z ≤ 6) (hn : 8 ≤ n) : f_X2_firstCellOf n p (nI z) M = some (nI (gPre g z), M) := by
  have st : ∀ (j q k : Nat), q + j = z → j < k → f_X2_firstCellOf_4 n k p (nI z) (nI (gPre g q)) (nI q) M = some (nI (gPre g z), M) := by
    intro j
    induction j with
    | zero =>
      intro q k hq hk
      obtain ⟨k, rfl⟩ : ∃ m, k = m + 1 := ⟨k - 1, by omega⟩
      obtain rfl : q = z := by omega
      rw [f_X2_firstCellOf_4.eq_2, if_pos (nI_le (Nat.le_refl _) (by omega))]
    | succ j ih =>
      intro q k hq hk
      obtain ⟨k, rfl⟩ : ∃ m, k = m + 1 := ⟨k - 1, by omega⟩
      rw [f_X2_firstCellOf_4.eq_2]
      have e := (hL q (by omega)).1
      have e2 : M (p + 1) (q * 4 + 0) = nI (gln g q) := by rw [hM _ (by omega), show q * 4 + 0 = 0 + 4 * q + 0 by omega]; exact e
      simp (disch := omega) only [ix_al, ix_ar, ix_ml, ix_mr, ix_cl, ix_cll, ix_n0, ix_l0, ix_nge, or_self, ↓reduceIte, ↓ix_let, ix_bs, up_s, bx_uu, ix_le, ix_lel, e2, nI_add]
      exact ih (q + 1) k (by omega) (by omega)
  exact st z 0 n (by omega) (by omega)
theorem c_belt {n p : Nat} {g : Nat → Int32} (M : vv_M) (hM : ∀ k, k < 24 → M (p + 1) k = g k) (hL : gLen g) (hn : 8 ≤ n) : f_X2_beltLength n p M = some (nI (gPre g 6), M) := by
  unfold f_X2_beltLength
  rw [show (6 : Int32) = nI 6 from rfl, bnd (c_first M hM hL (by omega) hn)]
theorem c_zoneAt {n p c : Nat} {g : Nat → Int32} (M : vv_M) (hM : ∀ k, k < 24 → M (p + 1) k = g k) (hL : gLen g) (hc : c < gPre g 6) (hn : 8 ≤ n) : f_X2_zoneAt n p (nI c) M = some (nI (gZone g c), M) := by
  have h6 := gPre_6 hL
  have hmono : ∀ q, q < 6 → gPre g (q + 1) ≤ gPre g 6 := by
    intro q hq
    rcases (show q = 0 ∨ q = 1 ∨ q = 2 ∨ q = 3 ∨ q = 4 ∨ q = 5 by omega) with rfl | rfl | rfl | rfl | rfl | rfl <;> simp only [gPre] <;> omega
  have st : ∀ (j q k : Nat), q + j = 5 → j < k → gPre g q ≤ c → f_X2_zoneAt_4 n k p (nI c) (nI (gPre g q)) (nI q) M = some (nI (gZone g c), M) := by
    intro j
    induction j with
    | zero =>
      intro q k hq hk h
      obtain ⟨k, rfl⟩ : ∃ m, k = m + 1 := ⟨k - 1, by omega⟩
      obtain rfl : q = 5 := by omega
      rw [f_X2_zoneAt_4.eq_2, if_pos (show (5 : Int32) ≤ nI 5 from nI_le (a := 5) (b := 5) (Nat.le_refl _) (by omega)), gZone_eq (z := 5) (by omega) h hc]
      rfl
    | succ j ih =>
      intro q k hq hk h
      obtain ⟨k, rfl⟩ : ∃ m, k = m + 1 := ⟨k - 1, by omega⟩
      rw [f_X2_zoneAt_4.eq_2]
      have e := (hL q (by omega)).1
      have h9 := hmono q (by omega)
      have h8 : gPre g (q + 1) = gPre g q + gln g q := rfl
      have e2 : M (p + 1) (q * 4 + 0) = nI (gln g q) := by rw [hM _ (by omega), show q * 4 + 0 = 0 + 4 * q + 0 by omega]; exact e
      simp (disch := omega) only [ix_al, ix_ar, ix_ml, ix_mr, ix_cl, ix_cll, ix_n0, ix_l0, ix_nge, or_self, ↓reduceIte, ↓ix_let, ix_bs, up_s, bx_uu, ix_lel, e2, nI_add]
      refine ife (fun h2 => ?_) (fun h2 => ?_)
      · rw [ix_le (by omega) (by omega)] at h2
        exact ih (q + 1) k (by omega) (by omega) h2
      · rw [ix_le (by omega) (by omega)] at h2
        rw [gZone_eq (z := q) (by omega) h (by omega)]
  exact st 5 0 n (by omega) (by omega) (Nat.zero_le _)
def cFault (B : Nat → Int32) (t : Int32) (b κ : Nat) (c : Int32) : Nat → Int32 := if B (b * 22 + 8) &&& ((1 : Int32) <<< (nI κ &&& 31)) = 0 then upd (upd (upd B (b * 22 + 8) (B (b * 22 + 8) ||| ((1 : Int32) <<< (nI κ &&& 31)))) (b * 22 + (12 + κ)) c) (b * 22 + (17 + κ)) t else B
theorem c_noteFault {n p b κ : Nat} (c : Int32) (M : vv_M) (hb : b ≤ 30) (hκ : κ < 5) : f_X2_noteFault n p (nI (b * 22)) (nI κ) c M = some ((), va_up M (p + 4) (cFault (M (p + 4)) (M p 5) b κ c)) := by
  unfold f_X2_noteFault cFault
  have e1 : ∀ q : Nat, p ≠ p + 4 := fun _ => by omega
  simp (disch := omega) only [ix_al, ix_ar, ix_ml, ix_mr, ix_cl, ix_cll, ix_n0, ix_l0, ix_nge, or_self, ↓reduceIte, ↓ix_let, ix_bs, up_s, bx_uu, nI_add, up_n]
  refine ife (fun h => ?_) (fun h => ?_)
  · rw [if_pos h, show b * 22 + 12 + κ = b * 22 + (12 + κ) by omega, show b * 22 + 17 + κ = b * 22 + (17 + κ) by omega]
  · rw [if_neg h, up_id]
theorem gFault_10 {g : Nat → Int32} {P : Prop} [Decidable P] {b k : Nat} {c : Int32} : gFault g (if P then 0 else 1) b k c = if P then g else gFault g 1 b k c := by
  by_cases h : P
  · rw [if_pos h, if_pos h]
    unfold gFault
    rw [if_pos rfl]
  · rw [if_neg h, if_neg h]
theorem cFault_ne {B : Nat → Int32} {t c : Int32} {b κ j : Nat} (h1 : j ≠ b * 22 + 8) (h2 : j ≠ b * 22 + (12 + κ)) (h3 : j ≠ b * 22 + (17 + κ)) : cFault B t b κ c j = B j := by
  unfold cFault
  split
  · rw [ud_ne h3, ud_ne h2, ud_ne h1]
  · rfl
/-- a fault is kept on both sides -/
theorem Rb_fault {B g : Nat → Int32} {b κ : Nat} {c : Int32} (h : Rb B g b) (hκ : κ < 5) : Rb (cFault B (g 52) b κ c) (gFault g 1 b κ c) b := by
  obtain ⟨h1, h2, h3, h4⟩ := h
  have e8 := h1 8 (by omega) (by omega)
  have h10 : ((1 : Int32) = 0) = False := by decide
  unfold gFault
  rw [if_neg (by decide)]
  unfold cFault
  rw [e8]
  by_cases hb : gbit (g (56 + 21 * b + 8)) κ
  · rw [if_pos hb, if_neg (fun q => (cbit_iff (by omega)).mp q hb)]
    exact ⟨h1, h2, h3, h4⟩
  · rw [if_neg hb, if_pos ((cbit_iff (by omega)).mpr hb)]
    have hz : ∀ G : Nat → Int32, (∀ i, i < 56 → G i = g i) → ∀ x, gZone G x = gZone g x := fun G hG x => gZone_congr (fun z hz => hG _ (by omega)) x
    refine ⟨fun j hj h9 => ?_, fun h5 => ?_, fun h5 => ?_, fun k hk => ?_⟩
    · by_cases hj8 : j = 8
      · subst hj8
        rw [ud_ne (by omega), ud_ne (by omega), ud_s, ud_ne (by omega), ud_ne (by omega), ud_s]
      · rw [ud_ne (by omega), ud_ne (by omega), ud_ne (by omega), ud_ne (by omega), ud_ne (by omega), ud_ne (by omega)]
        exact h1 j hj h9
    · rw [ud_ne (by omega), ud_ne (by omega), ud_ne (by omega)] at h5
      obtain ⟨a1, a2⟩ := h2 h5
      unfold gcell at a2 ⊢
      rw [hz _ (fun i hi => by rw [ud_ne (by omega), ud_ne (by omega), ud_ne (by omega)])]
      rw [ud_ne (by omega), ud_ne (by omega), ud_ne (by omega), ud_ne (by omega), ud_ne (by omega), ud_ne (by omega), ud_ne (by omega), ud_ne (by omega), ud_ne (by omega)]
      exact ⟨a1, a2⟩
    · rw [ud_ne (by omega), ud_ne (by omega), ud_ne (by omega)] at h5
      rw [ud_ne (by omega), ud_ne (by omega), ud_ne (by omega)]
      exact h3 h5
    · have e9 : upd (upd (upd g (56 + 21 * b + 8) (g (56 + 21 * b + 8) ||| ((1 : Int32) <<< (nI κ &&& 31)))) (56 + 21 * b + (11 + κ)) c) (56 + 21 * b + (16 + κ)) (g 52) (56 + 21 * b + 8) = g (56 + 21 * b + 8) ||| ((1 : Int32) <<< (nI κ &&& 31)) := by
        rw [ud_ne (by omega), ud_ne (by omega), ud_s]
      rw [e9, gbit_or (by omega) (by omega)]
      by_cases hk2 : k = κ
      · subst hk2
        refine ⟨fun _ => ?_, fun q => absurd (Or.inr rfl) q⟩
        rw [ud_ne (by omega), ud_s, ud_ne (by omega), ud_s, ud_s, ud_s]
        exact ⟨rfl, rfl⟩
      · obtain ⟨a1, a2⟩ := h4 k hk
        rw [ud_ne (by omega), ud_ne (by omega), ud_ne (by omega), ud_ne (by omega), ud_ne (by omega), ud_ne (by omega), ud_ne (by omega), ud_ne (by omega), ud_ne (by omega), ud_ne (by omega), ud_ne (by omega), ud_ne (by omega)]
        exact ⟨fun q => a1 (q.resolve_right hk2), fun q => a2 (fun z => q (Or.inl z))⟩
/-- a board that isn't touched -/
theorem Rb_congr {B B' g g' : Nat → Int32} {b : Nat} (h : Rb B g b) (hB : ∀ j, j < 22 → B' (b * 22 + j) = B (b * 22 + j)) (hg : ∀ j, j < 21 → g' (56 + 21 * b + j) = g (56 + 21 * b + j)) (hz : ∀ x, gZone g' x = gZone g x) : Rb B' g' b := by
  obtain ⟨h1, h2, h3, h4⟩ := h
  refine ⟨fun j hj h9 => by rw [hB j (by omega), hg j (by omega)]; exact h1 j hj h9, fun h5 => ?_, fun h5 => ?_, fun k hk => ?_⟩
  · rw [hg 2 (by omega)] at h5
    unfold gcell
    rw [hB 3 (by omega), hB 11 (by omega), hg 3 (by omega), hz]
    exact h2 h5
  · rw [hg 2 (by omega)] at h5
    rw [hB 3 (by omega)]
    exact h3 h5
  · rw [hg 8 (by omega), hB (12 + k) (by omega), hB (17 + k) (by omega), hg (11 + k) (by omega), hg (16 + k) (by omega)]
    exact h4 k hk
end
section
/-! a board on both sides -/
def bOut (b i : Nat) : Prop := i < b * 22 ∨ b * 22 + 22 ≤ i
theorem Ro_board {p l b : Nat} {M : vv_M} {g g' B' : Nat → Int32} (h : Ro p M g l) (hg : ∀ i, gOut b i → g' i = g i) (hB : ∀ i, bOut b i → B' i = M (p + 4) i) (hb : Rb B' g' b) : Ro p (va_up M (p + 4) B') g' l := by
  obtain ⟨h1, h2, h3, ⟨h4, h5, h6, h7⟩, h8⟩ := h
  have e : ∀ i, i < 56 → g' i = g i := fun i hi => hg i (Or.inl (by omega))
  refine ⟨fun k hk => ?_, fun k hk => ?_, fun k hk => ?_, ⟨?_, ?_, ?_, ?_⟩, fun q hq => ?_⟩
  · rw [up_n (by omega), e k (by omega)]; exact h1 k hk
  · rw [up_n (by omega), e _ (by omega)]; exact h2 k hk
  · rw [up_n (by omega), e _ (by omega)]; exact h3 k hk
  · rw [up_n (by omega), e _ (by omega)]; exact h4
  · rw [up_n (by omega), e _ (by omega)]; exact h5
  · rw [up_n (by omega), e _ (by omega)]; exact h6
  · rw [up_n (by omega), e _ (by omega)]; exact h7
  · rw [up_s]
    by_cases hqb : q = b
    · rw [hqb]; exact hb
    · exact Rb_congr (h8 q hq) (fun j hj => hB _ (by unfold bOut; omega)) (fun j hj => hg _ (by unfold gOut; omega)) (fun x => gZone_congr (fun z hz => e _ (by omega)) x)
theorem cFault_out {B : Nat → Int32} {t c : Int32} {b κ i : Nat} (hκ : κ < 5) (h : bOut b i) : cFault B t b κ c i = B i := by
  unfold bOut at h
  exact cFault_ne (by omega) (by omega) (by omega)
def cF (P : Prop) [Decidable P] (B : Nat → Int32) (t : Int32) (b κ : Nat) (c : Int32) : Nat → Int32 := if P then B else cFault B t b κ c
theorem cF_out {P : Prop} [Decidable P] {B : Nat → Int32} {t c : Int32} {b κ i : Nat} (hκ : κ < 5) (h : bOut b i) : cF P B t b κ c i = B i := by
  unfold cF
  split
  · rfl
  · exact cFault_out hκ h
theorem cF_ne {P : Prop} [Decidable P] {B : Nat → Int32} {t c : Int32} {b κ j : Nat} (h1 : j ≠ b * 22 + 8) (h2 : j ≠ b * 22 + (12 + κ)) (h3 : j ≠ b * 22 + (17 + κ)) : cF P B t b κ c j = B j := by
  unfold cF
  split
  · rfl
  · exact cFault_ne h1 h2 h3
theorem Rb_F {P : Prop} [Decidable P] {B g : Nat → Int32} {t : Int32} {b κ : Nat} {c : Int32} (h : Rb B g b) (hκ : κ < 5) (ht : t = g 52) : Rb (cF P B t b κ c) (gFault g (if P then 0 else 1) b κ c) b := by
  rw [gFault_10, ht]
  unfold cF
  by_cases hp : P
  · rw [if_pos hp, if_pos hp]; exact h
  · rw [if_neg hp, if_neg hp]; exact Rb_fault h hκ
def cLeave0 (B : Nat → Int32) (t : Int32) (b : Nat) : Nat → Int32 := upd (upd (upd B (b * 22 + 2) 1) (b * 22 + 3) (-1009)) (b * 22 + 10) t
def cLeave (B : Nat → Int32) (t c2 c4 : Int32) (b : Nat) (e : Int32) : Nat → Int32 := cF (c4 ≤ B (b * 22 + 6)) (cF (c2 ≤ B (b * 22 + 7)) (cLeave0 B t b) t b 3 e) t b 4 e
theorem c_nf3 {n p b : Nat} (c : Int32) (M : vv_M) (hb : b ≤ 30) : f_X2_noteFault n p (nI (b * 22)) 3 c M = some ((), va_up M (p + 4) (cFault (M (p + 4)) (M p 5) b 3 c)) := c_noteFault (κ := 3) c M hb (by omega)
theorem c_nf4 {n p b : Nat} (c : Int32) (M : vv_M) (hb : b ≤ 30) : f_X2_noteFault n p (nI (b * 22)) 4 c M = some ((), va_up M (p + 4) (cFault (M (p + 4)) (M p 5) b 4 c)) := c_noteFault (κ := 4) c M hb (by omega)
theorem c_nf0 {n p b : Nat} (c : Int32) (M : vv_M) (hb : b ≤ 30) : f_X2_noteFault n p (nI (b * 22)) 0 c M = some ((), va_up M (p + 4) (cFault (M (p + 4)) (M p 5) b 0 c)) := c_noteFault (κ := 0) c M hb (by omega)
theorem c_nf1 {n p b : Nat} (c : Int32) (M : vv_M) (hb : b ≤ 30) : f_X2_noteFault n p (nI (b * 22)) 1 c M = some ((), va_up M (p + 4) (cFault (M (p + 4)) (M p 5) b 1 c)) := c_noteFault (κ := 1) c M hb (by omega)
theorem c_nf2 {n p b : Nat} (c : Int32) (M : vv_M) (hb : b ≤ 30) : f_X2_noteFault n p (nI (b * 22)) 2 c M = some ((), va_up M (p + 4) (cFault (M (p + 4)) (M p 5) b 2 c)) := c_noteFault (κ := 2) c M hb (by omega)
theorem c_leave72 {n p b c : Nat} {B : Nat → Int32} (e : Int32) (M : vv_M) (hb : b ≤ 30) (h4 : c < 4) : f_X2_leave_72 n p (nI (b * 22)) e (nI (c * 6)) (va_up M (p + 4) B) = some ((), va_up M (p + 4) (cF (M (p + 2) (c * 6 + 4) ≤ B (b * 22 + 6)) B (M p 5) b 4 e)) := by
  unfold f_X2_leave_72 cF
  simp (disch := omega) only [ix_al, ix_ar, ix_ml, ix_mr, ix_cl, ix_cll, ix_n0, ix_l0, ix_nge, or_self, ↓reduceIte, ↓ix_let, ix_bs, up_s, bx_uu, up_n, ↓bnd (c_nf4 _ _ hb), c_nf4 _ _ hb]
  refine ife (fun h => ?_) (fun h => ?_)
  · rw [if_pos h]
  · rw [if_neg h]
theorem c_leave {n p b c : Nat} (e : Int32) (M : vv_M) (hb : b ≤ 30) (hc : M (p + 4) (b * 22 + 0) = nI c) (h4 : c < 4) : f_X2_leave n p (nI (b * 22)) e M = some ((), va_up M (p + 4) (cLeave (M (p + 4)) (M p 5) (M (p + 2) (c * 6 + 2)) (M (p + 2) (c * 6 + 4)) b e)) := by
  unfold f_X2_leave
  simp (disch := omega) only [ix_al, ix_ar, ix_ml, ix_mr, ix_cl, ix_cll, ix_n0, ix_l0, ix_nge, or_self, ↓reduceIte, ↓ix_let, ix_bs, up_s, bx_uu, up_n, hc, ↓bnd (c_nf3 _ _ hb), c_nf3 _ _ hb, c_leave72 _ _ hb h4, ud_ne]
  unfold cLeave
  refine ife (fun h => ?_) (fun h => ?_)
  · have hx : cF (M (p + 2) (c * 6 + 2) ≤ M (p + 4) (b * 22 + 7)) (cLeave0 (M (p + 4)) (M p 5) b) (M p 5) b 3 e = cLeave0 (M (p + 4)) (M p 5) b := if_pos h
    have e6 : cLeave0 (M (p + 4)) (M p 5) b (b * 22 + 6) = M (p + 4) (b * 22 + 6) := by
      unfold cLeave0
      rw [ud_ne (by omega), ud_ne (by omega), ud_ne (by omega)]
    rw [hx, ← e6]
    rfl
  · have hx : cF (M (p + 2) (c * 6 + 2) ≤ M (p + 4) (b * 22 + 7)) (cLeave0 (M (p + 4)) (M p 5) b) (M p 5) b 3 e = cFault (cLeave0 (M (p + 4)) (M p 5) b) (M p 5) b 3 e := if_neg h
    rw [hx, cFault_ne (by omega) (by omega) (by omega), ud_ne (by omega), ud_ne (by omega), ud_ne (by omega)]
    rfl
theorem cLeave_out {B : Nat → Int32} {t c2 c4 e : Int32} {b i : Nat} (h : bOut b i) : cLeave B t c2 c4 b e i = B i := by
  have h' := h
  unfold bOut at h'
  unfold cLeave cLeave0
  rw [cF_out (by omega) h, cF_out (by omega) h, ud_ne (by omega), ud_ne (by omega), ud_ne (by omega)]
theorem Rb_leave {B g : Nat → Int32} {b : Nat} {t e x c2 c4 : Int32} (h : Rb B g b) (hon : g (56 + 21 * b + 2) = 0) (ht : t = g 52) (h2 : c2 = gC g b 2) (h4 : c4 = gC g b 4) (hcv : gcv g b < 4) : Rb (cLeave B t c2 c4 b e) (gLeft (upd g (56 + 21 * b + 3) x) b e) b := by
  obtain ⟨a1, a2, a3, a4⟩ := h
  have ec : ∀ k, k < 6 → gC (upd g (56 + 21 * b + 3) x) b k = gC g b k := by
    intro k hk
    have e9 : gcv (upd g (56 + 21 * b + 3) x) b = gcv g b := by
      unfold gcv
      rw [ud_ne (by omega)]
    unfold gC
    rw [e9, ud_ne (by omega)]
  unfold gLeft cLeave
  rw [ec 2 (by omega), ec 4 (by omega), ← h2, ← h4, a1 6 (by omega) (by omega), a1 7 (by omega) (by omega)]
  simp (disch := omega) only [ud_ne]
  refine Rb_F (Rb_F ?_ (by omega) ?_) (by omega) ?_
  · unfold cLeave0
    refine ⟨fun j hj h9 => ?_, fun h5 => ?_, fun h5 => ?_, fun k hk => ?_⟩
    · by_cases hj2 : j = 2
      · subst hj2
        simp (disch := omega) only [ud_ne, ud_s]
      · by_cases hj10 : j = 10
        · subst hj10
          simp (disch := omega) only [ud_ne, ud_s]
          exact ht
        · simp (disch := omega) only [ud_ne]
          exact a1 j hj h9
    · simp (disch := omega) only [ud_ne, ud_s] at h5
      exact absurd h5 (by decide)
    · simp (disch := omega) only [ud_ne, ud_s]
    · simp (disch := omega) only [ud_ne]
      exact a4 k hk
  · simp (disch := omega) only [ud_ne, ht]
  · rw [gFault_ne (by omega) (by omega) (by omega)]
    simp (disch := omega) only [ud_ne, ht]
end
section
/-! moveBoards -/
def gEq2 (l : Nat) (g g' : Nat → Int32) : Prop := ∀ b, b < l → g' (56 + 21 * b + 2) = g (56 + 21 * b + 2)
theorem gMany_congr {g g' : Nat → Int32} {s : Int32} : ∀ {l : Nat}, gEq2 l g g' → gMany g' s l = gMany g s l := by
  intro l
  induction l with
  | zero => intro _; rfl
  | succ l ih =>
    intro h
    show gMany g' s l + (if g' (56 + 21 * l + 2) = s then 1 else 0) = gMany g s l + (if g (56 + 21 * l + 2) = s then 1 else 0)
    rw [ih (fun b hb => h b (by omega)), h l (by omega)]
theorem gMany_one {g g' : Nat → Int32} {s : Int32} {b : Nat} (h : ∀ q, q ≠ b → g' (56 + 21 * q + 2) = g (56 + 21 * q + 2)) : ∀ {l : Nat}, b < l → gMany g' s l = gMany g s l + ((if g' (56 + 21 * b + 2) = s then 1 else 0) - (if g (56 + 21 * b + 2) = s then 1 else 0)) := by
  intro l
  induction l with
  | zero => intro h; omega
  | succ l ih =>
    intro hb
    show gMany g' s l + (if g' (56 + 21 * l + 2) = s then 1 else 0) = gMany g s l + (if g (56 + 21 * l + 2) = s then 1 else 0) + _
    by_cases hl : b = l
    · subst hl
      rw [gMany_congr (g := g) (g' := g') (fun q hq => h q (by omega))]
      generalize (if g' (56 + 21 * b + 2) = s then (1 : Int32) else 0) = u
      generalize (if g (56 + 21 * b + 2) = s then (1 : Int32) else 0) = v
      generalize gMany g s b = w
      grind
    · rw [ih (by omega), h l (fun e => hl e.symm)]
      rw [Int32.add_assoc, Int32.add_comm (_ - _), ← Int32.add_assoc]
theorem b_le_31 {l b : Nat} (h31 : l ≤ 31) (hb : b < l) : b ≤ 30 := by omega
theorem gGoOn_z {g : Nat → Int32} {b x : Nat} : gZone (gGoOn g b) x = gZone g x := gZone_congr (fun z hz => gGoOn_out (Or.inl (by omega))) x
theorem gMv_out {g : Nat → Int32} {b i : Nat} (h : gOut b i) : gMv b g i = g i := by
  unfold gMv
  split
  · exact gGoOn_out h
  · rfl
theorem gMv_many {g : Nat → Int32} {l b : Nat} (hb : b < l) : gMany (gMv b g) 1 l = gMany g 1 l + ((if gMv b g (56 + 21 * b + 2) = 1 then 1 else 0) - (if g (56 + 21 * b + 2) = 1 then 1 else 0)) := gMany_one (fun q hq => gMv_out (by unfold gOut; omega)) hb
theorem c_moveBoards {n p l L : Nat} (hn : 40 ≤ n) : ∀ (j b k : Nat) (x : Int32) (M : vv_M) (g : Nat → Int32), b + j = l → j < k → gInv g l → Ro p M g l → gPre g 6 = L → ∃ M', f_X2_moveBoards_9 n k p (nI L) x (nI b) M = some (x + (gMany (pif gMv b j g) 1 l - gMany g 1 l), M') ∧ Ro p M' (pif gMv b j g) l ∧ Fr p M M' := by
  intro j
  induction j with
  | zero =>
    intro b k x M g hb hk hI hR hP
    obtain ⟨k, rfl⟩ : ∃ q, k = q + 1 := ⟨k - 1, by omega⟩
    obtain rfl : b = l := by omega
    have h31 := hI.2.2.1
    have h6 : M p 6 = nI b := hR.2.2.2.1.2.1.trans hI.2.1
    refine ⟨M, ?_, hR, Fr.rf⟩
    rw [f_X2_moveBoards_9.eq_2, h6, if_pos (nI_le (Nat.le_refl _) (by omega))]
    show _ = some (x + (gMany g 1 b - gMany g 1 b), M)
    rw [Int32.sub_self, Int32.add_zero]
  | succ j ih =>
    intro b k x M g hb hk hI hR hP
    obtain ⟨k, rfl⟩ : ∃ q, k = q + 1 := ⟨k - 1, by omega⟩
    have h31 := hI.2.2.1
    have hb30 : b ≤ 30 := by omega
    have h6 : M p 6 = nI l := hR.2.2.2.1.2.1.trans hI.2.1
    obtain ⟨⟨c, hc4, hc⟩, -, hcell, -⟩ := hI.2.2.2.2.2 b (by omega)
    have hRb := hR.2.2.2.2 b (by omega)
    have hp6 := gPre_6 hI.1
    have e2 : M (p + 4) (b * 22 + 2) = g (56 + 21 * b + 2) := hRb.1 2 (by omega) (by omega)
    have e0 : M (p + 4) (b * 22 + 0) = nI c := (hRb.1 0 (by omega) (by omega)).trans hc
    obtain ⟨s, hs, hs1, hs3⟩ := hI.2.2.2.1
    have e48 : M (p + 3) 0 = nI s := (hR.2.2.1 0 (by omega)).trans hs
    have hcv : gcv g b = c := gcv_eq hc hc4
    have hJ : gInv (gMv b g) l := gMv_inv (by omega) hI
    have hPP : gPre (gMv b g) 6 = L := (gPre_congr (fun z hz => gMv_out (Or.inl (by omega))) 6 (by omega)).trans hP
    rw [f_X2_moveBoards_9.eq_2]
    show ∃ M', _ = some (x + (gMany (pif gMv (b + 1) j (gMv b g)) 1 l - gMany g 1 l), M') ∧ Ro p M' (pif gMv (b + 1) j (gMv b g)) l ∧ Fr p M M'
    by_cases hon : g (56 + 21 * b + 2) = 0
    · obtain ⟨q1, q2⟩ := hcell hon
      have e3 : M (p + 4) (b * 22 + 3) = nI (gcell g b) := (hRb.2.1 hon).1.trans q1
      have hmv : gMv b g = gGoOn g b := if_pos hon
      by_cases hlt : gcell g b + s < L
      · have hB : Ro p (va_up M (p + 4) (upd (upd (M (p + 4)) (b * 22 + 3) (nI (gcell g b + s))) (b * 22 + 11) (nI (gZone g (gcell g b + s))))) (gMv b g) l := by
          rw [hmv]
          refine Ro_board (b := b) hR (fun i hi => gGoOn_out hi) (fun i hi => by unfold bOut at hi; rw [ud_ne (by omega), ud_ne (by omega)]) ?_
          have hg : gGoOn g b = upd g (56 + 21 * b + 3) (nI (gcell g b + s)) := by
            unfold gGoOn
            rw [gBelt_nI hI.1, q1, hs, nI_add, hP, if_pos ((nI_ltI (by omega) (by omega)).mpr hlt)]
          have hz : ∀ y, gZone (upd g (56 + 21 * b + 3) (nI (gcell g b + s))) y = gZone g y := fun y => gZone_congr (fun z hz => ud_ne (by omega)) y
          rw [hg]
          obtain ⟨a1, a2, a3, a4⟩ := hRb
          refine ⟨fun j hj h9 => ?_, fun h5 => ?_, fun h5 => ?_, fun k hk => ?_⟩
          · simp (disch := omega) only [ud_ne]
            exact a1 j hj h9
          · have ec : gcell (upd g (56 + 21 * b + 3) (nI (gcell g b + s))) b = gcell g b + s := by
              show (upd g (56 + 21 * b + 3) (nI (gcell g b + s)) (56 + 21 * b + 3)).toNatClampNeg = _
              rw [ud_s, ix_cl (by omega)]
            rw [ec, hz, ud_ne (by omega), ud_s, ud_s, ud_s]
            exact ⟨rfl, rfl⟩
          · simp (disch := omega) only [ud_ne] at h5
            exact absurd hon h5
          · simp (disch := omega) only [ud_ne]
            exact a4 k hk
        obtain ⟨M', h1, h2, h3⟩ := ih (b + 1) k x _ (gMv b g) (by omega) (by omega) hJ hB hPP
        refine ⟨M', ?_, h2, Fr.tr (Fr.up (by omega)) h3⟩
        have hz := c_zoneAt (n := n) (p := p) (c := gcell g b + s) (g := g) (va_up M (p + 4) (upd (M (p + 4)) (b * 22 + 3) (nI (gcell g b + s)))) (fun k hk => by rw [up_n (by omega)]; exact hR.1 k hk) hI.1 (by omega) (by omega)
        have hlt' : (nI L ≤ nI (gcell g b + s)) = False := eq_false (fun h => absurd ((nI_leI (by omega) (by omega)).mp h) (by omega))
        have h6' : (nI l ≤ nI b) = False := eq_false (fun h => absurd ((nI_leI (by omega) (by omega)).mp h) (by omega))
        simp (disch := omega) only [ix_al, ix_ar, ix_ml, ix_mr, ix_cl, ix_cll, ix_n0, ix_l0, ix_nge, or_self, ↓reduceIte, ↓ix_let, ix_bs, up_s, bx_uu, h6, h6', e2, hon, e3, e48, nI_add, hlt', ↓bnd hz, f_X2_moveBoards_86, f_X2_moveBoards_99]
        rw [h1, gMv_many (by omega)]
        have h0 : gMv b g (56 + 21 * b + 2) = 0 := by
          rw [hmv]
          unfold gGoOn
          rw [gBelt_nI hI.1, q1, hs, nI_add, hP, if_pos ((nI_ltI (by omega) (by omega)).mpr hlt), ud_ne (by omega), hon]
        rw [h0, hon, Int32.sub_self, Int32.add_zero]
      · have hg : gGoOn g b = gLeft (upd g (56 + 21 * b + 3) (nI (gcell g b + s))) b (nI L) := by
          unfold gGoOn
          rw [gBelt_nI hI.1, q1, hs, nI_add, hP, if_neg (fun h => hlt ((nI_ltI (by omega) (by omega)).mp h))]
        have hB : Ro p (va_up M (p + 4) (cLeave (M (p + 4)) (M p 5) (M (p + 2) (c * 6 + 2)) (M (p + 2) (c * 6 + 4)) b (nI L))) (gMv b g) l := by
          rw [hmv]
          refine Ro_board (b := b) hR (fun i hi => gGoOn_out hi) (fun i hi => cLeave_out hi) ?_
          rw [hg]
          refine Rb_leave hRb hon hR.2.2.2.1.1 ?_ ?_ (by omega)
          · rw [hR.2.1 _ (by omega)]
            unfold gC
            rw [hcv, show 24 + (c * 6 + 2) = 24 + 6 * c + 2 by omega]
          · rw [hR.2.1 _ (by omega)]
            unfold gC
            rw [hcv, show 24 + (c * 6 + 4) = 24 + 6 * c + 4 by omega]
        obtain ⟨M', h1, h2, h3⟩ := ih (b + 1) k (x + 1) _ (gMv b g) (by omega) (by omega) hJ hB hPP
        refine ⟨M', ?_, h2, Fr.tr (Fr.up (by omega)) h3⟩
        have hlt' : (nI L ≤ nI (gcell g b + s)) = True := eq_true ((nI_leI (by omega) (by omega)).mpr (by omega))
        have h6' : (nI l ≤ nI b) = False := eq_false (fun h => absurd ((nI_leI (by omega) (by omega)).mp h) (by omega))
        have hl := c_leave (n := n) (p := p) (nI L) M hb30 e0 hc4
        simp (disch := omega) only [ix_al, ix_ar, ix_ml, ix_mr, ix_cl, ix_cll, ix_n0, ix_l0, ix_nge, or_self, ↓reduceIte, ↓ix_let, ix_bs, up_s, bx_uu, h6, h6', e2, hon, e3, e48, nI_add, hlt', ↓bnd hl, f_X2_moveBoards_86, f_X2_moveBoards_99]
        rw [h1, gMv_many (by omega)]
        have h0 : gMv b g (56 + 21 * b + 2) = 1 := by
          rw [hmv, hg]
          unfold gLeft
          rw [gFault_ne (by omega) (by omega) (by omega), gFault_ne (by omega) (by omega) (by omega), ud_ne (by omega), ud_s]
        rw [h0, hon, if_pos rfl, if_neg (by decide)]
        have e : ∀ u v w : Int32, u + 1 + (v - (w + (1 - 0))) = u + (v - w) := by
          intro u v w
          grind
        rw [e]
    · have hmv : gMv b g = g := if_neg hon
      rw [hmv]
      obtain ⟨M', h1, h2, h3⟩ := ih (b + 1) k x M g (by omega) (by omega) hI hR hP
      refine ⟨M', ?_, h2, h3⟩
      have h6' : (nI l ≤ nI b) = False := eq_false (fun h => absurd ((nI_leI (by omega) (by omega)).mp h) (by omega))
      simp (disch := omega) only [ix_al, ix_ar, ix_ml, ix_mr, ix_cl, ix_cll, ix_n0, ix_l0, ix_nge, or_self, ↓reduceIte, ↓ix_let, ix_bs, up_s, bx_uu, h6, h6', e2, hon, f_X2_moveBoards_99]
      exact h1
end
section
/-! the weights and the warmths -/
theorem c_sum23 {n p l : Nat} (hn : 40 ≤ n) {M : vv_M} {g : Nat → Int32} (hI : gInv g l) (hR : Ro p M g l) : ∀ (j b k : Nat) (W : Nat → Int32), b + j = l → j < k → (∀ z, z < 6 → W z = gW g z b) → ∃ W', f_X2_sumWeights_23 n k p (nI b) (va_up M (p + 5) W) = some ((), va_up M (p + 5) W') ∧ ∀ z, z < 6 → W' z = gW g z l := by
  have h31 := hI.2.2.1
  have h6 : M p 6 = nI l := hR.2.2.2.1.2.1.trans hI.2.1
  intro j
  induction j with
  | zero =>
    intro b k W hb hk hW
    obtain ⟨k, rfl⟩ : ∃ q, k = q + 1 := ⟨k - 1, by omega⟩
    obtain rfl : b = l := by omega
    refine ⟨W, ?_, hW⟩
    rw [f_X2_sumWeights_23.eq_2, up_n (by omega), h6, if_pos (nI_le (Nat.le_refl _) (by omega))]
  | succ j ih =>
    intro b k W hb hk hW
    obtain ⟨k, rfl⟩ : ∃ q, k = q + 1 := ⟨k - 1, by omega⟩
    have hRb := hR.2.2.2.2 b (by omega)
    have h6' : (nI l ≤ nI b) = False := eq_false (fun h => absurd ((nI_leI (by omega) (by omega)).mp h) (by omega))
    have e2 : M (p + 4) (b * 22 + 2) = g (56 + 21 * b + 2) := hRb.1 2 (by omega) (by omega)
    have e1 : M (p + 4) (b * 22 + 1) = g (56 + 21 * b + 1) := hRb.1 1 (by omega) (by omega)
    rw [f_X2_sumWeights_23.eq_2]
    by_cases hon : g (56 + 21 * b + 2) = 0
    · have hz7 := gZone_lt g (gcell g b)
      have e11 := (hRb.2.1 hon).2
      obtain ⟨W', h1, h2⟩ := ih (b + 1) k (upd W (gZone g (gcell g b)) (W (gZone g (gcell g b)) + g (56 + 21 * b + 1))) (by omega) (by omega) (by
        intro z hz
        show _ = if g (56 + 21 * b + 2) = 0 ∧ gZone g (gcell g b) = z then gW g z b + g (56 + 21 * b + 1) else gW g z b
        by_cases hzz : gZone g (gcell g b) = z
        · rw [if_pos ⟨hon, hzz⟩, hzz, ud_s, hW z hz]
        · rw [if_neg (fun q => hzz q.2), ud_ne (fun q => hzz q.symm), hW z hz])
      refine ⟨W', ?_, h2⟩
      rw [← h1]
      simp (disch := omega) only [ix_al, ix_ar, ix_ml, ix_mr, ix_cl, ix_cll, ix_n0, ix_l0, ix_nge, or_self, ↓reduceIte, ↓ix_let, ix_bs, up_s, bx_uu, up_n, h6, h6', e2, hon, e1, e11, f_X2_sumWeights_72]
    · obtain ⟨W', h1, h2⟩ := ih (b + 1) k W (by omega) (by omega) (by
        intro z hz
        show _ = if g (56 + 21 * b + 2) = 0 ∧ gZone g (gcell g b) = z then gW g z b + g (56 + 21 * b + 1) else gW g z b
        rw [if_neg (fun q => hon q.1), hW z hz])
      refine ⟨W', ?_, h2⟩
      rw [← h1]
      simp (disch := omega) only [ix_al, ix_ar, ix_ml, ix_mr, ix_cl, ix_cll, ix_n0, ix_l0, ix_nge, or_self, ↓reduceIte, ↓ix_let, ix_bs, up_s, bx_uu, up_n, h6, h6', e2, hon, f_X2_sumWeights_72]
theorem c_sum2 {n p l : Nat} (hn : 40 ≤ n) {M : vv_M} {g : Nat → Int32} (hI : gInv g l) (hR : Ro p M g l) : ∀ (j z k : Nat) (W : Nat → Int32), z + j = 6 → j < k → (∀ q, q < z → W q = 0) → ∃ W', f_X2_sumWeights_2 n k p (nI z) (va_up M (p + 5) W) = some ((), va_up M (p + 5) W') ∧ ∀ z, z < 6 → W' z = gW g z l := by
  intro j
  induction j with
  | zero =>
    intro z k W hz hk hW
    obtain ⟨k, rfl⟩ : ∃ q, k = q + 1 := ⟨k - 1, by omega⟩
    obtain rfl : z = 6 := by omega
    rw [f_X2_sumWeights_2.eq_2]
    have h31 := hI.2.2.1
    exact c_sum23 hn hI hR l 0 n W (by omega) (by omega) (fun q hq => hW q hq)
  | succ j ih =>
    intro z k W hz hk hW
    obtain ⟨k, rfl⟩ : ∃ q, k = q + 1 := ⟨k - 1, by omega⟩
    obtain ⟨W', h1, h2⟩ := ih (z + 1) k (upd W z 0) (by omega) (by omega) (by
      intro q hq
      by_cases hqz : q = z
      · rw [hqz, ud_s]
      · rw [ud_ne hqz]
        exact hW q (by omega))
    refine ⟨W', ?_, h2⟩
    rw [f_X2_sumWeights_2.eq_2, ← h1]
    simp (disch := omega) only [ix_al, ix_ar, ix_ml, ix_mr, ix_cl, ix_cll, ix_n0, ix_l0, ix_nge, or_self, ↓reduceIte, ↓ix_let, ix_bs, up_s, bx_uu, ix_lel]
theorem c_sumWeights {n p l : Nat} (hn : 40 ≤ n) {M : vv_M} {g : Nat → Int32} (hI : gInv g l) (hR : Ro p M g l) : ∃ W, f_X2_sumWeights n p M = some ((), va_up M (p + 5) W) ∧ ∀ z, z < 6 → W z = gW g z l := by
  have h := c_sum2 hn hI hR 6 0 n (M (p + 5)) (by omega) (by omega) (fun q hq => absurd hq (Nat.not_lt_zero q))
  rw [up_id] at h
  exact h
theorem Ro_w {p l : Nat} {M : vv_M} {g W : Nat → Int32} (h : Ro p M g l) : Ro p (va_up M (p + 5) W) g l := by
  obtain ⟨h1, h2, h3, ⟨h4, h5, h6, h7⟩, h8⟩ := h
  refine ⟨?_, ?_, ?_, ?_, ?_⟩
  · rw [up_n (by omega)]; exact h1
  · rw [up_n (by omega)]; exact h2
  · rw [up_n (by omega)]; exact h3
  · rw [up_n (by omega)]; exact ⟨h4, h5, h6, h7⟩
  · rw [up_n (by omega)]; exact h8
theorem gW_congr {g g' : Nat → Int32} (hz : ∀ z, z < 6 → g' (0 + 4 * z + 0) = g (0 + 4 * z + 0)) (h : ∀ i, 56 ≤ i → g' i = g i) (z : Nat) : ∀ l, gW g' z l = gW g z l := by
  intro l
  induction l with
  | zero => rfl
  | succ l ih =>
    show (if g' (56 + 21 * l + 2) = 0 ∧ gZone g' (gcell g' l) = z then gW g' z l + g' (56 + 21 * l + 1) else gW g' z l) = (if g (56 + 21 * l + 2) = 0 ∧ gZone g (gcell g l) = z then gW g z l + g (56 + 21 * l + 1) else gW g z l)
    have e : gcell g' l = gcell g l := by
      unfold gcell
      rw [h _ (by omega)]
    rw [e, gZone_congr hz, ih, h _ (by omega), h _ (by omega)]
/-- a change below the boards, on both sides -/
theorem Ro_zone {p l z : Nat} {M : vv_M} {g : Nat → Int32} {v : Int32} (h : Ro p M g l) (hz : z < 6) : Ro p (va_up M (p + 1) (upd (M (p + 1)) (z * 4 + 3) v)) (upd g (0 + 4 * z + 3) v) l := by
  obtain ⟨h1, h2, h3, ⟨h4, h5, h6, h7⟩, h8⟩ := h
  refine ⟨fun k hk => ?_, fun k hk => ?_, fun k hk => ?_, ⟨?_, ?_, ?_, ?_⟩, fun b hb => ?_⟩
  · rw [up_s]
    by_cases hk2 : k = z * 4 + 3
    · rw [hk2, ud_s, show z * 4 + 3 = 0 + 4 * z + 3 by omega, ud_s]
    · rw [ud_ne hk2, ud_ne (by omega)]; exact h1 k hk
  · rw [up_n (by omega), ud_ne (by omega)]; exact h2 k hk
  · rw [up_n (by omega), ud_ne (by omega)]; exact h3 k hk
  · rw [up_n (by omega), ud_ne (by omega)]; exact h4
  · rw [up_n (by omega), ud_ne (by omega)]; exact h5
  · rw [up_n (by omega), ud_ne (by omega)]; exact h6
  · rw [up_n (by omega), ud_ne (by omega)]; exact h7
  · rw [up_n (by omega)]
    exact Rb_congr (h8 b hb) (fun j hj => rfl) (fun j hj => ud_ne (by omega)) (fun x => gZone_congr (fun q hq => ud_ne (by omega)) x)
theorem max_i (n : Nat) (x y : Int32) (M : vv_M) : f_J9_max_7cf53 n x y M = some (if y ≤ x then x else y, M) := by
  unfold f_J9_max_7cf53
  by_cases h : x < y
  · rw [if_pos h, if_neg (Int32.not_le.mpr h)]
  · rw [if_neg h, if_pos (Int32.not_lt.mp h)]
theorem min_i (n : Nat) (x y : Int32) (M : vv_M) : f_J9_min_7cf53 n x y M = some (if x ≤ y then x else y, M) := by
  unfold f_J9_min_7cf53
  by_cases h : y < x
  · rw [if_pos h, if_neg (Int32.not_le.mpr h)]
  · rw [if_neg h, if_pos (Int32.not_lt.mp h)]
theorem c_cool (w : Int32) : (if w ≤ 20 then (20 : Int32) else w) = if 20 ≤ w then w else 20 := by
  by_cases h : w ≤ 20
  · rw [if_pos h]
    by_cases h2 : (20 : Int32) ≤ w
    · rw [if_pos h2]; exact Int32.le_antisymm h2 h
    · rw [if_neg h2]
  · rw [if_neg h, if_pos (Int32.le_of_lt (Int32.not_le.mp h))]
theorem c_warmths {n p l : Nat} (hn : 40 ≤ n) : ∀ (j z k : Nat) (M : vv_M) (g : Nat → Int32), z + j = 6 → j < k → gInv g l → Ro p M g l → (∀ z, z < 6 → M (p + 5) z = gW g z l) → ∃ M', f_X2_changeWarmths_6 n k p (nI z) M = some ((), M') ∧ Ro p M' (pif (gHeat l) z j g) l ∧ Fr p M M' := by
  intro j
  induction j with
  | zero =>
    intro z k M g hz hk hI hR hW
    obtain ⟨k, rfl⟩ : ∃ q, k = q + 1 := ⟨k - 1, by omega⟩
    obtain rfl : z = 6 := by omega
    refine ⟨M, ?_, hR, Fr.rf⟩
    rw [f_X2_changeWarmths_6.eq_2]
    rfl
  | succ j ih =>
    intro z k M g hz hk hI hR hW
    obtain ⟨k, rfl⟩ : ∃ q, k = q + 1 := ⟨k - 1, by omega⟩
    have ew := hW z (by omega)
    have d1 : M (p + 1) (z * 4 + 1) = g (0 + 4 * z + 1) := by rw [hR.1 _ (by omega), show z * 4 + 1 = 0 + 4 * z + 1 by omega]
    have d2 : M (p + 1) (z * 4 + 2) = g (0 + 4 * z + 2) := by rw [hR.1 _ (by omega), show z * 4 + 2 = 0 + 4 * z + 2 by omega]
    have d3 : M (p + 1) (z * 4 + 3) = g (0 + 4 * z + 3) := by rw [hR.1 _ (by omega), show z * 4 + 3 = 0 + 4 * z + 3 by omega]
    have d51 : M (p + 3) 3 = g 51 := hR.2.2.1 3 (by omega)
    have h5 : ((5 : Int32) = 0) = False := by decide
    have hR2 := Ro_zone (z := z) (v := gNew (g (0 + 4 * z + 3) - g 51 * gW g z l / 5) (g (0 + 4 * z + 1)) (g (0 + 4 * z + 2))) hR (by omega)
    obtain ⟨M', h1, h2, h3⟩ := ih (z + 1) k _ (gHeat l z g) (by omega) (by omega) (gHeat_inv hI (by omega)) hR2 (by
      intro q hq
      rw [up_n (by omega), hW q hq]
      exact (gW_congr (fun z hz => ud_ne (by omega)) (fun i hi => ud_ne (by omega)) q l).symm)
    refine ⟨M', ?_, h2, Fr.tr (Fr.up (by omega)) h3⟩
    rw [f_X2_changeWarmths_6.eq_2, ← h1]
    simp (disch := omega) only [ix_al, ix_ar, ix_ml, ix_mr, ix_cl, ix_cll, ix_n0, ix_l0, ix_nge, or_self, ↓reduceIte, ↓ix_let, ix_bs, up_s, bx_uu, ix_lel, d1, d2, d3, d51, h5, ew, max_i, min_i, c_cool, f_X2_changeWarmths_66, f_X2_changeWarmths_97]
    unfold gNew
    generalize (if (20 : Int32) ≤ g (0 + 4 * z + 3) - g 51 * gW g z l / 5 then g (0 + 4 * z + 3) - g 51 * gW g z l / 5 else 20) = w
    refine ife (fun h => ?_) (fun h => ?_)
    · rw [if_pos h]
    · rw [if_neg h]
theorem c_changeWarmths {n p l : Nat} (hn : 40 ≤ n) {M : vv_M} {g : Nat → Int32} (hI : gInv g l) (hR : Ro p M g l) : ∃ M', f_X2_changeWarmths n p M = some ((), M') ∧ Ro p M' (pif (gHeat l) 0 6 g) l ∧ Fr p M M' := by
  obtain ⟨W, h1, h2⟩ := c_sumWeights hn hI hR
  obtain ⟨M', h3, h4, h5⟩ := c_warmths hn 6 0 n (va_up M (p + 5) W) g (by omega) (by omega) hI (Ro_w hR) (by
    intro z hz
    rw [up_s]
    exact h2 z hz)
  refine ⟨M', ?_, h4, Fr.tr (Fr.up (by omega)) h5⟩
  unfold f_X2_changeWarmths
  rw [bnd h1]
  exact h3
end
section
/-! warm and judgeOnBelt -/
def cWarmA (B : Nat → Int32) (b : Nat) (rise deg c1 : Int32) : Nat → Int32 := if deg ≤ c1 then upd (upd (upd B (b * 22 + 5) rise) (b * 22 + 4) deg) (b * 22 + 6) (if deg ≤ B (b * 22 + 6) then B (b * 22 + 6) else deg) else upd (upd (upd (upd B (b * 22 + 5) rise) (b * 22 + 4) deg) (b * 22 + 6) (if deg ≤ B (b * 22 + 6) then B (b * 22 + 6) else deg)) (b * 22 + 7) (B (b * 22 + 7) + 1)
theorem c_warm {n p b c z w : Nat} (M : vv_M) (hb : b ≤ 30) (hc : M (p + 4) (b * 22 + 0) = nI c) (h4 : c < 4) (hz : M (p + 4) (b * 22 + 11) = nI z) (hz6 : z < 6) (hw : M (p + 4) (b * 22 + 1) = nI w) (hw9 : w ≤ 9) (rise : Int32) (hr : rise = (M (p + 1) (z * 4 + 3) - M (p + 4) (b * 22 + 4)) / nI (w + 1)) : f_X2_warm n p (nI (b * 22)) M = some ((), va_up M (p + 4) (cWarmA (M (p + 4)) b rise (M (p + 4) (b * 22 + 4) + rise) (M (p + 2) (c * 6 + 1)))) := by
  unfold f_X2_warm f_X2_warm_59
  simp (disch := omega) only [ix_al, ix_ar, ix_ml, ix_mr, ix_cl, ix_cll, ix_n0, ix_l0, ix_nge, or_self, ↓reduceIte, ↓ix_let, ix_bs, up_s, bx_uu, up_n, hz, hw, i32_ne0, ← hr, max_i, hc, ud_ne]
  unfold cWarmA
  refine ife (fun h => ?_) (fun h => ?_)
  · rw [if_pos h]
  · rw [if_neg h]
theorem Rb_warmA {B g : Nat → Int32} {b c : Nat} {rise deg c1 : Int32} (h : Rb B g b) (hon : g (56 + 21 * b + 2) = 0) (h1 : c1 = g (24 + 6 * c + 1)) : Rb (cWarmA B b rise deg c1) (gWarmA g b c rise deg) b := by
  obtain ⟨a1, a2, a3, a4⟩ := h
  have e6 := a1 6 (by omega) (by omega)
  have e7 := a1 7 (by omega) (by omega)
  have hgc : ∀ v1 v2 v3 v4 : Int32, gcell (upd (upd (upd (upd g (56 + 21 * b + 5) v1) (56 + 21 * b + 4) v2) (56 + 21 * b + 6) v3) (56 + 21 * b + 7) v4) b = gcell g b := by
    intro v1 v2 v3 v4
    unfold gcell
    simp (disch := omega) only [ud_ne]
  have hgz : ∀ (v1 v2 v3 v4 : Int32) (x : Nat), gZone (upd (upd (upd (upd g (56 + 21 * b + 5) v1) (56 + 21 * b + 4) v2) (56 + 21 * b + 6) v3) (56 + 21 * b + 7) v4) x = gZone g x := by
    intro v1 v2 v3 v4 x
    exact gZone_congr (fun z hz => by simp (disch := omega) only [ud_ne]) x
  have hB : ∀ i, i ≠ b * 22 + 5 → i ≠ b * 22 + 4 → i ≠ b * 22 + 6 → i ≠ b * 22 + 7 → cWarmA B b rise deg c1 i = B i := by
    intro i h1 h2 h3 h4
    unfold cWarmA
    split
    · rw [ud_ne h3, ud_ne h2, ud_ne h1]
    · rw [ud_ne h4, ud_ne h3, ud_ne h2, ud_ne h1]
  unfold gWarmA
  refine ⟨fun j hj h9 => ?_, fun h5 => ?_, fun h5 => ?_, fun k hk => ?_⟩
  · by_cases j5 : j = 5
    · subst j5
      unfold cWarmA
      split <;> simp (disch := omega) only [ud_ne, ud_s]
    by_cases j4 : j = 4
    · subst j4
      unfold cWarmA
      split <;> simp (disch := omega) only [ud_ne, ud_s]
    by_cases j6 : j = 6
    · subst j6
      unfold cWarmA
      rw [e6]
      split <;> simp (disch := omega) only [ud_ne, ud_s]
    by_cases j7 : j = 7
    · subst j7
      unfold cWarmA
      rw [e7, h1]
      split
      · rename_i hd
        rw [gLe_p hd, ud_s, ud_ne (by omega), ud_ne (by omega), ud_ne (by omega), e7, Int32.add_zero]
      · rename_i hd
        rw [gLe_n hd, ud_s, ud_s]
    · rw [hB _ (by omega) (by omega) (by omega) (by omega)]
      simp (disch := omega) only [ud_ne]
      exact a1 j hj h9
  · rw [hB _ (by omega) (by omega) (by omega) (by omega), hB _ (by omega) (by omega) (by omega) (by omega), hgc, hgz]
    simp (disch := omega) only [ud_ne]
    exact a2 hon
  · simp (disch := omega) only [ud_ne] at h5
    exact absurd hon h5
  · rw [hB _ (by omega) (by omega) (by omega) (by omega), hB _ (by omega) (by omega) (by omega) (by omega)]
    simp (disch := omega) only [ud_ne]
    exact a4 k hk
def cPlea (rise c0 above c3 : Int32) : Int32 := if rise ≤ c0 then (if above ≤ c3 then 0 else 2) else 1
def cJudge (B : Nat → Int32) (t : Int32) (b : Nat) (c0 c3 c5 : Int32) : Nat → Int32 := upd (cF (B (b * 22 + 4) ≤ c5) (cF (B (b * 22 + 5) ≤ c0) (cF (B (b * 22 + 7) ≤ c3) B t b 1 (B (b * 22 + 3))) t b 0 (B (b * 22 + 3))) t b 2 (B (b * 22 + 3))) (b * 22 + 9) (cPlea (B (b * 22 + 5)) c0 (B (b * 22 + 7)) c3)
theorem c_j83 {n p b c : Nat} {B : Nat → Int32} (cell pl : Int32) (M : vv_M) (hb : b ≤ 30) (h4 : c < 4) : f_X2_judgeOnBelt_83 n p (nI (b * 22)) (nI (c * 6)) cell pl (va_up M (p + 4) B) = some ((), va_up M (p + 4) (upd (cF (B (b * 22 + 4) ≤ M (p + 2) (c * 6 + 5)) B (M p 5) b 2 cell) (b * 22 + 9) pl)) := by
  unfold f_X2_judgeOnBelt_83 f_X2_judgeOnBelt_109 cF
  simp (disch := omega) only [ix_al, ix_ar, ix_ml, ix_mr, ix_cl, ix_cll, ix_n0, ix_l0, ix_nge, or_self, ↓reduceIte, ↓ix_let, ix_bs, up_s, bx_uu, up_n, ↓bnd (c_nf2 _ _ hb), c_nf2 _ _ hb]
  refine ife (fun h => ?_) (fun h => ?_)
  · rw [if_pos h]
  · rw [if_neg h]
theorem c_j54 {n p b c : Nat} {B : Nat → Int32} (cell pl : Int32) (M : vv_M) (hb : b ≤ 30) (h4 : c < 4) : f_X2_judgeOnBelt_54 n p (nI (b * 22)) (nI (c * 6)) cell pl (va_up M (p + 4) B) = some ((), va_up M (p + 4) (upd (cF (B (b * 22 + 4) ≤ M (p + 2) (c * 6 + 5)) (cF (B (b * 22 + 5) ≤ M (p + 2) (c * 6 + 0)) B (M p 5) b 0 cell) (M p 5) b 2 cell) (b * 22 + 9) (if B (b * 22 + 5) ≤ M (p + 2) (c * 6 + 0) then pl else 1))) := by
  unfold f_X2_judgeOnBelt_54
  simp (disch := omega) only [ix_al, ix_ar, ix_ml, ix_mr, ix_cl, ix_cll, ix_n0, ix_l0, ix_nge, or_self, ↓reduceIte, ↓ix_let, ix_bs, up_s, bx_uu, up_n, ↓bnd (c_nf0 _ _ hb), c_nf0 _ _ hb, c_j83 _ _ _ hb h4]
  refine ife (fun h => ?_) (fun h => ?_)
  · have hx : cF (B (b * 22 + 5) ≤ M (p + 2) (c * 6 + 0)) B (M p 5) b 0 cell = B := if_pos h
    rw [hx, if_pos h]
  · have hx : cF (B (b * 22 + 5) ≤ M (p + 2) (c * 6 + 0)) B (M p 5) b 0 cell = cFault B (M p 5) b 0 cell := if_neg h
    rw [hx, if_neg h, cFault_ne (by omega) (by omega) (by omega)]
theorem c_judge {n p b c : Nat} {B : Nat → Int32} (M : vv_M) (hb : b ≤ 30) (hc : B (b * 22 + 0) = nI c) (h4 : c < 4) : f_X2_judgeOnBelt n p (nI (b * 22)) (va_up M (p + 4) B) = some ((), va_up M (p + 4) (cJudge B (M p 5) b (M (p + 2) (c * 6 + 0)) (M (p + 2) (c * 6 + 3)) (M (p + 2) (c * 6 + 5)))) := by
  unfold f_X2_judgeOnBelt
  simp (disch := omega) only [ix_al, ix_ar, ix_ml, ix_mr, ix_cl, ix_cll, ix_n0, ix_l0, ix_nge, or_self, ↓reduceIte, ↓ix_let, ix_bs, up_s, bx_uu, up_n, hc, ↓bnd (c_nf1 _ _ hb), c_nf1 _ _ hb, c_j54 _ _ _ hb h4]
  unfold cJudge cPlea
  refine ife (fun h => ?_) (fun h => ?_)
  · have hx : cF (B (b * 22 + 7) ≤ M (p + 2) (c * 6 + 3)) B (M p 5) b 1 (B (b * 22 + 3)) = B := if_pos h
    rw [hx, if_pos h]
  · have hx : cF (B (b * 22 + 7) ≤ M (p + 2) (c * 6 + 3)) B (M p 5) b 1 (B (b * 22 + 3)) = cFault B (M p 5) b 1 (B (b * 22 + 3)) := if_neg h
    rw [hx, if_neg h, cFault_ne (by omega) (by omega) (by omega), cFault_ne (by omega) (by omega) (by omega)]
theorem gFault_8 {g : Nat → Int32} {x c : Int32} {b κ k : Nat} (hκ : κ < 5) (hk : k < 5) (hne : k ≠ κ) : gbit (gFault g x b κ c (56 + 21 * b + 8)) k ↔ gbit (g (56 + 21 * b + 8)) k := by
  unfold gFault
  split
  · exact Iff.rfl
  split
  · exact Iff.rfl
  rw [ud_ne (by omega), ud_ne (by omega), ud_s, gbit_or (by omega) (by omega)]
  exact ⟨fun h => h.resolve_right hne, Or.inl⟩
theorem ud_comm {f : Nat → Int32} {i j : Nat} {v w : Int32} (h : i ≠ j) : upd (upd f i v) j w = upd (upd f j w) i v := by
  funext q
  by_cases h1 : q = i
  · subst h1
    rw [ud_ne h, ud_s, ud_s]
  · by_cases h2 : q = j
    · subst h2
      rw [ud_s, ud_ne h1, ud_s]
    · rw [ud_ne h2, ud_ne h1, ud_ne h1, ud_ne h2]
theorem gFault_comm {g : Nat → Int32} {x y c d : Int32} {b : Nat} : gFault (gFault g x b 0 c) y b 1 d = gFault (gFault g y b 1 d) x b 0 c := by
  by_cases hx : x = 0
  · have e : ∀ G, gFault G x b 0 c = G := fun G => if_pos hx
    rw [e, e]
  by_cases hy : y = 0
  · have e : ∀ G, gFault G y b 1 d = G := fun G => if_pos hy
    rw [e, e]
  by_cases h0 : gbit (g (56 + 21 * b + 8)) 0
  · have e : ∀ G : Nat → Int32, gbit (G (56 + 21 * b + 8)) 0 → gFault G x b 0 c = G := fun G hG => by
      unfold gFault
      rw [if_neg hx, if_pos hG]
    rw [e g h0, e _ ((gFault_8 (by omega) (by omega) (by omega)).mpr h0)]
  by_cases h1 : gbit (g (56 + 21 * b + 8)) 1
  · have e : ∀ G : Nat → Int32, gbit (G (56 + 21 * b + 8)) 1 → gFault G y b 1 d = G := fun G hG => by
      unfold gFault
      rw [if_neg hy, if_pos hG]
    rw [e g h1, e _ ((gFault_8 (by omega) (by omega) (by omega)).mpr h1)]
  have e0 : ∀ G : Nat → Int32, ¬ gbit (G (56 + 21 * b + 8)) 0 → gFault G x b 0 c = upd (upd (upd G (56 + 21 * b + 8) (G (56 + 21 * b + 8) ||| ((1 : Int32) <<< (nI 0 &&& 31)))) (56 + 21 * b + (11 + 0)) c) (56 + 21 * b + (16 + 0)) (G 52) := fun G hG => by
    unfold gFault
    rw [if_neg hx, if_neg hG]
  have e1 : ∀ G : Nat → Int32, ¬ gbit (G (56 + 21 * b + 8)) 1 → gFault G y b 1 d = upd (upd (upd G (56 + 21 * b + 8) (G (56 + 21 * b + 8) ||| ((1 : Int32) <<< (nI 1 &&& 31)))) (56 + 21 * b + (11 + 1)) d) (56 + 21 * b + (16 + 1)) (G 52) := fun G hG => by
    unfold gFault
    rw [if_neg hy, if_neg hG]
  rw [e1 (gFault g x b 0 c) (fun h => h1 ((gFault_8 (by omega) (by omega) (by omega)).mp h)), e0 (gFault g y b 1 d) (fun h => h0 ((gFault_8 (by omega) (by omega) (by omega)).mp h)), e0 g h0, e1 g h1]
  funext q
  generalize hA : (1 : Int32) <<< (nI 0 &&& 31) = A
  generalize hB : (1 : Int32) <<< (nI 1 &&& 31) = B
  by_cases q8 : q = 56 + 21 * b + 8
  · subst q8
    simp (disch := omega) only [ud_ne, ud_s]
    exact or_comm3 _ _ _
  by_cases q11 : q = 56 + 21 * b + (11 + 0)
  · subst q11
    simp (disch := omega) only [ud_ne, ud_s]
  by_cases q12 : q = 56 + 21 * b + (11 + 1)
  · subst q12
    simp (disch := omega) only [ud_ne, ud_s]
  by_cases q16 : q = 56 + 21 * b + (16 + 0)
  · subst q16
    simp (disch := omega) only [ud_ne, ud_s]
  by_cases q17 : q = 56 + 21 * b + (16 + 1)
  · subst q17
    simp (disch := omega) only [ud_ne, ud_s]
  simp (disch := assumption) only [ud_ne]
theorem gLe_0 {x y : Int32} : (gLe x y = 0) = (x ≤ y) := by
  unfold gLe
  by_cases h : x ≤ y
  · rw [if_pos h]; simp [h]
  · rw [if_neg h]; simp [h]
theorem cPlea_eq {a b c d : Int32} : cPlea a b c d = gPlea (gLe a b) (gLe c d) := by
  unfold cPlea gPlea
  by_cases h : a ≤ b
  · rw [if_pos h, if_pos (gLe_p h)]
    by_cases h2 : c ≤ d
    · rw [if_pos h2, if_pos (gLe_p h2)]
    · rw [if_neg h2, if_neg (by rw [gLe_n h2]; decide)]
  · rw [if_neg h, if_neg (by rw [gLe_n h]; decide)]
theorem Rb_judge {B G : Nat → Int32} {b c : Nat} {t c0 c3 c5 : Int32} (h : Rb B G b) (hon : G (56 + 21 * b + 2) = 0) (ht : t = G 52) (h0 : c0 = G (24 + 6 * c + 0)) (h3 : c3 = G (24 + 6 * c + 3)) (h5 : c5 = G (24 + 6 * c + 5)) : Rb (cJudge B t b c0 c3 c5) (gWarmB G b c (G (56 + 21 * b + 3)) (G (56 + 21 * b + 4)) (gLe (G (56 + 21 * b + 5)) (G (24 + 6 * c + 0))) (gLe (G (56 + 21 * b + 7)) (G (24 + 6 * c + 3)))) b := by
  have h' := h
  obtain ⟨a1, a2, a3, a4⟩ := h'
  unfold cJudge gWarmB
  rw [a1 4 (by omega) (by omega), a1 5 (by omega) (by omega), a1 7 (by omega) (by omega), (a2 hon).1, ← h0, ← h3, ← h5, gFault_comm, cPlea_eq]
  have hk := Rb_F (P := G (56 + 21 * b + 4) ≤ c5) (c := G (56 + 21 * b + 3)) (κ := 2) (t := t) (Rb_F (P := G (56 + 21 * b + 5) ≤ c0) (c := G (56 + 21 * b + 3)) (κ := 0) (t := t) (Rb_F (P := G (56 + 21 * b + 7) ≤ c3) (c := G (56 + 21 * b + 3)) (κ := 1) h (by omega) ht) (by omega) (by rw [gFault_ne (by omega) (by omega) (by omega)]; exact ht)) (by omega) (by rw [gFault_ne (by omega) (by omega) (by omega), gFault_ne (by omega) (by omega) (by omega)]; exact ht)
  show Rb (upd _ (b * 22 + 9) _) (upd (gFault (gFault (gFault G (gLe (G (56 + 21 * b + 7)) c3) b 1 _) (gLe (G (56 + 21 * b + 5)) c0) b 0 _) (gLe (G (56 + 21 * b + 4)) c5) b 2 _) _ _) b
  unfold gLe at hk ⊢
  generalize gFault (gFault (gFault G (if G (56 + 21 * b + 7) ≤ c3 then 0 else 1) b 1 (G (56 + 21 * b + 3))) (if G (56 + 21 * b + 5) ≤ c0 then 0 else 1) b 0 (G (56 + 21 * b + 3))) (if G (56 + 21 * b + 4) ≤ c5 then 0 else 1) b 2 (G (56 + 21 * b + 3)) = H at hk ⊢
  generalize cF (G (56 + 21 * b + 4) ≤ c5) (cF (G (56 + 21 * b + 5) ≤ c0) (cF (G (56 + 21 * b + 7) ≤ c3) B t b 1 (G (56 + 21 * b + 3))) t b 0 (G (56 + 21 * b + 3))) t b 2 (G (56 + 21 * b + 3)) = K at hk ⊢
  generalize gPlea _ _ = v
  obtain ⟨b1, b2, b3, b4⟩ := hk
  have hgc : gcell (upd H (56 + 21 * b + 9) v) b = gcell H b := by
    unfold gcell
    rw [ud_ne (by omega)]
  have hgz : ∀ x, gZone (upd H (56 + 21 * b + 9) v) x = gZone H x := fun x => gZone_congr (fun z hz => by rw [ud_ne (by omega)]) x
  refine ⟨fun j hj h9 => ?_, fun q => ?_, fun q => ?_, fun k hk => ?_⟩
  · by_cases j9 : j = 9
    · subst j9
      rw [ud_s, ud_s]
    · rw [ud_ne (by omega), ud_ne (by omega)]
      exact b1 j hj h9
  · rw [ud_ne (by omega)] at q
    rw [ud_ne (by omega), ud_ne (by omega), ud_ne (by omega), hgc, hgz]
    exact b2 q
  · rw [ud_ne (by omega)] at q
    rw [ud_ne (by omega)]
    exact b3 q
  · simp (disch := omega) only [ud_ne]
    exact b4 k hk
end
