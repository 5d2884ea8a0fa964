section
-- ===== PART A: goes FIRST, ahead of the names: the tables' words, and 'selects' of the private methods out of them =====
/-- a private method of a class that the tables say can be made, by its rows of tables_1 -/
def lw_okq (q : MethodName × Nat) : Prop := (q.1.cls ≠ "java/lang/invoke/MethodHandle" ∧ q.1.cls ≠ "java/lang/invoke/VarHandle") ∧ Cond.instantiable q.1.cls q.2 ∈ tables_1 ∧ Cond.privateMethod q.1 ∈ tables_1 ∧ Cond.instanceMethod q.1 ∈ tables_1
theorem lw_p0 : lw_okq (⟨"ThrowReports", "isFull", "(I)Z"⟩, 4) := ⟨⟨by decide +kernel, by decide +kernel⟩, List.mem_of_getElem? (i := 16) (by decide +kernel), List.mem_of_getElem? (i := 142) (by decide +kernel), List.mem_of_getElem? (i := 143) (by decide +kernel)⟩
theorem lw_p1 : lw_okq (⟨"ThrowReports", "added", "(LThrowReports$Node;)I"⟩, 4) := ⟨⟨by decide +kernel, by decide +kernel⟩, List.mem_of_getElem? (i := 16) (by decide +kernel), List.mem_of_getElem? (i := 222) (by decide +kernel), List.mem_of_getElem? (i := 223) (by decide +kernel)⟩
theorem lw_p2 : lw_okq (⟨"ThrowReports", "isNode", "(I)Z"⟩, 4) := ⟨⟨by decide +kernel, by decide +kernel⟩, List.mem_of_getElem? (i := 16) (by decide +kernel), List.mem_of_getElem? (i := 230) (by decide +kernel), List.mem_of_getElem? (i := 231) (by decide +kernel)⟩
theorem lw_p3 : lw_okq (⟨"ThrowReports", "costOf", "(I)I"⟩, 4) := ⟨⟨by decide +kernel, by decide +kernel⟩, List.mem_of_getElem? (i := 16) (by decide +kernel), List.mem_of_getElem? (i := 234) (by decide +kernel), List.mem_of_getElem? (i := 235) (by decide +kernel)⟩
theorem lw_p4 : lw_okq (⟨"ThrowReports", "isNodeOrNone", "(I)Z"⟩, 4) := ⟨⟨by decide +kernel, by decide +kernel⟩, List.mem_of_getElem? (i := 16) (by decide +kernel), List.mem_of_getElem? (i := 301) (by decide +kernel), List.mem_of_getElem? (i := 302) (by decide +kernel)⟩
theorem lw_p5 : lw_okq (⟨"ThrowReports", "nodeOrNull", "(I)LThrowReports$Node;"⟩, 4) := ⟨⟨by decide +kernel, by decide +kernel⟩, List.mem_of_getElem? (i := 16) (by decide +kernel), List.mem_of_getElem? (i := 307) (by decide +kernel), List.mem_of_getElem? (i := 308) (by decide +kernel)⟩
theorem lw_p6 : lw_okq (⟨"ThrowReports$Machine", "make", "(III)I"⟩, 9) := ⟨⟨by decide +kernel, by decide +kernel⟩, List.mem_of_getElem? (i := 24) (by decide +kernel), List.mem_of_getElem? (i := 372) (by decide +kernel), List.mem_of_getElem? (i := 373) (by decide +kernel)⟩
theorem lw_p7 : lw_okq (⟨"ThrowReports$Machine", "makeDeep", "(III)I"⟩, 9) := ⟨⟨by decide +kernel, by decide +kernel⟩, List.mem_of_getElem? (i := 24) (by decide +kernel), List.mem_of_getElem? (i := 393) (by decide +kernel), List.mem_of_getElem? (i := 394) (by decide +kernel)⟩
theorem lw_p8 : lw_okq (⟨"ThrowReports$Machine", "makeFigure", "(III)I"⟩, 9) := ⟨⟨by decide +kernel, by decide +kernel⟩, List.mem_of_getElem? (i := 24) (by decide +kernel), List.mem_of_getElem? (i := 418) (by decide +kernel), List.mem_of_getElem? (i := 419) (by decide +kernel)⟩
theorem lw_p9 : lw_okq (⟨"ThrowReports$Machine", "move", "(III)I"⟩, 9) := ⟨⟨by decide +kernel, by decide +kernel⟩, List.mem_of_getElem? (i := 24) (by decide +kernel), List.mem_of_getElem? (i := 426) (by decide +kernel), List.mem_of_getElem? (i := 427) (by decide +kernel)⟩
theorem lw_p10 : lw_okq (⟨"ThrowReports$Machine", "unlessAs", "(II)I"⟩, 9) := ⟨⟨by decide +kernel, by decide +kernel⟩, List.mem_of_getElem? (i := 24) (by decide +kernel), List.mem_of_getElem? (i := 430) (by decide +kernel), List.mem_of_getElem? (i := 431) (by decide +kernel)⟩
theorem lw_p11 : lw_okq (⟨"ThrowReports$Machine", "get", "(IIII)I"⟩, 9) := ⟨⟨by decide +kernel, by decide +kernel⟩, List.mem_of_getElem? (i := 24) (by decide +kernel), List.mem_of_getElem? (i := 447) (by decide +kernel), List.mem_of_getElem? (i := 448) (by decide +kernel)⟩
theorem lw_p12 : lw_okq (⟨"ThrowReports$Machine", "unlessItem", "(III)I"⟩, 9) := ⟨⟨by decide +kernel, by decide +kernel⟩, List.mem_of_getElem? (i := 24) (by decide +kernel), List.mem_of_getElem? (i := 451) (by decide +kernel), List.mem_of_getElem? (i := 452) (by decide +kernel)⟩
theorem lw_p13 : lw_okq (⟨"ThrowReports$Machine", "set", "(IIII)I"⟩, 9) := ⟨⟨by decide +kernel, by decide +kernel⟩, List.mem_of_getElem? (i := 24) (by decide +kernel), List.mem_of_getElem? (i := 460) (by decide +kernel), List.mem_of_getElem? (i := 461) (by decide +kernel)⟩
theorem lw_p14 : lw_okq (⟨"ThrowReports$Machine", "take", "(IIII)I"⟩, 9) := ⟨⟨by decide +kernel, by decide +kernel⟩, List.mem_of_getElem? (i := 24) (by decide +kernel), List.mem_of_getElem? (i := 464) (by decide +kernel), List.mem_of_getElem? (i := 465) (by decide +kernel)⟩
theorem lw_p15 : lw_okq (⟨"ThrowReports$Machine", "lay", "(IIII)I"⟩, 9) := ⟨⟨by decide +kernel, by decide +kernel⟩, List.mem_of_getElem? (i := 24) (by decide +kernel), List.mem_of_getElem? (i := 468) (by decide +kernel), List.mem_of_getElem? (i := 469) (by decide +kernel)⟩
def lw_privs_1 : List (MethodName × Nat) := [(⟨"ThrowReports", "isFull", "(I)Z"⟩, 4), (⟨"ThrowReports", "added", "(LThrowReports$Node;)I"⟩, 4), (⟨"ThrowReports", "isNode", "(I)Z"⟩, 4), (⟨"ThrowReports", "costOf", "(I)I"⟩, 4), (⟨"ThrowReports", "isNodeOrNone", "(I)Z"⟩, 4), (⟨"ThrowReports", "nodeOrNull", "(I)LThrowReports$Node;"⟩, 4), (⟨"ThrowReports$Machine", "make", "(III)I"⟩, 9), (⟨"ThrowReports$Machine", "makeDeep", "(III)I"⟩, 9), (⟨"ThrowReports$Machine", "makeFigure", "(III)I"⟩, 9), (⟨"ThrowReports$Machine", "move", "(III)I"⟩, 9), (⟨"ThrowReports$Machine", "unlessAs", "(II)I"⟩, 9), (⟨"ThrowReports$Machine", "get", "(IIII)I"⟩, 9), (⟨"ThrowReports$Machine", "unlessItem", "(III)I"⟩, 9), (⟨"ThrowReports$Machine", "set", "(IIII)I"⟩, 9), (⟨"ThrowReports$Machine", "take", "(IIII)I"⟩, 9), (⟨"ThrowReports$Machine", "lay", "(IIII)I"⟩, 9)]
theorem lw_r1 : ∀ q ∈ lw_privs_1, lw_okq q := List.forall_mem_cons.mpr ⟨lw_p0, List.forall_mem_cons.mpr ⟨lw_p1, List.forall_mem_cons.mpr ⟨lw_p2, List.forall_mem_cons.mpr ⟨lw_p3, List.forall_mem_cons.mpr ⟨lw_p4, List.forall_mem_cons.mpr ⟨lw_p5, List.forall_mem_cons.mpr ⟨lw_p6, List.forall_mem_cons.mpr ⟨lw_p7, List.forall_mem_cons.mpr ⟨lw_p8, List.forall_mem_cons.mpr ⟨lw_p9, List.forall_mem_cons.mpr ⟨lw_p10, List.forall_mem_cons.mpr ⟨lw_p11, List.forall_mem_cons.mpr ⟨lw_p12, List.forall_mem_cons.mpr ⟨lw_p13, List.forall_mem_cons.mpr ⟨lw_p14, List.forall_mem_cons.mpr ⟨lw_p15, fun _ h => absurd h List.not_mem_nil⟩⟩⟩⟩⟩⟩⟩⟩⟩⟩⟩⟩⟩⟩⟩⟩
theorem lw_p16 : lw_okq (⟨"ThrowReports$Machine", "kindIn", "(I)I"⟩, 9) := ⟨⟨by decide +kernel, by decide +kernel⟩, List.mem_of_getElem? (i := 24) (by decide +kernel), List.mem_of_getElem? (i := 477) (by decide +kernel), List.mem_of_getElem? (i := 478) (by decide +kernel)⟩
theorem lw_p17 : lw_okq (⟨"ThrowReports$Machine", "length", "(III)I"⟩, 9) := ⟨⟨by decide +kernel, by decide +kernel⟩, List.mem_of_getElem? (i := 24) (by decide +kernel), List.mem_of_getElem? (i := 481) (by decide +kernel), List.mem_of_getElem? (i := 482) (by decide +kernel)⟩
theorem lw_p18 : lw_okq (⟨"ThrowReports$Machine", "unlessSomething", "(II)I"⟩, 9) := ⟨⟨by decide +kernel, by decide +kernel⟩, List.mem_of_getElem? (i := 24) (by decide +kernel), List.mem_of_getElem? (i := 485) (by decide +kernel), List.mem_of_getElem? (i := 486) (by decide +kernel)⟩
theorem lw_p19 : lw_okq (⟨"ThrowReports$Machine", "cloneRow", "(II)I"⟩, 9) := ⟨⟨by decide +kernel, by decide +kernel⟩, List.mem_of_getElem? (i := 24) (by decide +kernel), List.mem_of_getElem? (i := 493) (by decide +kernel), List.mem_of_getElem? (i := 494) (by decide +kernel)⟩
theorem lw_p20 : lw_okq (⟨"ThrowReports$Things", "bringOneByOne", "(IIIII)I"⟩, 6) := ⟨⟨by decide +kernel, by decide +kernel⟩, List.mem_of_getElem? (i := 30) (by decide +kernel), List.mem_of_getElem? (i := 505) (by decide +kernel), List.mem_of_getElem? (i := 506) (by decide +kernel)⟩
theorem lw_p21 : lw_okq (⟨"ThrowReports$Machine", "tell", "(II)I"⟩, 9) := ⟨⟨by decide +kernel, by decide +kernel⟩, List.mem_of_getElem? (i := 24) (by decide +kernel), List.mem_of_getElem? (i := 518) (by decide +kernel), List.mem_of_getElem? (i := 519) (by decide +kernel)⟩
theorem lw_p22 : lw_okq (⟨"ThrowReports$Machine", "copy", "(IIII)I"⟩, 9) := ⟨⟨by decide +kernel, by decide +kernel⟩, List.mem_of_getElem? (i := 24) (by decide +kernel), List.mem_of_getElem? (i := 522) (by decide +kernel), List.mem_of_getElem? (i := 523) (by decide +kernel)⟩
theorem lw_p23 : lw_okq (⟨"ThrowReports$Machine", "divide", "(III)I"⟩, 9) := ⟨⟨by decide +kernel, by decide +kernel⟩, List.mem_of_getElem? (i := 24) (by decide +kernel), List.mem_of_getElem? (i := 532) (by decide +kernel), List.mem_of_getElem? (i := 533) (by decide +kernel)⟩
theorem lw_p24 : lw_okq (⟨"ThrowReports$Machine", "rest", "(III)I"⟩, 9) := ⟨⟨by decide +kernel, by decide +kernel⟩, List.mem_of_getElem? (i := 24) (by decide +kernel), List.mem_of_getElem? (i := 536) (by decide +kernel), List.mem_of_getElem? (i := 537) (by decide +kernel)⟩
theorem lw_p25 : lw_okq (⟨"ThrowReports$Guard", "takes", "(I)Z"⟩, 13) := ⟨⟨by decide +kernel, by decide +kernel⟩, List.mem_of_getElem? (i := 305) (by decide +kernel), List.mem_of_getElem? (i := 551) (by decide +kernel), List.mem_of_getElem? (i := 552) (by decide +kernel)⟩
theorem lw_p26 : lw_okq (⟨"ThrowReports$Things", "rowsMatch", "(II)Z"⟩, 6) := ⟨⟨by decide +kernel, by decide +kernel⟩, List.mem_of_getElem? (i := 30) (by decide +kernel), List.mem_of_getElem? (i := 607) (by decide +kernel), List.mem_of_getElem? (i := 608) (by decide +kernel)⟩
theorem lw_p27 : lw_okq (⟨"ThrowReports$Things", "numbersMatch", "(II)Z"⟩, 6) := ⟨⟨by decide +kernel, by decide +kernel⟩, List.mem_of_getElem? (i := 30) (by decide +kernel), List.mem_of_getElem? (i := 612) (by decide +kernel), List.mem_of_getElem? (i := 613) (by decide +kernel)⟩
theorem lw_p28 : lw_okq (⟨"ThrowReports$Act", "askNew", "(ZI)V"⟩, 11) := ⟨⟨by decide +kernel, by decide +kernel⟩, List.mem_of_getElem? (i := 146) (by decide +kernel), List.mem_of_getElem? (i := 679) (by decide +kernel), List.mem_of_getElem? (i := 680) (by decide +kernel)⟩
theorem lw_p29 : lw_okq (⟨"ThrowReports$Act", "mustFail", "(I)V"⟩, 11) := ⟨⟨by decide +kernel, by decide +kernel⟩, List.mem_of_getElem? (i := 146) (by decide +kernel), List.mem_of_getElem? (i := 683) (by decide +kernel), List.mem_of_getElem? (i := 684) (by decide +kernel)⟩
theorem lw_p30 : lw_okq (⟨"ThrowReports$Act", "mayFail", "(I)V"⟩, 11) := ⟨⟨by decide +kernel, by decide +kernel⟩, List.mem_of_getElem? (i := 146) (by decide +kernel), List.mem_of_getElem? (i := 687) (by decide +kernel), List.mem_of_getElem? (i := 688) (by decide +kernel)⟩
theorem lw_p31 : lw_okq (⟨"ThrowReports$Act", "makeAnew", "(I)V"⟩, 11) := ⟨⟨by decide +kernel, by decide +kernel⟩, List.mem_of_getElem? (i := 146) (by decide +kernel), List.mem_of_getElem? (i := 697) (by decide +kernel), List.mem_of_getElem? (i := 698) (by decide +kernel)⟩
def lw_privs_2 : List (MethodName × Nat) := [(⟨"ThrowReports$Machine", "kindIn", "(I)I"⟩, 9), (⟨"ThrowReports$Machine", "length", "(III)I"⟩, 9), (⟨"ThrowReports$Machine", "unlessSomething", "(II)I"⟩, 9), (⟨"ThrowReports$Machine", "cloneRow", "(II)I"⟩, 9), (⟨"ThrowReports$Things", "bringOneByOne", "(IIIII)I"⟩, 6), (⟨"ThrowReports$Machine", "tell", "(II)I"⟩, 9), (⟨"ThrowReports$Machine", "copy", "(IIII)I"⟩, 9), (⟨"ThrowReports$Machine", "divide", "(III)I"⟩, 9), (⟨"ThrowReports$Machine", "rest", "(III)I"⟩, 9), (⟨"ThrowReports$Guard", "takes", "(I)Z"⟩, 13), (⟨"ThrowReports$Things", "rowsMatch", "(II)Z"⟩, 6), (⟨"ThrowReports$Things", "numbersMatch", "(II)Z"⟩, 6), (⟨"ThrowReports$Act", "askNew", "(ZI)V"⟩, 11), (⟨"ThrowReports$Act", "mustFail", "(I)V"⟩, 11), (⟨"ThrowReports$Act", "mayFail", "(I)V"⟩, 11), (⟨"ThrowReports$Act", "makeAnew", "(I)V"⟩, 11)]
theorem lw_r2 : ∀ q ∈ lw_privs_2, lw_okq q := List.forall_mem_cons.mpr ⟨lw_p16, List.forall_mem_cons.mpr ⟨lw_p17, List.forall_mem_cons.mpr ⟨lw_p18, List.forall_mem_cons.mpr ⟨lw_p19, List.forall_mem_cons.mpr ⟨lw_p20, List.forall_mem_cons.mpr ⟨lw_p21, List.forall_mem_cons.mpr ⟨lw_p22, List.forall_mem_cons.mpr ⟨lw_p23, List.forall_mem_cons.mpr ⟨lw_p24, List.forall_mem_cons.mpr ⟨lw_p25, List.forall_mem_cons.mpr ⟨lw_p26, List.forall_mem_cons.mpr ⟨lw_p27, List.forall_mem_cons.mpr ⟨lw_p28, List.forall_mem_cons.mpr ⟨lw_p29, List.forall_mem_cons.mpr ⟨lw_p30, List.forall_mem_cons.mpr ⟨lw_p31, fun _ h => absurd h List.not_mem_nil⟩⟩⟩⟩⟩⟩⟩⟩⟩⟩⟩⟩⟩⟩⟩⟩
theorem lw_p32 : lw_okq (⟨"ThrowReports$Act", "askMove", "()V"⟩, 11) := ⟨⟨by decide +kernel, by decide +kernel⟩, List.mem_of_getElem? (i := 146) (by decide +kernel), List.mem_of_getElem? (i := 703) (by decide +kernel), List.mem_of_getElem? (i := 704) (by decide +kernel)⟩
theorem lw_p33 : lw_okq (⟨"ThrowReports$Act", "askAs", "(II)V"⟩, 11) := ⟨⟨by decide +kernel, by decide +kernel⟩, List.mem_of_getElem? (i := 146) (by decide +kernel), List.mem_of_getElem? (i := 707) (by decide +kernel), List.mem_of_getElem? (i := 708) (by decide +kernel)⟩
theorem lw_p34 : lw_okq (⟨"ThrowReports$Act", "failFor", "(III)V"⟩, 11) := ⟨⟨by decide +kernel, by decide +kernel⟩, List.mem_of_getElem? (i := 146) (by decide +kernel), List.mem_of_getElem? (i := 712) (by decide +kernel), List.mem_of_getElem? (i := 713) (by decide +kernel)⟩
theorem lw_p35 : lw_okq (⟨"ThrowReports$Act", "askSomething", "(II)V"⟩, 11) := ⟨⟨by decide +kernel, by decide +kernel⟩, List.mem_of_getElem? (i := 146) (by decide +kernel), List.mem_of_getElem? (i := 725) (by decide +kernel), List.mem_of_getElem? (i := 726) (by decide +kernel)⟩
theorem lw_p36 : lw_okq (⟨"ThrowReports$Act", "askTake", "()V"⟩, 11) := ⟨⟨by decide +kernel, by decide +kernel⟩, List.mem_of_getElem? (i := 146) (by decide +kernel), List.mem_of_getElem? (i := 729) (by decide +kernel), List.mem_of_getElem? (i := 730) (by decide +kernel)⟩
theorem lw_p37 : lw_okq (⟨"ThrowReports$Act", "askLay", "()V"⟩, 11) := ⟨⟨by decide +kernel, by decide +kernel⟩, List.mem_of_getElem? (i := 146) (by decide +kernel), List.mem_of_getElem? (i := 738) (by decide +kernel), List.mem_of_getElem? (i := 739) (by decide +kernel)⟩
theorem lw_p38 : lw_okq (⟨"ThrowReports$Act", "keepWhatLays", "()V"⟩, 11) := ⟨⟨by decide +kernel, by decide +kernel⟩, List.mem_of_getElem? (i := 146) (by decide +kernel), List.mem_of_getElem? (i := 743) (by decide +kernel), List.mem_of_getElem? (i := 744) (by decide +kernel)⟩
theorem lw_p39 : lw_okq (⟨"ThrowReports$Act", "askCopy", "()V"⟩, 11) := ⟨⟨by decide +kernel, by decide +kernel⟩, List.mem_of_getElem? (i := 146) (by decide +kernel), List.mem_of_getElem? (i := 747) (by decide +kernel), List.mem_of_getElem? (i := 748) (by decide +kernel)⟩
theorem lw_p40 : lw_okq (⟨"ThrowReports$Choice", "choose", "(LThrowReports$Node;LThrowReports$State;I)V"⟩, 10) := ⟨⟨by decide +kernel, by decide +kernel⟩, List.mem_of_getElem? (i := 268) (by decide +kernel), List.mem_of_getElem? (i := 785) (by decide +kernel), List.mem_of_getElem? (i := 786) (by decide +kernel)⟩
theorem lw_p41 : lw_okq (⟨"ThrowReports$Guard", "sortBodysWays", "()V"⟩, 13) := ⟨⟨by decide +kernel, by decide +kernel⟩, List.mem_of_getElem? (i := 305) (by decide +kernel), List.mem_of_getElem? (i := 802) (by decide +kernel), List.mem_of_getElem? (i := 803) (by decide +kernel)⟩
theorem lw_p42 : lw_okq (⟨"ThrowReports$Guard", "goOnThroughLast", "(LThrowReports$Node;)V"⟩, 13) := ⟨⟨by decide +kernel, by decide +kernel⟩, List.mem_of_getElem? (i := 305) (by decide +kernel), List.mem_of_getElem? (i := 812) (by decide +kernel), List.mem_of_getElem? (i := 813) (by decide +kernel)⟩
theorem lw_p43 : lw_okq (⟨"ThrowReportsModel", "node", "(IIIIIII)I"⟩, 40) := ⟨⟨by decide +kernel, by decide +kernel⟩, List.mem_of_getElem? (i := 851) (by decide +kernel), List.mem_of_getElem? (i := 995) (by decide +kernel), List.mem_of_getElem? (i := 996) (by decide +kernel)⟩
theorem lw_p44 : lw_okq (⟨"ThrowReportsModel", "isNode", "(I)Z"⟩, 40) := ⟨⟨by decide +kernel, by decide +kernel⟩, List.mem_of_getElem? (i := 851) (by decide +kernel), List.mem_of_getElem? (i := 1003) (by decide +kernel), List.mem_of_getElem? (i := 1004) (by decide +kernel)⟩
theorem lw_p45 : lw_okq (⟨"ThrowReportsModel", "goes", "(I)I"⟩, 40) := ⟨⟨by decide +kernel, by decide +kernel⟩, List.mem_of_getElem? (i := 851) (by decide +kernel), List.mem_of_getElem? (i := 1023) (by decide +kernel), List.mem_of_getElem? (i := 1024) (by decide +kernel)⟩
theorem lw_p46 : lw_okq (⟨"ThrowReportsModel", "push", "(I)V"⟩, 40) := ⟨⟨by decide +kernel, by decide +kernel⟩, List.mem_of_getElem? (i := 851) (by decide +kernel), List.mem_of_getElem? (i := 1027) (by decide +kernel), List.mem_of_getElem? (i := 1028) (by decide +kernel)⟩
theorem lw_p47 : lw_okq (⟨"ThrowReportsModel", "ofAct", "(I)I"⟩, 40) := ⟨⟨by decide +kernel, by decide +kernel⟩, List.mem_of_getElem? (i := 851) (by decide +kernel), List.mem_of_getElem? (i := 1031) (by decide +kernel), List.mem_of_getElem? (i := 1032) (by decide +kernel)⟩
def lw_privs_3 : List (MethodName × Nat) := [(⟨"ThrowReports$Act", "askMove", "()V"⟩, 11), (⟨"ThrowReports$Act", "askAs", "(II)V"⟩, 11), (⟨"ThrowReports$Act", "failFor", "(III)V"⟩, 11), (⟨"ThrowReports$Act", "askSomething", "(II)V"⟩, 11), (⟨"ThrowReports$Act", "askTake", "()V"⟩, 11), (⟨"ThrowReports$Act", "askLay", "()V"⟩, 11), (⟨"ThrowReports$Act", "keepWhatLays", "()V"⟩, 11), (⟨"ThrowReports$Act", "askCopy", "()V"⟩, 11), (⟨"ThrowReports$Choice", "choose", "(LThrowReports$Node;LThrowReports$State;I)V"⟩, 10), (⟨"ThrowReports$Guard", "sortBodysWays", "()V"⟩, 13), (⟨"ThrowReports$Guard", "goOnThroughLast", "(LThrowReports$Node;)V"⟩, 13), (⟨"ThrowReportsModel", "node", "(IIIIIII)I"⟩, 40), (⟨"ThrowReportsModel", "isNode", "(I)Z"⟩, 40), (⟨"ThrowReportsModel", "goes", "(I)I"⟩, 40), (⟨"ThrowReportsModel", "push", "(I)V"⟩, 40), (⟨"ThrowReportsModel", "ofAct", "(I)I"⟩, 40)]
theorem lw_r3 : ∀ q ∈ lw_privs_3, lw_okq q := List.forall_mem_cons.mpr ⟨lw_p32, List.forall_mem_cons.mpr ⟨lw_p33, List.forall_mem_cons.mpr ⟨lw_p34, List.forall_mem_cons.mpr ⟨lw_p35, List.forall_mem_cons.mpr ⟨lw_p36, List.forall_mem_cons.mpr ⟨lw_p37, List.forall_mem_cons.mpr ⟨lw_p38, List.forall_mem_cons.mpr ⟨lw_p39, List.forall_mem_cons.mpr ⟨lw_p40, List.forall_mem_cons.mpr ⟨lw_p41, List.forall_mem_cons.mpr ⟨lw_p42, List.forall_mem_cons.mpr ⟨lw_p43, List.forall_mem_cons.mpr ⟨lw_p44, List.forall_mem_cons.mpr ⟨lw_p45, List.forall_mem_cons.mpr ⟨lw_p46, List.forall_mem_cons.mpr ⟨lw_p47, fun _ h => absurd h List.not_mem_nil⟩⟩⟩⟩⟩⟩⟩⟩⟩⟩⟩⟩⟩⟩⟩⟩
theorem lw_p48 : lw_okq (⟨"ThrowReportsModel", "done", "(I)I"⟩, 40) := ⟨⟨by decide +kernel, by decide +kernel⟩, List.mem_of_getElem? (i := 851) (by decide +kernel), List.mem_of_getElem? (i := 1035) (by decide +kernel), List.mem_of_getElem? (i := 1036) (by decide +kernel)⟩
theorem lw_p49 : lw_okq (⟨"ThrowReportsModel", "make", "(III)I"⟩, 40) := ⟨⟨by decide +kernel, by decide +kernel⟩, List.mem_of_getElem? (i := 851) (by decide +kernel), List.mem_of_getElem? (i := 1039) (by decide +kernel), List.mem_of_getElem? (i := 1040) (by decide +kernel)⟩
theorem lw_p50 : lw_okq (⟨"ThrowReportsModel", "fits", "(JJ)Z"⟩, 40) := ⟨⟨by decide +kernel, by decide +kernel⟩, List.mem_of_getElem? (i := 851) (by decide +kernel), List.mem_of_getElem? (i := 1043) (by decide +kernel), List.mem_of_getElem? (i := 1044) (by decide +kernel)⟩
theorem lw_p51 : lw_okq (⟨"ThrowReportsModel", "fresh", "(II)I"⟩, 40) := ⟨⟨by decide +kernel, by decide +kernel⟩, List.mem_of_getElem? (i := 851) (by decide +kernel), List.mem_of_getElem? (i := 1049) (by decide +kernel), List.mem_of_getElem? (i := 1050) (by decide +kernel)⟩
theorem lw_p52 : lw_okq (⟨"ThrowReportsModel", "deep", "(III)I"⟩, 40) := ⟨⟨by decide +kernel, by decide +kernel⟩, List.mem_of_getElem? (i := 851) (by decide +kernel), List.mem_of_getElem? (i := 1053) (by decide +kernel), List.mem_of_getElem? (i := 1054) (by decide +kernel)⟩
theorem lw_p53 : lw_okq (⟨"ThrowReportsModel", "figure", "(III)I"⟩, 40) := ⟨⟨by decide +kernel, by decide +kernel⟩, List.mem_of_getElem? (i := 851) (by decide +kernel), List.mem_of_getElem? (i := 1057) (by decide +kernel), List.mem_of_getElem? (i := 1058) (by decide +kernel)⟩
theorem lw_p54 : lw_okq (⟨"ThrowReportsModel", "move", "(III)I"⟩, 40) := ⟨⟨by decide +kernel, by decide +kernel⟩, List.mem_of_getElem? (i := 851) (by decide +kernel), List.mem_of_getElem? (i := 1061) (by decide +kernel), List.mem_of_getElem? (i := 1062) (by decide +kernel)⟩
theorem lw_p55 : lw_okq (⟨"ThrowReportsModel", "as", "(II)I"⟩, 40) := ⟨⟨by decide +kernel, by decide +kernel⟩, List.mem_of_getElem? (i := 851) (by decide +kernel), List.mem_of_getElem? (i := 1065) (by decide +kernel), List.mem_of_getElem? (i := 1066) (by decide +kernel)⟩
theorem lw_p56 : lw_okq (⟨"ThrowReportsModel", "is", "(II)Z"⟩, 40) := ⟨⟨by decide +kernel, by decide +kernel⟩, List.mem_of_getElem? (i := 851) (by decide +kernel), List.mem_of_getElem? (i := 1069) (by decide +kernel), List.mem_of_getElem? (i := 1070) (by decide +kernel)⟩
theorem lw_p57 : lw_okq (⟨"ThrowReportsModel", "get", "(IIII)I"⟩, 40) := ⟨⟨by decide +kernel, by decide +kernel⟩, List.mem_of_getElem? (i := 851) (by decide +kernel), List.mem_of_getElem? (i := 1076) (by decide +kernel), List.mem_of_getElem? (i := 1077) (by decide +kernel)⟩
theorem lw_p58 : lw_okq (⟨"ThrowReportsModel", "itemOf", "(III)I"⟩, 40) := ⟨⟨by decide +kernel, by decide +kernel⟩, List.mem_of_getElem? (i := 851) (by decide +kernel), List.mem_of_getElem? (i := 1080) (by decide +kernel), List.mem_of_getElem? (i := 1081) (by decide +kernel)⟩
theorem lw_p59 : lw_okq (⟨"ThrowReportsModel", "row", "(II)I"⟩, 40) := ⟨⟨by decide +kernel, by decide +kernel⟩, List.mem_of_getElem? (i := 851) (by decide +kernel), List.mem_of_getElem? (i := 1084) (by decide +kernel), List.mem_of_getElem? (i := 1085) (by decide +kernel)⟩
theorem lw_p60 : lw_okq (⟨"ThrowReportsModel", "set", "(IIII)I"⟩, 40) := ⟨⟨by decide +kernel, by decide +kernel⟩, List.mem_of_getElem? (i := 851) (by decide +kernel), List.mem_of_getElem? (i := 1088) (by decide +kernel), List.mem_of_getElem? (i := 1089) (by decide +kernel)⟩
theorem lw_p61 : lw_okq (⟨"ThrowReportsModel", "take", "(IIII)I"⟩, 40) := ⟨⟨by decide +kernel, by decide +kernel⟩, List.mem_of_getElem? (i := 851) (by decide +kernel), List.mem_of_getElem? (i := 1098) (by decide +kernel), List.mem_of_getElem? (i := 1099) (by decide +kernel)⟩
theorem lw_p62 : lw_okq (⟨"ThrowReportsModel", "lay", "(IIII)I"⟩, 40) := ⟨⟨by decide +kernel, by decide +kernel⟩, List.mem_of_getElem? (i := 851) (by decide +kernel), List.mem_of_getElem? (i := 1102) (by decide +kernel), List.mem_of_getElem? (i := 1103) (by decide +kernel)⟩
theorem lw_p63 : lw_okq (⟨"ThrowReportsModel", "measure", "(III)I"⟩, 40) := ⟨⟨by decide +kernel, by decide +kernel⟩, List.mem_of_getElem? (i := 851) (by decide +kernel), List.mem_of_getElem? (i := 1106) (by decide +kernel), List.mem_of_getElem? (i := 1107) (by decide +kernel)⟩
def lw_privs_4 : List (MethodName × Nat) := [(⟨"ThrowReportsModel", "done", "(I)I"⟩, 40), (⟨"ThrowReportsModel", "make", "(III)I"⟩, 40), (⟨"ThrowReportsModel", "fits", "(JJ)Z"⟩, 40), (⟨"ThrowReportsModel", "fresh", "(II)I"⟩, 40), (⟨"ThrowReportsModel", "deep", "(III)I"⟩, 40), (⟨"ThrowReportsModel", "figure", "(III)I"⟩, 40), (⟨"ThrowReportsModel", "move", "(III)I"⟩, 40), (⟨"ThrowReportsModel", "as", "(II)I"⟩, 40), (⟨"ThrowReportsModel", "is", "(II)Z"⟩, 40), (⟨"ThrowReportsModel", "get", "(IIII)I"⟩, 40), (⟨"ThrowReportsModel", "itemOf", "(III)I"⟩, 40), (⟨"ThrowReportsModel", "row", "(II)I"⟩, 40), (⟨"ThrowReportsModel", "set", "(IIII)I"⟩, 40), (⟨"ThrowReportsModel", "take", "(IIII)I"⟩, 40), (⟨"ThrowReportsModel", "lay", "(IIII)I"⟩, 40), (⟨"ThrowReportsModel", "measure", "(III)I"⟩, 40)]
theorem lw_r4 : ∀ q ∈ lw_privs_4, lw_okq q := List.forall_mem_cons.mpr ⟨lw_p48, List.forall_mem_cons.mpr ⟨lw_p49, List.forall_mem_cons.mpr ⟨lw_p50, List.forall_mem_cons.mpr ⟨lw_p51, List.forall_mem_cons.mpr ⟨lw_p52, List.forall_mem_cons.mpr ⟨lw_p53, List.forall_mem_cons.mpr ⟨lw_p54, List.forall_mem_cons.mpr ⟨lw_p55, List.forall_mem_cons.mpr ⟨lw_p56, List.forall_mem_cons.mpr ⟨lw_p57, List.forall_mem_cons.mpr ⟨lw_p58, List.forall_mem_cons.mpr ⟨lw_p59, List.forall_mem_cons.mpr ⟨lw_p60, List.forall_mem_cons.mpr ⟨lw_p61, List.forall_mem_cons.mpr ⟨lw_p62, List.forall_mem_cons.mpr ⟨lw_p63, fun _ h => absurd h List.not_mem_nil⟩⟩⟩⟩⟩⟩⟩⟩⟩⟩⟩⟩⟩⟩⟩⟩
theorem lw_p64 : lw_okq (⟨"ThrowReportsModel", "cloned", "(II)I"⟩, 40) := ⟨⟨by decide +kernel, by decide +kernel⟩, List.mem_of_getElem? (i := 851) (by decide +kernel), List.mem_of_getElem? (i := 1110) (by decide +kernel), List.mem_of_getElem? (i := 1111) (by decide +kernel)⟩
theorem lw_p65 : lw_okq (⟨"ThrowReportsModel", "tell", "(II)I"⟩, 40) := ⟨⟨by decide +kernel, by decide +kernel⟩, List.mem_of_getElem? (i := 851) (by decide +kernel), List.mem_of_getElem? (i := 1114) (by decide +kernel), List.mem_of_getElem? (i := 1115) (by decide +kernel)⟩
theorem lw_p66 : lw_okq (⟨"ThrowReportsModel", "copy", "(IIIII)I"⟩, 40) := ⟨⟨by decide +kernel, by decide +kernel⟩, List.mem_of_getElem? (i := 851) (by decide +kernel), List.mem_of_getElem? (i := 1118) (by decide +kernel), List.mem_of_getElem? (i := 1119) (by decide +kernel)⟩
theorem lw_p67 : lw_okq (⟨"ThrowReportsModel", "divide", "(IIIZ)I"⟩, 40) := ⟨⟨by decide +kernel, by decide +kernel⟩, List.mem_of_getElem? (i := 851) (by decide +kernel), List.mem_of_getElem? (i := 1125) (by decide +kernel), List.mem_of_getElem? (i := 1126) (by decide +kernel)⟩
theorem lw_p68 : lw_okq (⟨"ThrowReportsModel", "ofGuard", "(II)I"⟩, 40) := ⟨⟨by decide +kernel, by decide +kernel⟩, List.mem_of_getElem? (i := 851) (by decide +kernel), List.mem_of_getElem? (i := 1130) (by decide +kernel), List.mem_of_getElem? (i := 1131) (by decide +kernel)⟩
theorem lw_p69 : lw_okq (⟨"ThrowReportsModel", "step", "(II)V"⟩, 40) := ⟨⟨by decide +kernel, by decide +kernel⟩, List.mem_of_getElem? (i := 851) (by decide +kernel), List.mem_of_getElem? (i := 1134) (by decide +kernel), List.mem_of_getElem? (i := 1135) (by decide +kernel)⟩
theorem lw_p70 : lw_okq (⟨"ThrowReportsModel", "ofOther", "(II)I"⟩, 40) := ⟨⟨by decide +kernel, by decide +kernel⟩, List.mem_of_getElem? (i := 851) (by decide +kernel), List.mem_of_getElem? (i := 1138) (by decide +kernel), List.mem_of_getElem? (i := 1139) (by decide +kernel)⟩
theorem lw_p71 : lw_okq (⟨"ThrowReportsModel", "twins", "(II)Z"⟩, 40) := ⟨⟨by decide +kernel, by decide +kernel⟩, List.mem_of_getElem? (i := 851) (by decide +kernel), List.mem_of_getElem? (i := 1170) (by decide +kernel), List.mem_of_getElem? (i := 1171) (by decide +kernel)⟩
theorem lw_p72 : lw_okq (⟨"ThrowReportsModel", "plainTwins", "(II)Z"⟩, 40) := ⟨⟨by decide +kernel, by decide +kernel⟩, List.mem_of_getElem? (i := 851) (by decide +kernel), List.mem_of_getElem? (i := 1174) (by decide +kernel), List.mem_of_getElem? (i := 1175) (by decide +kernel)⟩
theorem lw_p73 : lw_okq (⟨"ThrowReportsModel", "startOf", "(I)I"⟩, 40) := ⟨⟨by decide +kernel, by decide +kernel⟩, List.mem_of_getElem? (i := 851) (by decide +kernel), List.mem_of_getElem? (i := 1182) (by decide +kernel), List.mem_of_getElem? (i := 1183) (by decide +kernel)⟩
theorem lw_p74 : lw_okq (⟨"ThrowReportsModel", "through", "(I)V"⟩, 40) := ⟨⟨by decide +kernel, by decide +kernel⟩, List.mem_of_getElem? (i := 851) (by decide +kernel), List.mem_of_getElem? (i := 1193) (by decide +kernel), List.mem_of_getElem? (i := 1194) (by decide +kernel)⟩
theorem lw_p75 : lw_okq (⟨"ThrowReportsModel", "throughAct", "(II)V"⟩, 40) := ⟨⟨by decide +kernel, by decide +kernel⟩, List.mem_of_getElem? (i := 851) (by decide +kernel), List.mem_of_getElem? (i := 1197) (by decide +kernel), List.mem_of_getElem? (i := 1198) (by decide +kernel)⟩
theorem lw_p76 : lw_okq (⟨"ThrowReportsModel", "enter", "(II)V"⟩, 40) := ⟨⟨by decide +kernel, by decide +kernel⟩, List.mem_of_getElem? (i := 851) (by decide +kernel), List.mem_of_getElem? (i := 1201) (by decide +kernel), List.mem_of_getElem? (i := 1202) (by decide +kernel)⟩
theorem lw_p77 : lw_okq (⟨"ThrowReportsModel", "mayAct", "(II)Z"⟩, 40) := ⟨⟨by decide +kernel, by decide +kernel⟩, List.mem_of_getElem? (i := 851) (by decide +kernel), List.mem_of_getElem? (i := 1211) (by decide +kernel), List.mem_of_getElem? (i := 1212) (by decide +kernel)⟩
theorem lw_p78 : lw_okq (⟨"ThrowReportsModel", "mayNew", "(IZII)Z"⟩, 40) := ⟨⟨by decide +kernel, by decide +kernel⟩, List.mem_of_getElem? (i := 851) (by decide +kernel), List.mem_of_getElem? (i := 1215) (by decide +kernel), List.mem_of_getElem? (i := 1216) (by decide +kernel)⟩
theorem lw_p79 : lw_okq (⟨"ThrowReportsModel", "mayFail", "(IIII)V"⟩, 40) := ⟨⟨by decide +kernel, by decide +kernel⟩, List.mem_of_getElem? (i := 851) (by decide +kernel), List.mem_of_getElem? (i := 1219) (by decide +kernel), List.mem_of_getElem? (i := 1220) (by decide +kernel)⟩
def lw_privs_5 : List (MethodName × Nat) := [(⟨"ThrowReportsModel", "cloned", "(II)I"⟩, 40), (⟨"ThrowReportsModel", "tell", "(II)I"⟩, 40), (⟨"ThrowReportsModel", "copy", "(IIIII)I"⟩, 40), (⟨"ThrowReportsModel", "divide", "(IIIZ)I"⟩, 40), (⟨"ThrowReportsModel", "ofGuard", "(II)I"⟩, 40), (⟨"ThrowReportsModel", "step", "(II)V"⟩, 40), (⟨"ThrowReportsModel", "ofOther", "(II)I"⟩, 40), (⟨"ThrowReportsModel", "twins", "(II)Z"⟩, 40), (⟨"ThrowReportsModel", "plainTwins", "(II)Z"⟩, 40), (⟨"ThrowReportsModel", "startOf", "(I)I"⟩, 40), (⟨"ThrowReportsModel", "through", "(I)V"⟩, 40), (⟨"ThrowReportsModel", "throughAct", "(II)V"⟩, 40), (⟨"ThrowReportsModel", "enter", "(II)V"⟩, 40), (⟨"ThrowReportsModel", "mayAct", "(II)Z"⟩, 40), (⟨"ThrowReportsModel", "mayNew", "(IZII)Z"⟩, 40), (⟨"ThrowReportsModel", "mayFail", "(IIII)V"⟩, 40)]
theorem lw_r5 : ∀ q ∈ lw_privs_5, lw_okq q := List.forall_mem_cons.mpr ⟨lw_p64, List.forall_mem_cons.mpr ⟨lw_p65, List.forall_mem_cons.mpr ⟨lw_p66, List.forall_mem_cons.mpr ⟨lw_p67, List.forall_mem_cons.mpr ⟨lw_p68, List.forall_mem_cons.mpr ⟨lw_p69, List.forall_mem_cons.mpr ⟨lw_p70, List.forall_mem_cons.mpr ⟨lw_p71, List.forall_mem_cons.mpr ⟨lw_p72, List.forall_mem_cons.mpr ⟨lw_p73, List.forall_mem_cons.mpr ⟨lw_p74, List.forall_mem_cons.mpr ⟨lw_p75, List.forall_mem_cons.mpr ⟨lw_p76, List.forall_mem_cons.mpr ⟨lw_p77, List.forall_mem_cons.mpr ⟨lw_p78, List.forall_mem_cons.mpr ⟨lw_p79, fun _ h => absurd h List.not_mem_nil⟩⟩⟩⟩⟩⟩⟩⟩⟩⟩⟩⟩⟩⟩⟩⟩
theorem lw_p80 : lw_okq (⟨"ThrowReportsModel", "mayAs", "(III)Z"⟩, 40) := ⟨⟨by decide +kernel, by decide +kernel⟩, List.mem_of_getElem? (i := 851) (by decide +kernel), List.mem_of_getElem? (i := 1223) (by decide +kernel), List.mem_of_getElem? (i := 1224) (by decide +kernel)⟩
theorem lw_p81 : lw_okq (⟨"ThrowReportsModel", "mayItem", "(III)Z"⟩, 40) := ⟨⟨by decide +kernel, by decide +kernel⟩, List.mem_of_getElem? (i := 851) (by decide +kernel), List.mem_of_getElem? (i := 1227) (by decide +kernel), List.mem_of_getElem? (i := 1228) (by decide +kernel)⟩
theorem lw_p82 : lw_okq (⟨"ThrowReportsModel", "mayRow", "(II)Z"⟩, 40) := ⟨⟨by decide +kernel, by decide +kernel⟩, List.mem_of_getElem? (i := 851) (by decide +kernel), List.mem_of_getElem? (i := 1231) (by decide +kernel), List.mem_of_getElem? (i := 1232) (by decide +kernel)⟩
theorem lw_p83 : lw_okq (⟨"ThrowReportsModel", "mayTake", "(IIII)Z"⟩, 40) := ⟨⟨by decide +kernel, by decide +kernel⟩, List.mem_of_getElem? (i := 851) (by decide +kernel), List.mem_of_getElem? (i := 1235) (by decide +kernel), List.mem_of_getElem? (i := 1236) (by decide +kernel)⟩
theorem lw_p84 : lw_okq (⟨"ThrowReportsModel", "mayLay", "(IIII)Z"⟩, 40) := ⟨⟨by decide +kernel, by decide +kernel⟩, List.mem_of_getElem? (i := 851) (by decide +kernel), List.mem_of_getElem? (i := 1239) (by decide +kernel), List.mem_of_getElem? (i := 1240) (by decide +kernel)⟩
theorem lw_p85 : lw_okq (⟨"ThrowReportsModel", "mayCopy", "(III)Z"⟩, 40) := ⟨⟨by decide +kernel, by decide +kernel⟩, List.mem_of_getElem? (i := 851) (by decide +kernel), List.mem_of_getElem? (i := 1243) (by decide +kernel), List.mem_of_getElem? (i := 1244) (by decide +kernel)⟩
theorem lw_p86 : lw_okq (⟨"ThrowReportsModel", "leave", "(II)V"⟩, 40) := ⟨⟨by decide +kernel, by decide +kernel⟩, List.mem_of_getElem? (i := 851) (by decide +kernel), List.mem_of_getElem? (i := 1250) (by decide +kernel), List.mem_of_getElem? (i := 1251) (by decide +kernel)⟩
theorem lw_p87 : lw_okq (⟨"ThrowReportsModel", "throughBoth", "(II)V"⟩, 40) := ⟨⟨by decide +kernel, by decide +kernel⟩, List.mem_of_getElem? (i := 851) (by decide +kernel), List.mem_of_getElem? (i := 1254) (by decide +kernel), List.mem_of_getElem? (i := 1255) (by decide +kernel)⟩
theorem lw_p88 : lw_okq (⟨"ThrowReportsModel", "put", "(II)V"⟩, 40) := ⟨⟨by decide +kernel, by decide +kernel⟩, List.mem_of_getElem? (i := 851) (by decide +kernel), List.mem_of_getElem? (i := 1258) (by decide +kernel), List.mem_of_getElem? (i := 1259) (by decide +kernel)⟩
theorem lw_p89 : lw_okq (⟨"ThrowReportsModel", "throughChoice", "(II)V"⟩, 40) := ⟨⟨by decide +kernel, by decide +kernel⟩, List.mem_of_getElem? (i := 851) (by decide +kernel), List.mem_of_getElem? (i := 1262) (by decide +kernel), List.mem_of_getElem? (i := 1263) (by decide +kernel)⟩
theorem lw_p90 : lw_okq (⟨"ThrowReportsModel", "throughGuard", "(II)V"⟩, 40) := ⟨⟨by decide +kernel, by decide +kernel⟩, List.mem_of_getElem? (i := 851) (by decide +kernel), List.mem_of_getElem? (i := 1266) (by decide +kernel), List.mem_of_getElem? (i := 1267) (by decide +kernel)⟩
theorem lw_p91 : lw_okq (⟨"ThrowReportsModel", "part", "(II)V"⟩, 40) := ⟨⟨by decide +kernel, by decide +kernel⟩, List.mem_of_getElem? (i := 851) (by decide +kernel), List.mem_of_getElem? (i := 1270) (by decide +kernel), List.mem_of_getElem? (i := 1271) (by decide +kernel)⟩
theorem lw_p92 : lw_okq (⟨"ThrowReportsModel", "last", "(III)V"⟩, 40) := ⟨⟨by decide +kernel, by decide +kernel⟩, List.mem_of_getElem? (i := 851) (by decide +kernel), List.mem_of_getElem? (i := 1274) (by decide +kernel), List.mem_of_getElem? (i := 1275) (by decide +kernel)⟩
theorem lw_p93 : lw_okq (⟨"ThrowReportsModel", "has", "(I)Z"⟩, 40) := ⟨⟨by decide +kernel, by decide +kernel⟩, List.mem_of_getElem? (i := 851) (by decide +kernel), List.mem_of_getElem? (i := 1282) (by decide +kernel), List.mem_of_getElem? (i := 1283) (by decide +kernel)⟩
def lw_privs_6 : List (MethodName × Nat) := [(⟨"ThrowReportsModel", "mayAs", "(III)Z"⟩, 40), (⟨"ThrowReportsModel", "mayItem", "(III)Z"⟩, 40), (⟨"ThrowReportsModel", "mayRow", "(II)Z"⟩, 40), (⟨"ThrowReportsModel", "mayTake", "(IIII)Z"⟩, 40), (⟨"ThrowReportsModel", "mayLay", "(IIII)Z"⟩, 40), (⟨"ThrowReportsModel", "mayCopy", "(III)Z"⟩, 40), (⟨"ThrowReportsModel", "leave", "(II)V"⟩, 40), (⟨"ThrowReportsModel", "throughBoth", "(II)V"⟩, 40), (⟨"ThrowReportsModel", "put", "(II)V"⟩, 40), (⟨"ThrowReportsModel", "throughChoice", "(II)V"⟩, 40), (⟨"ThrowReportsModel", "throughGuard", "(II)V"⟩, 40), (⟨"ThrowReportsModel", "part", "(II)V"⟩, 40), (⟨"ThrowReportsModel", "last", "(III)V"⟩, 40), (⟨"ThrowReportsModel", "has", "(I)Z"⟩, 40)]
theorem lw_r6 : ∀ q ∈ lw_privs_6, lw_okq q := List.forall_mem_cons.mpr ⟨lw_p80, List.forall_mem_cons.mpr ⟨lw_p81, List.forall_mem_cons.mpr ⟨lw_p82, List.forall_mem_cons.mpr ⟨lw_p83, List.forall_mem_cons.mpr ⟨lw_p84, List.forall_mem_cons.mpr ⟨lw_p85, List.forall_mem_cons.mpr ⟨lw_p86, List.forall_mem_cons.mpr ⟨lw_p87, List.forall_mem_cons.mpr ⟨lw_p88, List.forall_mem_cons.mpr ⟨lw_p89, List.forall_mem_cons.mpr ⟨lw_p90, List.forall_mem_cons.mpr ⟨lw_p91, List.forall_mem_cons.mpr ⟨lw_p92, List.forall_mem_cons.mpr ⟨lw_p93, fun _ h => absurd h List.not_mem_nil⟩⟩⟩⟩⟩⟩⟩⟩⟩⟩⟩⟩⟩⟩
def lw_privs : List (MethodName × Nat) := lw_privs_1 ++ (lw_privs_2 ++ (lw_privs_3 ++ (lw_privs_4 ++ (lw_privs_5 ++ (lw_privs_6)))))
def lw_tbl : List Cond := k2_sels lw_privs ++ tables_1
theorem lw_privs_ok : ∀ q ∈ lw_privs, lw_okq q := by
  show ∀ q ∈ lw_privs_1 ++ (lw_privs_2 ++ (lw_privs_3 ++ (lw_privs_4 ++ (lw_privs_5 ++ (lw_privs_6))))), lw_okq q
  exact List.forall_mem_append.mpr ⟨lw_r1, List.forall_mem_append.mpr ⟨lw_r2, List.forall_mem_append.mpr ⟨lw_r3, List.forall_mem_append.mpr ⟨lw_r4, List.forall_mem_append.mpr ⟨lw_r5, lw_r6⟩⟩⟩⟩⟩
end
section
theorem goodIn_r {big : List Cond} (ws : List Cond) (ps : List Nat) (hp : ws = ps.filterMap (fun i => big[i]?)) (h : ws.all goodWord = true) : GoodIn big ws := by
  intro w hw
  have h1 := List.all_eq_true.mp h w hw
  rw [hp] at hw
  obtain ⟨i, -, hi⟩ := List.mem_filterMap.mp hw
  have hm : w ∈ big := by first | exact List.mem_of_getElem? hi | exact List.getElem?_mem hi
  exact ⟨hm, good_of_word h1⟩
theorem goodIn_app {big a b : List Cond} (ha : GoodIn big a) (hb : GoodIn big b) : GoodIn big (a ++ b) := fun w h => (List.mem_append.mp h).elim (ha w) (hb w)
theorem goodIn_ca {big a b : List Cond} {c : Cond} (ha : GoodIn big (c :: a)) (hb : GoodIn big b) : GoodIn big (c :: (a ++ b)) := fun w h => (List.mem_cons.mp h).elim (fun e => ha w (List.mem_cons.mpr (Or.inl e))) (fun h => (List.mem_append.mp h).elim (fun h => ha w (List.mem_cons.mpr (Or.inr h))) (hb w))
theorem goodIn_sub {big ws : List Cond} (hm : ∀ w ∈ ws, w ∈ big) (h : ws.all goodWord = true) : GoodIn big ws := fun w hw => ⟨hm w hw, good_of_word (List.all_eq_true.mp h w hw)⟩
def RX0 : String := "ThrowReports$Act"
def TX0 : u_T := fun k => match k with
  | 0 => ("ThrowReports$Node", "number", "I", true)
  | 1 => ("ThrowReports$Node", "cost", "I", true)
  | 2 => ("ThrowReports$Node", "before", "LThrowReports$State;", true)
  | 3 => ("ThrowReports$Node", "ways", "LThrowReports$Ways;", true)
  | 4 => ("ThrowReports$Node", "mayDo", "I", false)
  | 5 => ("ThrowReports$Act", "op", "I", true)
  | 6 => ("ThrowReports$Act", "a", "I", true)
  | 7 => ("ThrowReports$Act", "b", "I", true)
  | 8 => ("ThrowReports$Act", "c", "I", true)
  | 9 => ("ThrowReports$Act", "d", "I", true)
  | _ => ("ThrowReports$Act", "left", "LThrowReports$State;", true)
def tyX0 : Nat → FieldType := fun k => match k with
  | 0 => .int
  | 1 => .int
  | 2 => .object "ThrowReports$State"
  | 3 => .object "ThrowReports$Ways"
  | 4 => .int
  | 5 => .int
  | 6 => .int
  | 7 => .int
  | 8 => .int
  | 9 => .int
  | _ => .object "ThrowReports$State"
abbrev wsX00 : List Cond := u_ws RX0 TX0 11
theorem nmX0 : ∀ a, a < 11 → ∀ b, b < 11 → a ≠ b → (TX0 a).2.1 ≠ (TX0 b).2.1 := by decide +kernel
theorem tyX0_ok : ∀ k, k < 11 → parseFieldDescriptor (TX0 k).2.2.1 = some (tyX0 k) := by decide +kernel
abbrev cX0_init : ByteArray := prog_2_method_1_code
def yX0_init : MethodName := ⟨RX0, "<init>", "(IIIIII)V"⟩
abbrev cX0_isAsTold : ByteArray := prog_2_method_2_code
def yX0_isAsTold : MethodName := ⟨RX0, "isAsTold", "(IIIII)Z"⟩
abbrev cX0_fits : ByteArray := prog_2_method_3_code
def yX0_fits : MethodName := ⟨RX0, "fits", "(II)Z"⟩
abbrev cX0_done : ByteArray := prog_2_method_4_code
def yX0_done : MethodName := ⟨RX0, "done", "(LThrowReports$Machine;)I"⟩
abbrev cX0_findWays : ByteArray := prog_2_method_5_code
def yX0_findWays : MethodName := ⟨RX0, "findWays", "(LThrowReports$State;)V"⟩
abbrev cX0_mayFail : ByteArray := prog_2_method_6_code
def yX0_mayFail : MethodName := ⟨RX0, "mayFail", "(I)V"⟩
abbrev cX0_mustFail : ByteArray := prog_2_method_7_code
def yX0_mustFail : MethodName := ⟨RX0, "mustFail", "(I)V"⟩
abbrev cX0_failFor : ByteArray := prog_2_method_8_code
def yX0_failFor : MethodName := ⟨RX0, "failFor", "(III)V"⟩
abbrev cX0_makeAnew : ByteArray := prog_2_method_9_code
def yX0_makeAnew : MethodName := ⟨RX0, "makeAnew", "(I)V"⟩
abbrev cX0_askAs : ByteArray := prog_2_method_10_code
def yX0_askAs : MethodName := ⟨RX0, "askAs", "(II)V"⟩
abbrev cX0_askSomething : ByteArray := prog_2_method_11_code
def yX0_askSomething : MethodName := ⟨RX0, "askSomething", "(II)V"⟩
abbrev cX0_askNew : ByteArray := prog_2_method_12_code
def yX0_askNew : MethodName := ⟨RX0, "askNew", "(ZI)V"⟩
abbrev cX0_askMove : ByteArray := prog_2_method_13_code
def yX0_askMove : MethodName := ⟨RX0, "askMove", "()V"⟩
abbrev cX0_askTake : ByteArray := prog_2_method_14_code
def yX0_askTake : MethodName := ⟨RX0, "askTake", "()V"⟩
abbrev cX0_askLay : ByteArray := prog_2_method_15_code
def yX0_askLay : MethodName := ⟨RX0, "askLay", "()V"⟩
abbrev cX0_keepWhatLays : ByteArray := prog_2_method_16_code
def yX0_keepWhatLays : MethodName := ⟨RX0, "keepWhatLays", "()V"⟩
abbrev cX0_askCopy : ByteArray := prog_2_method_17_code
def yX0_askCopy : MethodName := ⟨RX0, "askCopy", "()V"⟩
def RX1 : String := "ThrowReports$Both"
def TX1 : u_T := fun k => match k with
  | 0 => ("ThrowReports$Node", "number", "I", true)
  | 1 => ("ThrowReports$Node", "cost", "I", true)
  | 2 => ("ThrowReports$Node", "before", "LThrowReports$State;", true)
  | 3 => ("ThrowReports$Node", "ways", "LThrowReports$Ways;", true)
  | 4 => ("ThrowReports$Node", "mayDo", "I", false)
  | 5 => ("ThrowReports$Both", "first", "LThrowReports$Node;", true)
  | 6 => ("ThrowReports$Both", "second", "LThrowReports$Node;", true)
  | _ => ("ThrowReports$Both", "between", "LThrowReports$State;", true)
def tyX1 : Nat → FieldType := fun k => match k with
  | 0 => .int
  | 1 => .int
  | 2 => .object "ThrowReports$State"
  | 3 => .object "ThrowReports$Ways"
  | 4 => .int
  | 5 => .object "ThrowReports$Node"
  | 6 => .object "ThrowReports$Node"
  | _ => .object "ThrowReports$State"
abbrev wsX10 : List Cond := u_ws RX1 TX1 8
theorem nmX1 : ∀ a, a < 8 → ∀ b, b < 8 → a ≠ b → (TX1 a).2.1 ≠ (TX1 b).2.1 := by decide +kernel
theorem tyX1_ok : ∀ k, k < 8 → parseFieldDescriptor (TX1 k).2.2.1 = some (tyX1 k) := by decide +kernel
abbrev cX1_init : ByteArray := prog_3_method_1_code
def yX1_init : MethodName := ⟨RX1, "<init>", "(IILThrowReports$Node;LThrowReports$Node;)V"⟩
abbrev cX1_done : ByteArray := prog_3_method_2_code
def yX1_done : MethodName := ⟨RX1, "done", "(LThrowReports$Machine;)I"⟩
abbrev cX1_findWays : ByteArray := prog_3_method_3_code
def yX1_findWays : MethodName := ⟨RX1, "findWays", "(LThrowReports$State;)V"⟩
def RX2 : String := "ThrowReports$Choice"
def TX2 : u_T := fun k => match k with
  | 0 => ("ThrowReports$Node", "number", "I", true)
  | 1 => ("ThrowReports$Node", "cost", "I", true)
  | 2 => ("ThrowReports$Node", "before", "LThrowReports$State;", true)
  | 3 => ("ThrowReports$Node", "ways", "LThrowReports$Ways;", true)
  | 4 => ("ThrowReports$Node", "mayDo", "I", false)
  | 5 => ("ThrowReports$Choice", "slot", "I", true)
  | 6 => ("ThrowReports$Choice", "kind", "I", true)
  | 7 => ("ThrowReports$Choice", "one", "LThrowReports$Node;", true)
  | 8 => ("ThrowReports$Choice", "other", "LThrowReports$Node;", true)
  | _ => ("ThrowReports$Choice", "chosen", "LThrowReports$State;", true)
def tyX2 : Nat → FieldType := fun k => match k with
  | 0 => .int
  | 1 => .int
  | 2 => .object "ThrowReports$State"
  | 3 => .object "ThrowReports$Ways"
  | 4 => .int
  | 5 => .int
  | 6 => .int
  | 7 => .object "ThrowReports$Node"
  | 8 => .object "ThrowReports$Node"
  | _ => .object "ThrowReports$State"
abbrev wsX20 : List Cond := u_ws RX2 TX2 10
theorem nmX2 : ∀ a, a < 10 → ∀ b, b < 10 → a ≠ b → (TX2 a).2.1 ≠ (TX2 b).2.1 := by decide +kernel
theorem tyX2_ok : ∀ k, k < 10 → parseFieldDescriptor (TX2 k).2.2.1 = some (tyX2 k) := by decide +kernel
abbrev cX2_init : ByteArray := prog_4_method_1_code
def yX2_init : MethodName := ⟨RX2, "<init>", "(IIIILThrowReports$Node;LThrowReports$Node;)V"⟩
abbrev cX2_done : ByteArray := prog_4_method_2_code
def yX2_done : MethodName := ⟨RX2, "done", "(LThrowReports$Machine;)I"⟩
abbrev cX2_findWays : ByteArray := prog_4_method_3_code
def yX2_findWays : MethodName := ⟨RX2, "findWays", "(LThrowReports$State;)V"⟩
abbrev cX2_choose : ByteArray := prog_4_method_4_code
def yX2_choose : MethodName := ⟨RX2, "choose", "(LThrowReports$Node;LThrowReports$State;I)V"⟩
def RX3 : String := "ThrowReports$Guard"
def TX3 : u_T := fun k => match k with
  | 0 => ("ThrowReports$Node", "number", "I", true)
  | 1 => ("ThrowReports$Node", "cost", "I", true)
  | 2 => ("ThrowReports$Node", "before", "LThrowReports$State;", true)
  | 3 => ("ThrowReports$Node", "ways", "LThrowReports$Ways;", true)
  | 4 => ("ThrowReports$Node", "mayDo", "I", false)
  | 5 => ("ThrowReports$Guard", "body", "LThrowReports$Node;", true)
  | 6 => ("ThrowReports$Guard", "set", "I", true)
  | 7 => ("ThrowReports$Guard", "handler", "LThrowReports$Node;", true)
  | 8 => ("ThrowReports$Guard", "last", "LThrowReports$Node;", true)
  | 9 => ("ThrowReports$Guard", "taken", "LThrowReports$State;", true)
  | 10 => ("ThrowReports$Guard", "handled", "LThrowReports$Ways;", true)
  | 11 => ("ThrowReports$Guard", "bodyMay", "I", false)
  | _ => ("ThrowReports$Guard", "lostFailures", "I", false)
def tyX3 : Nat → FieldType := fun k => match k with
  | 0 => .int
  | 1 => .int
  | 2 => .object "ThrowReports$State"
  | 3 => .object "ThrowReports$Ways"
  | 4 => .int
  | 5 => .object "ThrowReports$Node"
  | 6 => .int
  | 7 => .object "ThrowReports$Node"
  | 8 => .object "ThrowReports$Node"
  | 9 => .object "ThrowReports$State"
  | 10 => .object "ThrowReports$Ways"
  | 11 => .int
  | _ => .int
abbrev wsX30 : List Cond := u_ws RX3 TX3 13
theorem nmX3 : ∀ a, a < 13 → ∀ b, b < 13 → a ≠ b → (TX3 a).2.1 ≠ (TX3 b).2.1 := by decide +kernel
theorem tyX3_ok : ∀ k, k < 13 → parseFieldDescriptor (TX3 k).2.2.1 = some (tyX3 k) := by decide +kernel
abbrev cX3_init : ByteArray := prog_5_method_1_code
def yX3_init : MethodName := ⟨RX3, "<init>", "(IILThrowReports$Node;ILThrowReports$Node;LThrowReports$Node;)V"⟩
abbrev cX3_takes : ByteArray := prog_5_method_2_code
def yX3_takes : MethodName := ⟨RX3, "takes", "(I)Z"⟩
abbrev cX3_done : ByteArray := prog_5_method_3_code
def yX3_done : MethodName := ⟨RX3, "done", "(LThrowReports$Machine;)I"⟩
abbrev cX3_findWays : ByteArray := prog_5_method_4_code
def yX3_findWays : MethodName := ⟨RX3, "findWays", "(LThrowReports$State;)V"⟩
abbrev cX3_sortBodysWays : ByteArray := prog_5_method_5_code
def yX3_sortBodysWays : MethodName := ⟨RX3, "sortBodysWays", "()V"⟩
abbrev cX3_goOnThroughLast : ByteArray := prog_5_method_6_code
def yX3_goOnThroughLast : MethodName := ⟨RX3, "goOnThroughLast", "(LThrowReports$Node;)V"⟩
abbrev cX3_vainFailures : ByteArray := prog_5_method_7_code
def yX3_vainFailures : MethodName := ⟨RX3, "vainFailures", "()I"⟩
abbrev cX3_forgetReport : ByteArray := prog_5_method_8_code
def yX3_forgetReport : MethodName := ⟨RX3, "forgetReport", "()V"⟩
def RX4 : String := "ThrowReports$Kinds"
def TX4 : u_T := fun k => match k with
  | _ => ("", "", "", false)
def tyX4 : Nat → FieldType := fun k => match k with
  | _ => .int
abbrev wsX40 : List Cond := u_ws RX4 TX4 0
theorem nmX4 : ∀ a, a < 0 → ∀ b, b < 0 → a ≠ b → (TX4 a).2.1 ≠ (TX4 b).2.1 := by decide +kernel
theorem tyX4_ok : ∀ k, k < 0 → parseFieldDescriptor (TX4 k).2.2.1 = some (tyX4 k) := by decide +kernel
abbrev cX4_setOf : ByteArray := prog_6_method_2_code
def yX4_setOf : MethodName := ⟨RX4, "setOf", "(I)I"⟩
abbrev cX4_has : ByteArray := prog_6_method_3_code
def yX4_has : MethodName := ⟨RX4, "has", "(II)Z"⟩
abbrev cX4_thoseThatAre : ByteArray := prog_6_method_4_code
def yX4_thoseThatAre : MethodName := ⟨RX4, "thoseThatAre", "(I)I"⟩
abbrev cX4_is : ByteArray := prog_6_method_5_code
def yX4_is : MethodName := ⟨RX4, "is", "(II)Z"⟩
abbrev cX4_thoseThatMeet : ByteArray := prog_6_method_6_code
def yX4_thoseThatMeet : MethodName := ⟨RX4, "thoseThatMeet", "(I)I"⟩
abbrev cX4_thoseThatTakeAllOf : ByteArray := prog_6_method_7_code
def yX4_thoseThatTakeAllOf : MethodName := ⟨RX4, "thoseThatTakeAllOf", "(I)I"⟩
abbrev cX4_ofItems : ByteArray := prog_6_method_8_code
def yX4_ofItems : MethodName := ⟨RX4, "ofItems", "(I)I"⟩
abbrev cX4_isRow : ByteArray := prog_6_method_9_code
def yX4_isRow : MethodName := ⟨RX4, "isRow", "(I)Z"⟩
abbrev cX4_meeting : ByteArray := prog_6_method_10_code
def yX4_meeting : MethodName := ⟨RX4, "meeting", "(II)I"⟩
abbrev cX4_copyMayFailByStore : ByteArray := prog_6_method_11_code
def yX4_copyMayFailByStore : MethodName := ⟨RX4, "copyMayFailByStore", "(II)Z"⟩
def RX5 : String := "ThrowReports$Machine"
def TX5 : u_T := fun k => match k with
  | 0 => ("ThrowReports$Machine", "things", "LThrowReports$Things;", true)
  | 1 => ("ThrowReports$Machine", "slots", "[I", true)
  | 2 => ("ThrowReports$Machine", "registers", "[J", true)
  | 3 => ("ThrowReports$Machine", "begun", "I", false)
  | 4 => ("ThrowReports$Machine", "failed", "I", false)
  | 5 => ("ThrowReports$Machine", "came", "I", false)
  | 6 => ("ThrowReports$Machine", "lastParts", "I", false)
  | 7 => ("ThrowReports$Machine", "lost", "I", false)
  | _ => ("ThrowReports$Machine", "latestFailed", "I", false)
def tyX5 : Nat → FieldType := fun k => match k with
  | 0 => .object "ThrowReports$Things"
  | 1 => .array .int
  | 2 => .array .long
  | 3 => .int
  | 4 => .int
  | 5 => .int
  | 6 => .int
  | 7 => .int
  | _ => .int
abbrev wsX50 : List Cond := u_ws RX5 TX5 9
theorem nmX5 : ∀ a, a < 9 → ∀ b, b < 9 → a ≠ b → (TX5 a).2.1 ≠ (TX5 b).2.1 := by decide +kernel
theorem tyX5_ok : ∀ k, k < 9 → parseFieldDescriptor (TX5 k).2.2.1 = some (tyX5 k) := by decide +kernel
abbrev cX5_init : ByteArray := prog_7_method_1_code
def yX5_init : MethodName := ⟨RX5, "<init>", "()V"⟩
abbrev cX5_beginRun : ByteArray := prog_7_method_2_code
def yX5_beginRun : MethodName := ⟨RX5, "beginRun", "()V"⟩
abbrev cX5_empty : ByteArray := prog_7_method_3_code
def yX5_empty : MethodName := ⟨RX5, "empty", "()I"⟩
abbrev cX5_holds : ByteArray := prog_7_method_4_code
def yX5_holds : MethodName := ⟨RX5, "holds", "(II)Z"⟩
abbrev cX5_perform : ByteArray := prog_7_method_5_code
def yX5_perform : MethodName := ⟨RX5, "perform", "(IIIII)I"⟩
abbrev cX5_kindIn : ByteArray := prog_7_method_6_code
def yX5_kindIn : MethodName := ⟨RX5, "kindIn", "(I)I"⟩
abbrev cX5_unlessAs : ByteArray := prog_7_method_7_code
def yX5_unlessAs : MethodName := ⟨RX5, "unlessAs", "(II)I"⟩
abbrev cX5_unlessSomething : ByteArray := prog_7_method_8_code
def yX5_unlessSomething : MethodName := ⟨RX5, "unlessSomething", "(II)I"⟩
abbrev cX5_unlessItem : ByteArray := prog_7_method_9_code
def yX5_unlessItem : MethodName := ⟨RX5, "unlessItem", "(III)I"⟩
abbrev cX5_make : ByteArray := prog_7_method_10_code
def yX5_make : MethodName := ⟨RX5, "make", "(III)I"⟩
abbrev cX5_makeDeep : ByteArray := prog_7_method_11_code
def yX5_makeDeep : MethodName := ⟨RX5, "makeDeep", "(III)I"⟩
abbrev cX5_makeFigure : ByteArray := prog_7_method_12_code
def yX5_makeFigure : MethodName := ⟨RX5, "makeFigure", "(III)I"⟩
abbrev cX5_move : ByteArray := prog_7_method_13_code
def yX5_move : MethodName := ⟨RX5, "move", "(III)I"⟩
abbrev cX5_get : ByteArray := prog_7_method_14_code
def yX5_get : MethodName := ⟨RX5, "get", "(IIII)I"⟩
abbrev cX5_set : ByteArray := prog_7_method_15_code
def yX5_set : MethodName := ⟨RX5, "set", "(IIII)I"⟩
abbrev cX5_take : ByteArray := prog_7_method_16_code
def yX5_take : MethodName := ⟨RX5, "take", "(IIII)I"⟩
abbrev cX5_lay : ByteArray := prog_7_method_17_code
def yX5_lay : MethodName := ⟨RX5, "lay", "(IIII)I"⟩
abbrev cX5_length : ByteArray := prog_7_method_18_code
def yX5_length : MethodName := ⟨RX5, "length", "(III)I"⟩
abbrev cX5_cloneRow : ByteArray := prog_7_method_19_code
def yX5_cloneRow : MethodName := ⟨RX5, "cloneRow", "(II)I"⟩
abbrev cX5_tell : ByteArray := prog_7_method_20_code
def yX5_tell : MethodName := ⟨RX5, "tell", "(II)I"⟩
abbrev cX5_copy : ByteArray := prog_7_method_21_code
def yX5_copy : MethodName := ⟨RX5, "copy", "(IIII)I"⟩
abbrev cX5_divide : ByteArray := prog_7_method_22_code
def yX5_divide : MethodName := ⟨RX5, "divide", "(III)I"⟩
abbrev cX5_rest : ByteArray := prog_7_method_23_code
def yX5_rest : MethodName := ⟨RX5, "rest", "(III)I"⟩
def RX6 : String := "ThrowReports$Node"
def TX6 : u_T := fun k => match k with
  | _ => ("", "", "", false)
def tyX6 : Nat → FieldType := fun k => match k with
  | _ => .int
abbrev wsX60 : List Cond := u_ws RX6 TX6 0
theorem nmX6 : ∀ a, a < 0 → ∀ b, b < 0 → a ≠ b → (TX6 a).2.1 ≠ (TX6 b).2.1 := by decide +kernel
theorem tyX6_ok : ∀ k, k < 0 → parseFieldDescriptor (TX6 k).2.2.1 = some (tyX6 k) := by decide +kernel
abbrev cX6_init : ByteArray := prog_8_method_1_code
def yX6_init : MethodName := ⟨RX6, "<init>", "(II)V"⟩
abbrev cX6_goThrough : ByteArray := prog_8_method_4_code
def yX6_goThrough : MethodName := ⟨RX6, "goThrough", "(LThrowReports$State;)V"⟩
abbrev cX6_isReached : ByteArray := prog_8_method_5_code
def yX6_isReached : MethodName := ⟨RX6, "isReached", "()Z"⟩
abbrev cX6_forgetReport : ByteArray := prog_8_method_6_code
def yX6_forgetReport : MethodName := ⟨RX6, "forgetReport", "()V"⟩
def RX7 : String := "ThrowReports$State"
def TX7 : u_T := fun k => match k with
  | _ => ("ThrowReports$State", "sets", "[I", true)
def tyX7 : Nat → FieldType := fun k => match k with
  | _ => .array .int
abbrev wsX70 : List Cond := u_ws RX7 TX7 1
theorem nmX7 : ∀ a, a < 1 → ∀ b, b < 1 → a ≠ b → (TX7 a).2.1 ≠ (TX7 b).2.1 := by decide +kernel
theorem tyX7_ok : ∀ k, k < 1 → parseFieldDescriptor (TX7 k).2.2.1 = some (tyX7 k) := by decide +kernel
abbrev cX7_init : ByteArray := prog_9_method_1_code
def yX7_init : MethodName := ⟨RX7, "<init>", "()V"⟩
abbrev cX7_isThere : ByteArray := prog_9_method_2_code
def yX7_isThere : MethodName := ⟨RX7, "isThere", "()Z"⟩
abbrev cX7_of : ByteArray := prog_9_method_3_code
def yX7_of : MethodName := ⟨RX7, "of", "(I)I"⟩
abbrev cX7_has : ByteArray := prog_9_method_4_code
def yX7_has : MethodName := ⟨RX7, "has", "(II)Z"⟩
abbrev cX7_put : ByteArray := prog_9_method_5_code
def yX7_put : MethodName := ⟨RX7, "put", "(II)V"⟩
abbrev cX7_keep : ByteArray := prog_9_method_6_code
def yX7_keep : MethodName := ⟨RX7, "keep", "(II)V"⟩
abbrev cX7_erase : ByteArray := prog_9_method_7_code
def yX7_erase : MethodName := ⟨RX7, "erase", "()V"⟩
abbrev cX7_become : ByteArray := prog_9_method_8_code
def yX7_become : MethodName := ⟨RX7, "become", "(LThrowReports$State;)V"⟩
abbrev cX7_join : ByteArray := prog_9_method_9_code
def yX7_join : MethodName := ⟨RX7, "join", "(LThrowReports$State;)V"⟩
abbrev cX7_joinWith : ByteArray := prog_9_method_10_code
def yX7_joinWith : MethodName := ⟨RX7, "joinWith", "(LThrowReports$State;II)V"⟩
def RX8 : String := "ThrowReports$Things"
def TX8 : u_T := fun k => match k with
  | 0 => ("ThrowReports$Things", "kinds", "[I", true)
  | 1 => ("ThrowReports$Things", "starts", "[I", true)
  | 2 => ("ThrowReports$Things", "sizes", "[I", true)
  | 3 => ("ThrowReports$Things", "items", "[J", true)
  | 4 => ("ThrowReports$Things", "made", "I", false)
  | _ => ("ThrowReports$Things", "itemsUsed", "I", false)
def tyX8 : Nat → FieldType := fun k => match k with
  | 0 => .array .int
  | 1 => .array .int
  | 2 => .array .int
  | 3 => .array .long
  | 4 => .int
  | _ => .int
abbrev wsX80 : List Cond := u_ws RX8 TX8 6
theorem nmX8 : ∀ a, a < 6 → ∀ b, b < 6 → a ≠ b → (TX8 a).2.1 ≠ (TX8 b).2.1 := by decide +kernel
theorem tyX8_ok : ∀ k, k < 6 → parseFieldDescriptor (TX8 k).2.2.1 = some (tyX8 k) := by decide +kernel
abbrev cX8_init : ByteArray := prog_10_method_1_code
def yX8_init : MethodName := ⟨RX8, "<init>", "()V"⟩
abbrev cX8_haveRoom : ByteArray := prog_10_method_2_code
def yX8_haveRoom : MethodName := ⟨RX8, "haveRoom", "(JJ)Z"⟩
abbrev cX8_addRow : ByteArray := prog_10_method_3_code
def yX8_addRow : MethodName := ⟨RX8, "addRow", "(II)I"⟩
abbrev cX8_addFigure : ByteArray := prog_10_method_4_code
def yX8_addFigure : MethodName := ⟨RX8, "addFigure", "(II)I"⟩
abbrev cX8_removeAll : ByteArray := prog_10_method_5_code
def yX8_removeAll : MethodName := ⟨RX8, "removeAll", "()I"⟩
abbrev cX8_kindOf : ByteArray := prog_10_method_6_code
def yX8_kindOf : MethodName := ⟨RX8, "kindOf", "(I)I"⟩
abbrev cX8_sizeOf : ByteArray := prog_10_method_7_code
def yX8_sizeOf : MethodName := ⟨RX8, "sizeOf", "(I)I"⟩
abbrev cX8_hasItem : ByteArray := prog_10_method_8_code
def yX8_hasItem : MethodName := ⟨RX8, "hasItem", "(II)Z"⟩
abbrev cX8_read : ByteArray := prog_10_method_9_code
def yX8_read : MethodName := ⟨RX8, "read", "(II)J"⟩
abbrev cX8_write : ByteArray := prog_10_method_10_code
def yX8_write : MethodName := ⟨RX8, "write", "(IIJ)V"⟩
abbrev cX8_asItem : ByteArray := prog_10_method_11_code
def yX8_asItem : MethodName := ⟨RX8, "asItem", "(IJ)J"⟩
abbrev cX8_hasPart : ByteArray := prog_10_method_12_code
def yX8_hasPart : MethodName := ⟨RX8, "hasPart", "(III)Z"⟩
abbrev cX8_bring : ByteArray := prog_10_method_13_code
def yX8_bring : MethodName := ⟨RX8, "bring", "(IIIII)I"⟩
abbrev cX8_bringOneByOne : ByteArray := prog_10_method_14_code
def yX8_bringOneByOne : MethodName := ⟨RX8, "bringOneByOne", "(IIIII)I"⟩
abbrev cX8_match : ByteArray := prog_10_method_15_code
def yX8_match : MethodName := ⟨RX8, "match", "(II)Z"⟩
abbrev cX8_numbersMatch : ByteArray := prog_10_method_16_code
def yX8_numbersMatch : MethodName := ⟨RX8, "numbersMatch", "(II)Z"⟩
abbrev cX8_rowsMatch : ByteArray := prog_10_method_17_code
def yX8_rowsMatch : MethodName := ⟨RX8, "rowsMatch", "(II)Z"⟩
def RX9 : String := "ThrowReports$Ways"
def TX9 : u_T := fun k => match k with
  | _ => ("ThrowReports$Ways", "states", "[LThrowReports$State;", true)
def tyX9 : Nat → FieldType := fun k => match k with
  | _ => .array (.object "ThrowReports$State")
abbrev wsX90 : List Cond := u_ws RX9 TX9 1
theorem nmX9 : ∀ a, a < 1 → ∀ b, b < 1 → a ≠ b → (TX9 a).2.1 ≠ (TX9 b).2.1 := by decide +kernel
theorem tyX9_ok : ∀ k, k < 1 → parseFieldDescriptor (TX9 k).2.2.1 = some (tyX9 k) := by decide +kernel
abbrev cX9_init : ByteArray := prog_11_method_1_code
def yX9_init : MethodName := ⟨RX9, "<init>", "()V"⟩
abbrev cX9_by : ByteArray := prog_11_method_2_code
def yX9_by : MethodName := ⟨RX9, "by", "(I)LThrowReports$State;"⟩
abbrev cX9_erase : ByteArray := prog_11_method_3_code
def yX9_erase : MethodName := ⟨RX9, "erase", "()V"⟩
abbrev cX9_join : ByteArray := prog_11_method_4_code
def yX9_join : MethodName := ⟨RX9, "join", "(LThrowReports$Ways;)V"⟩
abbrev cX9_joinFailures : ByteArray := prog_11_method_5_code
def yX9_joinFailures : MethodName := ⟨RX9, "joinFailures", "(LThrowReports$Ways;)V"⟩
abbrev cX9_bits : ByteArray := prog_11_method_6_code
def yX9_bits : MethodName := ⟨RX9, "bits", "()I"⟩
def RX10 : String := "ThrowReports"
def TX10 : u_T := fun k => match k with
  | 0 => ("ThrowReports", "machine", "LThrowReports$Machine;", true)
  | 1 => ("ThrowReports", "nodes", "[LThrowReports$Node;", true)
  | 2 => ("ThrowReports", "start", "LThrowReports$State;", true)
  | _ => ("ThrowReports", "nodesMade", "I", false)
def tyX10 : Nat → FieldType := fun k => match k with
  | 0 => .object "ThrowReports$Machine"
  | 1 => .array (.object "ThrowReports$Node")
  | 2 => .object "ThrowReports$State"
  | _ => .int
abbrev wsX100 : List Cond := u_ws RX10 TX10 4
theorem nmX10 : ∀ a, a < 4 → ∀ b, b < 4 → a ≠ b → (TX10 a).2.1 ≠ (TX10 b).2.1 := by decide +kernel
theorem tyX10_ok : ∀ k, k < 4 → parseFieldDescriptor (TX10 k).2.2.1 = some (tyX10 k) := by decide +kernel
abbrev cX10_init : ByteArray := prog_1_method_1_code
def yX10_init : MethodName := ⟨RX10, "<init>", "()V"⟩
abbrev cX10_act : ByteArray := prog_1_method_2_code
def yX10_act : MethodName := ⟨RX10, "act", "(IIIII)I"⟩
abbrev cX10_both : ByteArray := prog_1_method_3_code
def yX10_both : MethodName := ⟨RX10, "both", "(II)I"⟩
abbrev cX10_choice : ByteArray := prog_1_method_4_code
def yX10_choice : MethodName := ⟨RX10, "choice", "(IIII)I"⟩
abbrev cX10_guard : ByteArray := prog_1_method_5_code
def yX10_guard : MethodName := ⟨RX10, "guard", "(IIII)I"⟩
abbrev cX10_forget : ByteArray := prog_1_method_6_code
def yX10_forget : MethodName := ⟨RX10, "forget", "()I"⟩
abbrev cX10_run : ByteArray := prog_1_method_7_code
def yX10_run : MethodName := ⟨RX10, "run", "(I)I"⟩
abbrev cX10_ran : ByteArray := prog_1_method_8_code
def yX10_ran : MethodName := ⟨RX10, "ran", "(I)I"⟩
abbrev cX10_clear : ByteArray := prog_1_method_9_code
def yX10_clear : MethodName := ⟨RX10, "clear", "()I"⟩
abbrev cX10_count : ByteArray := prog_1_method_10_code
def yX10_count : MethodName := ⟨RX10, "count", "(I)I"⟩
abbrev cX10_slot : ByteArray := prog_1_method_11_code
def yX10_slot : MethodName := ⟨RX10, "slot", "(II)I"⟩
abbrev cX10_item : ByteArray := prog_1_method_12_code
def yX10_item : MethodName := ⟨RX10, "item", "(II)J"⟩
abbrev cX10_register : ByteArray := prog_1_method_13_code
def yX10_register : MethodName := ⟨RX10, "register", "(I)J"⟩
abbrev cX10_alike : ByteArray := prog_1_method_14_code
def yX10_alike : MethodName := ⟨RX10, "alike", "(II)I"⟩
abbrev cX10_given : ByteArray := prog_1_method_15_code
def yX10_given : MethodName := ⟨RX10, "given", "(II)I"⟩
abbrev cX10_report : ByteArray := prog_1_method_16_code
def yX10_report : MethodName := ⟨RX10, "report", "(I)I"⟩
abbrev cX10_reached : ByteArray := prog_1_method_17_code
def yX10_reached : MethodName := ⟨RX10, "reached", "(I)I"⟩
abbrev cX10_may : ByteArray := prog_1_method_18_code
def yX10_may : MethodName := ⟨RX10, "may", "(I)I"⟩
abbrev cX10_ahead : ByteArray := prog_1_method_19_code
def yX10_ahead : MethodName := ⟨RX10, "ahead", "(II)I"⟩
abbrev cX10_guarded : ByteArray := prog_1_method_20_code
def yX10_guarded : MethodName := ⟨RX10, "guarded", "(II)I"⟩
abbrev cX10_isSlot : ByteArray := prog_1_method_21_code
def yX10_isSlot : MethodName := ⟨RX10, "isSlot", "(I)Z"⟩
abbrev cX10_isNode : ByteArray := prog_1_method_22_code
def yX10_isNode : MethodName := ⟨RX10, "isNode", "(I)Z"⟩
abbrev cX10_isNodeOrNone : ByteArray := prog_1_method_23_code
def yX10_isNodeOrNone : MethodName := ⟨RX10, "isNodeOrNone", "(I)Z"⟩
abbrev cX10_nodeOrNull : ByteArray := prog_1_method_24_code
def yX10_nodeOrNull : MethodName := ⟨RX10, "nodeOrNull", "(I)LThrowReports$Node;"⟩
abbrev cX10_costOf : ByteArray := prog_1_method_25_code
def yX10_costOf : MethodName := ⟨RX10, "costOf", "(I)I"⟩
abbrev cX10_isFull : ByteArray := prog_1_method_26_code
def yX10_isFull : MethodName := ⟨RX10, "isFull", "(I)Z"⟩
abbrev cX10_added : ByteArray := prog_1_method_27_code
def yX10_added : MethodName := ⟨RX10, "added", "(LThrowReports$Node;)I"⟩
def RX11 : String := "ThrowReportsModel"
def TX11 : u_T := fun k => match k with
  | 0 => ("ThrowReportsModel", "things", "I", false)
  | 1 => ("ThrowReportsModel", "items", "I", false)
  | 2 => ("ThrowReportsModel", "kind", "[I", true)
  | 3 => ("ThrowReportsModel", "begin", "[I", true)
  | 4 => ("ThrowReportsModel", "length", "[I", true)
  | 5 => ("ThrowReportsModel", "number", "[I", true)
  | 6 => ("ThrowReportsModel", "item", "[J", true)
  | 7 => ("ThrowReportsModel", "slots", "[I", true)
  | 8 => ("ThrowReportsModel", "registers", "[J", true)
  | 9 => ("ThrowReportsModel", "nodes", "I", false)
  | 10 => ("ThrowReportsModel", "sort", "[I", true)
  | 11 => ("ThrowReportsModel", "op", "[I", true)
  | 12 => ("ThrowReportsModel", "na", "[I", true)
  | 13 => ("ThrowReportsModel", "nb", "[I", true)
  | 14 => ("ThrowReportsModel", "nc", "[I", true)
  | 15 => ("ThrowReportsModel", "nd", "[I", true)
  | 16 => ("ThrowReportsModel", "cost", "[I", true)
  | 17 => ("ThrowReportsModel", "begun", "I", false)
  | 18 => ("ThrowReportsModel", "failed", "I", false)
  | 19 => ("ThrowReportsModel", "came", "I", false)
  | 20 => ("ThrowReportsModel", "lasts", "I", false)
  | 21 => ("ThrowReportsModel", "losts", "I", false)
  | 22 => ("ThrowReportsModel", "latest", "I", false)
  | 23 => ("ThrowReportsModel", "middle", "[J", true)
  | 24 => ("ThrowReportsModel", "stack", "[I", true)
  | 25 => ("ThrowReportsModel", "phase", "[I", true)
  | 26 => ("ThrowReportsModel", "held", "[I", true)
  | 27 => ("ThrowReportsModel", "top", "I", false)
  | 28 => ("ThrowReportsModel", "reports", "Z", false)
  | 29 => ("ThrowReportsModel", "start", "[I", true)
  | 30 => ("ThrowReportsModel", "startTold", "[Z", true)
  | 31 => ("ThrowReportsModel", "reached", "[Z", true)
  | 32 => ("ThrowReportsModel", "mays", "[I", true)
  | 33 => ("ThrowReportsModel", "aheads", "[I", true)
  | 34 => ("ThrowReportsModel", "bodies", "[I", true)
  | 35 => ("ThrowReportsModel", "lost", "[I", true)
  | 36 => ("ThrowReportsModel", "outs", "[I", true)
  | 37 => ("ThrowReportsModel", "ways", "[I", true)
  | 38 => ("ThrowReportsModel", "ins", "[I", true)
  | _ => ("ThrowReportsModel", "now", "[I", true)
def tyX11 : Nat → FieldType := fun k => match k with
  | 0 => .int
  | 1 => .int
  | 2 => .array .int
  | 3 => .array .int
  | 4 => .array .int
  | 5 => .array .int
  | 6 => .array .long
  | 7 => .array .int
  | 8 => .array .long
  | 9 => .int
  | 10 => .array .int
  | 11 => .array .int
  | 12 => .array .int
  | 13 => .array .int
  | 14 => .array .int
  | 15 => .array .int
  | 16 => .array .int
  | 17 => .int
  | 18 => .int
  | 19 => .int
  | 20 => .int
  | 21 => .int
  | 22 => .int
  | 23 => .array .long
  | 24 => .array .int
  | 25 => .array .int
  | 26 => .array .int
  | 27 => .int
  | 28 => .boolean
  | 29 => .array .int
  | 30 => .array .boolean
  | 31 => .array .boolean
  | 32 => .array .int
  | 33 => .array .int
  | 34 => .array .int
  | 35 => .array .int
  | 36 => .array .int
  | 37 => .array .int
  | 38 => .array .int
  | _ => .array .int
abbrev wsX110 : List Cond := u_ws RX11 TX11 40
theorem nmX11 : ∀ a, a < 40 → ∀ b, b < 40 → a ≠ b → (TX11 a).2.1 ≠ (TX11 b).2.1 := by decide +kernel
theorem tyX11_ok : ∀ k, k < 40 → parseFieldDescriptor (TX11 k).2.2.1 = some (tyX11 k) := by decide +kernel
abbrev cX11_init : ByteArray := prog_13_method_1_code
def yX11_init : MethodName := ⟨RX11, "<init>", "()V"⟩
abbrev cX11_in : ByteArray := prog_13_method_2_code
def yX11_in : MethodName := ⟨RX11, "in", "(III)Z"⟩
abbrev cX11_isSlot : ByteArray := prog_13_method_3_code
def yX11_isSlot : MethodName := ⟨RX11, "isSlot", "(I)Z"⟩
abbrev cX11_isRegister : ByteArray := prog_13_method_4_code
def yX11_isRegister : MethodName := ⟨RX11, "isRegister", "(I)Z"⟩
abbrev cX11_mask : ByteArray := prog_13_method_5_code
def yX11_mask : MethodName := ⟨RX11, "mask", "(I)I"⟩
abbrev cX11_is : ByteArray := prog_13_method_6_code
def yX11_is : MethodName := ⟨RX11, "is", "(II)Z"⟩
abbrev cX11_fresh : ByteArray := prog_13_method_7_code
def yX11_fresh : MethodName := ⟨RX11, "fresh", "(II)I"⟩
abbrev cX11_fits : ByteArray := prog_13_method_8_code
def yX11_fits : MethodName := ⟨RX11, "fits", "(JJ)Z"⟩
abbrev cX11_isNode : ByteArray := prog_13_method_9_code
def yX11_isNode : MethodName := ⟨RX11, "isNode", "(I)Z"⟩
abbrev cX11_node : ByteArray := prog_13_method_10_code
def yX11_node : MethodName := ⟨RX11, "node", "(IIIIIII)I"⟩
abbrev cX11_isAct : ByteArray := prog_13_method_11_code
def yX11_isAct : MethodName := ⟨RX11, "isAct", "(IIIII)Z"⟩
abbrev cX11_act : ByteArray := prog_13_method_12_code
def yX11_act : MethodName := ⟨RX11, "act", "(IIIII)I"⟩
abbrev cX11_both : ByteArray := prog_13_method_13_code
def yX11_both : MethodName := ⟨RX11, "both", "(II)I"⟩
abbrev cX11_choice : ByteArray := prog_13_method_14_code
def yX11_choice : MethodName := ⟨RX11, "choice", "(IIII)I"⟩
abbrev cX11_guard : ByteArray := prog_13_method_15_code
def yX11_guard : MethodName := ⟨RX11, "guard", "(IIII)I"⟩
abbrev cX11_forget : ByteArray := prog_13_method_16_code
def yX11_forget : MethodName := ⟨RX11, "forget", "()I"⟩
abbrev cX11_as : ByteArray := prog_13_method_17_code
def yX11_as : MethodName := ⟨RX11, "as", "(II)I"⟩
abbrev cX11_row : ByteArray := prog_13_method_18_code
def yX11_row : MethodName := ⟨RX11, "row", "(II)I"⟩
abbrev cX11_itemOf : ByteArray := prog_13_method_19_code
def yX11_itemOf : MethodName := ⟨RX11, "itemOf", "(III)I"⟩
abbrev cX11_make : ByteArray := prog_13_method_20_code
def yX11_make : MethodName := ⟨RX11, "make", "(III)I"⟩
abbrev cX11_deep : ByteArray := prog_13_method_21_code
def yX11_deep : MethodName := ⟨RX11, "deep", "(III)I"⟩
abbrev cX11_figure : ByteArray := prog_13_method_22_code
def yX11_figure : MethodName := ⟨RX11, "figure", "(III)I"⟩
abbrev cX11_told : ByteArray := prog_13_method_23_code
def yX11_told : MethodName := ⟨RX11, "told", "(IJ)J"⟩
abbrev cX11_lay : ByteArray := prog_13_method_24_code
def yX11_lay : MethodName := ⟨RX11, "lay", "(IIII)I"⟩
abbrev cX11_meet : ByteArray := prog_13_method_25_code
def yX11_meet : MethodName := ⟨RX11, "meet", "(II)Z"⟩
abbrev cX11_copy : ByteArray := prog_13_method_26_code
def yX11_copy : MethodName := ⟨RX11, "copy", "(IIIII)I"⟩
abbrev cX11_divide : ByteArray := prog_13_method_27_code
def yX11_divide : MethodName := ⟨RX11, "divide", "(IIIZ)I"⟩
abbrev cX11_tell : ByteArray := prog_13_method_28_code
def yX11_tell : MethodName := ⟨RX11, "tell", "(II)I"⟩
abbrev cX11_get : ByteArray := prog_13_method_29_code
def yX11_get : MethodName := ⟨RX11, "get", "(IIII)I"⟩
abbrev cX11_set : ByteArray := prog_13_method_30_code
def yX11_set : MethodName := ⟨RX11, "set", "(IIII)I"⟩
abbrev cX11_take : ByteArray := prog_13_method_31_code
def yX11_take : MethodName := ⟨RX11, "take", "(IIII)I"⟩
abbrev cX11_cloned : ByteArray := prog_13_method_32_code
def yX11_cloned : MethodName := ⟨RX11, "cloned", "(II)I"⟩
abbrev cX11_measure : ByteArray := prog_13_method_33_code
def yX11_measure : MethodName := ⟨RX11, "measure", "(III)I"⟩
abbrev cX11_move : ByteArray := prog_13_method_34_code
def yX11_move : MethodName := ⟨RX11, "move", "(III)I"⟩
abbrev cX11_done : ByteArray := prog_13_method_35_code
def yX11_done : MethodName := ⟨RX11, "done", "(I)I"⟩
abbrev cX11_push : ByteArray := prog_13_method_36_code
def yX11_push : MethodName := ⟨RX11, "push", "(I)V"⟩
abbrev cX11_step : ByteArray := prog_13_method_37_code
def yX11_step : MethodName := ⟨RX11, "step", "(II)V"⟩
abbrev cX11_ofAct : ByteArray := prog_13_method_38_code
def yX11_ofAct : MethodName := ⟨RX11, "ofAct", "(I)I"⟩
abbrev cX11_ofGuard : ByteArray := prog_13_method_39_code
def yX11_ofGuard : MethodName := ⟨RX11, "ofGuard", "(II)I"⟩
abbrev cX11_ofOther : ByteArray := prog_13_method_40_code
def yX11_ofOther : MethodName := ⟨RX11, "ofOther", "(II)I"⟩
abbrev cX11_goes : ByteArray := prog_13_method_41_code
def yX11_goes : MethodName := ⟨RX11, "goes", "(I)I"⟩
abbrev cX11_run : ByteArray := prog_13_method_42_code
def yX11_run : MethodName := ⟨RX11, "run", "(I)I"⟩
abbrev cX11_ran : ByteArray := prog_13_method_43_code
def yX11_ran : MethodName := ⟨RX11, "ran", "(I)I"⟩
abbrev cX11_clear : ByteArray := prog_13_method_44_code
def yX11_clear : MethodName := ⟨RX11, "clear", "()I"⟩
abbrev cX11_count : ByteArray := prog_13_method_45_code
def yX11_count : MethodName := ⟨RX11, "count", "(I)I"⟩
abbrev cX11_slot : ByteArray := prog_13_method_46_code
def yX11_slot : MethodName := ⟨RX11, "slot", "(II)I"⟩
abbrev cX11_item : ByteArray := prog_13_method_47_code
def yX11_item : MethodName := ⟨RX11, "item", "(II)J"⟩
abbrev cX11_register : ByteArray := prog_13_method_48_code
def yX11_register : MethodName := ⟨RX11, "register", "(I)J"⟩
abbrev cX11_plainTwins : ByteArray := prog_13_method_49_code
def yX11_plainTwins : MethodName := ⟨RX11, "plainTwins", "(II)Z"⟩
abbrev cX11_twins : ByteArray := prog_13_method_50_code
def yX11_twins : MethodName := ⟨RX11, "twins", "(II)Z"⟩
abbrev cX11_alike : ByteArray := prog_13_method_51_code
def yX11_alike : MethodName := ⟨RX11, "alike", "(II)I"⟩
abbrev cX11_startOf : ByteArray := prog_13_method_52_code
def yX11_startOf : MethodName := ⟨RX11, "startOf", "(I)I"⟩
abbrev cX11_given : ByteArray := prog_13_method_53_code
def yX11_given : MethodName := ⟨RX11, "given", "(II)I"⟩
abbrev cX11_join : ByteArray := prog_13_method_54_code
def yX11_join : MethodName := ⟨RX11, "join", "([II[II)V"⟩
abbrev cX11_lay_ : ByteArray := prog_13_method_55_code
def yX11_lay_ : MethodName := ⟨RX11, "lay", "([II[II)V"⟩
abbrev cX11_wipe : ByteArray := prog_13_method_56_code
def yX11_wipe : MethodName := ⟨RX11, "wipe", "([III)V"⟩
abbrev cX11_mayFail : ByteArray := prog_13_method_57_code
def yX11_mayFail : MethodName := ⟨RX11, "mayFail", "(IIII)V"⟩
abbrev cX11_mayAs : ByteArray := prog_13_method_58_code
def yX11_mayAs : MethodName := ⟨RX11, "mayAs", "(III)Z"⟩
abbrev cX11_mayRow : ByteArray := prog_13_method_59_code
def yX11_mayRow : MethodName := ⟨RX11, "mayRow", "(II)Z"⟩
abbrev cX11_mayItem : ByteArray := prog_13_method_60_code
def yX11_mayItem : MethodName := ⟨RX11, "mayItem", "(III)Z"⟩
abbrev cX11_mayNew : ByteArray := prog_13_method_61_code
def yX11_mayNew : MethodName := ⟨RX11, "mayNew", "(IZII)Z"⟩
abbrev cX11_mayLay : ByteArray := prog_13_method_62_code
def yX11_mayLay : MethodName := ⟨RX11, "mayLay", "(IIII)Z"⟩
abbrev cX11_partly : ByteArray := prog_13_method_63_code
def yX11_partly : MethodName := ⟨RX11, "partly", "(II)Z"⟩
abbrev cX11_mayCopy : ByteArray := prog_13_method_64_code
def yX11_mayCopy : MethodName := ⟨RX11, "mayCopy", "(III)Z"⟩
abbrev cX11_mayTake : ByteArray := prog_13_method_65_code
def yX11_mayTake : MethodName := ⟨RX11, "mayTake", "(IIII)Z"⟩
abbrev cX11_mayAct : ByteArray := prog_13_method_66_code
def yX11_mayAct : MethodName := ⟨RX11, "mayAct", "(II)Z"⟩
abbrev cX11_put : ByteArray := prog_13_method_67_code
def yX11_put : MethodName := ⟨RX11, "put", "(II)V"⟩
abbrev cX11_enter : ByteArray := prog_13_method_68_code
def yX11_enter : MethodName := ⟨RX11, "enter", "(II)V"⟩
abbrev cX11_leave : ByteArray := prog_13_method_69_code
def yX11_leave : MethodName := ⟨RX11, "leave", "(II)V"⟩
abbrev cX11_throughAct : ByteArray := prog_13_method_70_code
def yX11_throughAct : MethodName := ⟨RX11, "throughAct", "(II)V"⟩
abbrev cX11_throughBoth : ByteArray := prog_13_method_71_code
def yX11_throughBoth : MethodName := ⟨RX11, "throughBoth", "(II)V"⟩
abbrev cX11_throughChoice : ByteArray := prog_13_method_72_code
def yX11_throughChoice : MethodName := ⟨RX11, "throughChoice", "(II)V"⟩
abbrev cX11_part : ByteArray := prog_13_method_73_code
def yX11_part : MethodName := ⟨RX11, "part", "(II)V"⟩
abbrev cX11_last : ByteArray := prog_13_method_74_code
def yX11_last : MethodName := ⟨RX11, "last", "(III)V"⟩
abbrev cX11_throughGuard : ByteArray := prog_13_method_75_code
def yX11_throughGuard : MethodName := ⟨RX11, "throughGuard", "(II)V"⟩
abbrev cX11_through : ByteArray := prog_13_method_76_code
def yX11_through : MethodName := ⟨RX11, "through", "(I)V"⟩
abbrev cX11_report : ByteArray := prog_13_method_77_code
def yX11_report : MethodName := ⟨RX11, "report", "(I)I"⟩
abbrev cX11_has : ByteArray := prog_13_method_78_code
def yX11_has : MethodName := ⟨RX11, "has", "(I)Z"⟩
abbrev cX11_reached : ByteArray := prog_13_method_79_code
def yX11_reached : MethodName := ⟨RX11, "reached", "(I)I"⟩
abbrev cX11_may : ByteArray := prog_13_method_80_code
def yX11_may : MethodName := ⟨RX11, "may", "(I)I"⟩
abbrev cX11_ahead : ByteArray := prog_13_method_81_code
def yX11_ahead : MethodName := ⟨RX11, "ahead", "(II)I"⟩
abbrev cX11_guarded : ByteArray := prog_13_method_82_code
def yX11_guarded : MethodName := ⟨RX11, "guarded", "(II)I"⟩
def RJ10 : String := "java/lang/System"
def TJ10 : u_T := fun k => match k with
  | _ => ("", "", "", false)
def tyJ10 : Nat → FieldType := fun k => match k with
  | _ => .int
abbrev wsJ100 : List Cond := u_ws RJ10 TJ10 0
theorem nmJ10 : ∀ a, a < 0 → ∀ b, b < 0 → a ≠ b → (TJ10 a).2.1 ≠ (TJ10 b).2.1 := by decide +kernel
theorem tyJ10_ok : ∀ k, k < 0 → parseFieldDescriptor (TJ10 k).2.2.1 = some (tyJ10 k) := by decide +kernel
def RJ7 : String := "java/util/Arrays"
def TJ7 : u_T := fun k => match k with
  | _ => ("", "", "", false)
def tyJ7 : Nat → FieldType := fun k => match k with
  | _ => .int
abbrev wsJ70 : List Cond := u_ws RJ7 TJ7 0
theorem nmJ7 : ∀ a, a < 0 → ∀ b, b < 0 → a ≠ b → (TJ7 a).2.1 ≠ (TJ7 b).2.1 := by decide +kernel
theorem tyJ7_ok : ∀ k, k < 0 → parseFieldDescriptor (TJ7 k).2.2.1 = some (tyJ7 k) := by decide +kernel
abbrev cJ7_rangeCheck_23922 : ByteArray := prog_15_method_30_code
def yJ7_rangeCheck_23922 : MethodName := ⟨RJ7, "rangeCheck", "(III)V"⟩
abbrev cJ7_fill_d0a16 : ByteArray := prog_15_method_101_code
def yJ7_fill_d0a16 : MethodName := ⟨RJ7, "fill", "([JJ)V"⟩
abbrev cJ7_fill_bad5a : ByteArray := prog_15_method_102_code
def yJ7_fill_bad5a : MethodName := ⟨RJ7, "fill", "([JIIJ)V"⟩
abbrev cJ7_fill_53178 : ByteArray := prog_15_method_103_code
def yJ7_fill_53178 : MethodName := ⟨RJ7, "fill", "([II)V"⟩
def RL : String := "ThrowReportsLaw"
abbrev cL_law : ByteArray := code
def yL_law : MethodName := ⟨RL, "law", "([I)Z"⟩
abbrev vwCl : List vw_C := [(RX0, TX0, 11), (RX1, TX1, 8), (RX2, TX2, 10), (RX3, TX3, 13), (RX5, TX5, 9), (RX7, TX7, 1), (RX8, TX8, 6), (RX9, TX9, 1), (RX10, TX10, 4), (RX11, TX11, 40)]
end
section
/-- the tables' words that stay true while the law runs -/
def a_wt : List Cond := lw_tbl.filter goodWord
theorem a_wt_mem (i : Nat) {w : Cond} (h : lw_tbl[i]? = some w) (hg : goodWord w = true) : w ∈ a_wt := List.mem_filter.mpr ⟨List.mem_of_getElem? h, hg⟩
theorem a_wt_good : GoodIn lw_tbl a_wt := fun w h => ⟨(List.mem_filter.mp h).1, good_of_word (List.mem_filter.mp h).2⟩
def a_nws : List Cond := [
  (Jvm.Cond.methodLinkNest "ThrowReports" (9 : Nat) ({ cls := "ThrowReports$Machine", name := "<init>", desc := "()V" } : Jvm.MethodName) "ThrowReports"),
  (Jvm.Cond.methodLinkNest "ThrowReports$Machine" (11 : Nat) ({ cls := "ThrowReports$Things", name := "<init>", desc := "()V" } : Jvm.MethodName) "ThrowReports"),
  (Jvm.Cond.fieldLinkNest "ThrowReports" (121 : Nat) "ThrowReports$Things" "made" "I" "ThrowReports"),
  (Jvm.Cond.fieldLinkNest "ThrowReports" (126 : Nat) "ThrowReports$Things" "itemsUsed" "I" "ThrowReports"),
  (Jvm.Cond.methodLinkNest "ThrowReports" (24 : Nat) ({ cls := "ThrowReports$State", name := "<init>", desc := "()V" } : Jvm.MethodName) "ThrowReports"),
  (Jvm.Cond.methodLinkNest "ThrowReports$Node" (9 : Nat) ({ cls := "ThrowReports$State", name := "<init>", desc := "()V" } : Jvm.MethodName) "ThrowReports"),
  (Jvm.Cond.methodLinkNest "ThrowReports$Ways" (17 : Nat) ({ cls := "ThrowReports$State", name := "<init>", desc := "()V" } : Jvm.MethodName) "ThrowReports"),
  (Jvm.Cond.methodLinkNest "ThrowReports$Act" (11 : Nat) ({ cls := "ThrowReports$State", name := "<init>", desc := "()V" } : Jvm.MethodName) "ThrowReports"),
  (Jvm.Cond.methodLinkNest "ThrowReports$Both" (9 : Nat) ({ cls := "ThrowReports$State", name := "<init>", desc := "()V" } : Jvm.MethodName) "ThrowReports"),
  (Jvm.Cond.methodLinkNest "ThrowReports$Choice" (9 : Nat) ({ cls := "ThrowReports$State", name := "<init>", desc := "()V" } : Jvm.MethodName) "ThrowReports"),
  (Jvm.Cond.methodLinkNest "ThrowReports$Guard" (11 : Nat) ({ cls := "ThrowReports$State", name := "<init>", desc := "()V" } : Jvm.MethodName) "ThrowReports"),
  (Jvm.Cond.fieldLinkNest "ThrowReports" (174 : Nat) "ThrowReports$Guard" "lostFailures" "I" "ThrowReports"),
  (Jvm.Cond.declares ({ cls := "ThrowReports$Node", name := "done", desc := "(LThrowReports$Machine;)I" } : Jvm.MethodName)),
  (Jvm.Cond.declares ({ cls := "ThrowReports$Node", name := "findWays", desc := "(LThrowReports$State;)V" } : Jvm.MethodName)),
  (Jvm.Cond.declares ({ cls := "ThrowReports$Node", name := "isReached", desc := "()Z" } : Jvm.MethodName)),
  (Jvm.Cond.castable "ThrowReports$Guard" "ThrowReports$Guard"),
  (Jvm.Cond.castable "ThrowReports$Act" "ThrowReports$Node"),
  (Jvm.Cond.castable "ThrowReports$Both" "ThrowReports$Node"),
  (Jvm.Cond.castable "ThrowReports$Choice" "ThrowReports$Node"),
  (Jvm.Cond.castable "ThrowReports$Guard" "ThrowReports$Node")]
theorem a_nws_in : ∀ w ∈ a_nws, w ∈ lw_tbl := by
  intro w hw
  simp only [a_nws, List.mem_cons, List.not_mem_nil, or_false] at hw
  rcases hw with h | h | h | h | h | h | h | h | h | h | h | h | h | h | h | h | h | h | h | h
  · rw [h]; exact List.mem_of_getElem? (i := 119) (by decide +kernel)
  · rw [h]; exact List.mem_of_getElem? (i := 125) (by decide +kernel)
  · rw [h]; exact List.mem_of_getElem? (i := 134) (by decide +kernel)
  · rw [h]; exact List.mem_of_getElem? (i := 136) (by decide +kernel)
  · rw [h]; exact List.mem_of_getElem? (i := 198) (by decide +kernel)
  · rw [h]; exact List.mem_of_getElem? (i := 249) (by decide +kernel)
  · rw [h]; exact List.mem_of_getElem? (i := 258) (by decide +kernel)
  · rw [h]; exact List.mem_of_getElem? (i := 264) (by decide +kernel)
  · rw [h]; exact List.mem_of_getElem? (i := 338) (by decide +kernel)
  · rw [h]; exact List.mem_of_getElem? (i := 368) (by decide +kernel)
  · rw [h]; exact List.mem_of_getElem? (i := 409) (by decide +kernel)
  · rw [h]; exact List.mem_of_getElem? (i := 420) (by decide +kernel)
  · rw [h]; exact List.mem_of_getElem? (i := 456) (by decide +kernel)
  · rw [h]; exact List.mem_of_getElem? (i := 759) (by decide +kernel)
  · rw [h]; exact List.mem_of_getElem? (i := 942) (by decide +kernel)
  · rw [h]; exact List.mem_of_getElem? (i := 1391) (by decide +kernel)
  · rw [h]; exact List.mem_of_getElem? (i := 1392) (by decide +kernel)
  · rw [h]; exact List.mem_of_getElem? (i := 1393) (by decide +kernel)
  · rw [h]; exact List.mem_of_getElem? (i := 1394) (by decide +kernel)
  · rw [h]; exact List.mem_of_getElem? (i := 1395) (by decide +kernel)
theorem k_0 : (Jvm.Cond.selects "ThrowReports" ({ cls := "ThrowReports", name := "isFull", desc := "(I)Z" } : Jvm.MethodName) ({ cls := "ThrowReports", name := "isFull", desc := "(I)Z" } : Jvm.MethodName)) ∈ a_wt := a_wt_mem 0 (by decide +kernel) (by decide +kernel)
theorem k_1 : (Jvm.Cond.selects "ThrowReports" ({ cls := "ThrowReports", name := "added", desc := "(LThrowReports$Node;)I" } : Jvm.MethodName) ({ cls := "ThrowReports", name := "added", desc := "(LThrowReports$Node;)I" } : Jvm.MethodName)) ∈ a_wt := a_wt_mem 1 (by decide +kernel) (by decide +kernel)
theorem k_2 : (Jvm.Cond.selects "ThrowReports" ({ cls := "ThrowReports", name := "isNode", desc := "(I)Z" } : Jvm.MethodName) ({ cls := "ThrowReports", name := "isNode", desc := "(I)Z" } : Jvm.MethodName)) ∈ a_wt := a_wt_mem 2 (by decide +kernel) (by decide +kernel)
theorem k_3 : (Jvm.Cond.selects "ThrowReports" ({ cls := "ThrowReports", name := "costOf", desc := "(I)I" } : Jvm.MethodName) ({ cls := "ThrowReports", name := "costOf", desc := "(I)I" } : Jvm.MethodName)) ∈ a_wt := a_wt_mem 3 (by decide +kernel) (by decide +kernel)
theorem k_4 : (Jvm.Cond.selects "ThrowReports" ({ cls := "ThrowReports", name := "isNodeOrNone", desc := "(I)Z" } : Jvm.MethodName) ({ cls := "ThrowReports", name := "isNodeOrNone", desc := "(I)Z" } : Jvm.MethodName)) ∈ a_wt := a_wt_mem 4 (by decide +kernel) (by decide +kernel)
theorem k_5 : (Jvm.Cond.selects "ThrowReports" ({ cls := "ThrowReports", name := "nodeOrNull", desc := "(I)LThrowReports$Node;" } : Jvm.MethodName) ({ cls := "ThrowReports", name := "nodeOrNull", desc := "(I)LThrowReports$Node;" } : Jvm.MethodName)) ∈ a_wt := a_wt_mem 5 (by decide +kernel) (by decide +kernel)
theorem k_6 : (Jvm.Cond.selects "ThrowReports$Machine" ({ cls := "ThrowReports$Machine", name := "make", desc := "(III)I" } : Jvm.MethodName) ({ cls := "ThrowReports$Machine", name := "make", desc := "(III)I" } : Jvm.MethodName)) ∈ a_wt := a_wt_mem 6 (by decide +kernel) (by decide +kernel)
theorem k_7 : (Jvm.Cond.selects "ThrowReports$Machine" ({ cls := "ThrowReports$Machine", name := "makeDeep", desc := "(III)I" } : Jvm.MethodName) ({ cls := "ThrowReports$Machine", name := "makeDeep", desc := "(III)I" } : Jvm.MethodName)) ∈ a_wt := a_wt_mem 7 (by decide +kernel) (by decide +kernel)
theorem k_8 : (Jvm.Cond.selects "ThrowReports$Machine" ({ cls := "ThrowReports$Machine", name := "makeFigure", desc := "(III)I" } : Jvm.MethodName) ({ cls := "ThrowReports$Machine", name := "makeFigure", desc := "(III)I" } : Jvm.MethodName)) ∈ a_wt := a_wt_mem 8 (by decide +kernel) (by decide +kernel)
theorem k_9 : (Jvm.Cond.selects "ThrowReports$Machine" ({ cls := "ThrowReports$Machine", name := "move", desc := "(III)I" } : Jvm.MethodName) ({ cls := "ThrowReports$Machine", name := "move", desc := "(III)I" } : Jvm.MethodName)) ∈ a_wt := a_wt_mem 9 (by decide +kernel) (by decide +kernel)
theorem k_10 : (Jvm.Cond.selects "ThrowReports$Machine" ({ cls := "ThrowReports$Machine", name := "unlessAs", desc := "(II)I" } : Jvm.MethodName) ({ cls := "ThrowReports$Machine", name := "unlessAs", desc := "(II)I" } : Jvm.MethodName)) ∈ a_wt := a_wt_mem 10 (by decide +kernel) (by decide +kernel)
theorem k_11 : (Jvm.Cond.selects "ThrowReports$Machine" ({ cls := "ThrowReports$Machine", name := "get", desc := "(IIII)I" } : Jvm.MethodName) ({ cls := "ThrowReports$Machine", name := "get", desc := "(IIII)I" } : Jvm.MethodName)) ∈ a_wt := a_wt_mem 11 (by decide +kernel) (by decide +kernel)
theorem k_12 : (Jvm.Cond.selects "ThrowReports$Machine" ({ cls := "ThrowReports$Machine", name := "unlessItem", desc := "(III)I" } : Jvm.MethodName) ({ cls := "ThrowReports$Machine", name := "unlessItem", desc := "(III)I" } : Jvm.MethodName)) ∈ a_wt := a_wt_mem 12 (by decide +kernel) (by decide +kernel)
theorem k_13 : (Jvm.Cond.selects "ThrowReports$Machine" ({ cls := "ThrowReports$Machine", name := "set", desc := "(IIII)I" } : Jvm.MethodName) ({ cls := "ThrowReports$Machine", name := "set", desc := "(IIII)I" } : Jvm.MethodName)) ∈ a_wt := a_wt_mem 13 (by decide +kernel) (by decide +kernel)
theorem k_14 : (Jvm.Cond.selects "ThrowReports$Machine" ({ cls := "ThrowReports$Machine", name := "take", desc := "(IIII)I" } : Jvm.MethodName) ({ cls := "ThrowReports$Machine", name := "take", desc := "(IIII)I" } : Jvm.MethodName)) ∈ a_wt := a_wt_mem 14 (by decide +kernel) (by decide +kernel)
theorem k_15 : (Jvm.Cond.selects "ThrowReports$Machine" ({ cls := "ThrowReports$Machine", name := "lay", desc := "(IIII)I" } : Jvm.MethodName) ({ cls := "ThrowReports$Machine", name := "lay", desc := "(IIII)I" } : Jvm.MethodName)) ∈ a_wt := a_wt_mem 15 (by decide +kernel) (by decide +kernel)
theorem k_16 : (Jvm.Cond.selects "ThrowReports$Machine" ({ cls := "ThrowReports$Machine", name := "kindIn", desc := "(I)I" } : Jvm.MethodName) ({ cls := "ThrowReports$Machine", name := "kindIn", desc := "(I)I" } : Jvm.MethodName)) ∈ a_wt := a_wt_mem 16 (by decide +kernel) (by decide +kernel)
theorem k_17 : (Jvm.Cond.selects "ThrowReports$Machine" ({ cls := "ThrowReports$Machine", name := "length", desc := "(III)I" } : Jvm.MethodName) ({ cls := "ThrowReports$Machine", name := "length", desc := "(III)I" } : Jvm.MethodName)) ∈ a_wt := a_wt_mem 17 (by decide +kernel) (by decide +kernel)
theorem k_18 : (Jvm.Cond.selects "ThrowReports$Machine" ({ cls := "ThrowReports$Machine", name := "unlessSomething", desc := "(II)I" } : Jvm.MethodName) ({ cls := "ThrowReports$Machine", name := "unlessSomething", desc := "(II)I" } : Jvm.MethodName)) ∈ a_wt := a_wt_mem 18 (by decide +kernel) (by decide +kernel)
theorem k_19 : (Jvm.Cond.selects "ThrowReports$Machine" ({ cls := "ThrowReports$Machine", name := "cloneRow", desc := "(II)I" } : Jvm.MethodName) ({ cls := "ThrowReports$Machine", name := "cloneRow", desc := "(II)I" } : Jvm.MethodName)) ∈ a_wt := a_wt_mem 19 (by decide +kernel) (by decide +kernel)
theorem k_20 : (Jvm.Cond.selects "ThrowReports$Things" ({ cls := "ThrowReports$Things", name := "bringOneByOne", desc := "(IIIII)I" } : Jvm.MethodName) ({ cls := "ThrowReports$Things", name := "bringOneByOne", desc := "(IIIII)I" } : Jvm.MethodName)) ∈ a_wt := a_wt_mem 20 (by decide +kernel) (by decide +kernel)
theorem k_21 : (Jvm.Cond.selects "ThrowReports$Machine" ({ cls := "ThrowReports$Machine", name := "tell", desc := "(II)I" } : Jvm.MethodName) ({ cls := "ThrowReports$Machine", name := "tell", desc := "(II)I" } : Jvm.MethodName)) ∈ a_wt := a_wt_mem 21 (by decide +kernel) (by decide +kernel)
theorem k_22 : (Jvm.Cond.selects "ThrowReports$Machine" ({ cls := "ThrowReports$Machine", name := "copy", desc := "(IIII)I" } : Jvm.MethodName) ({ cls := "ThrowReports$Machine", name := "copy", desc := "(IIII)I" } : Jvm.MethodName)) ∈ a_wt := a_wt_mem 22 (by decide +kernel) (by decide +kernel)
theorem k_23 : (Jvm.Cond.selects "ThrowReports$Machine" ({ cls := "ThrowReports$Machine", name := "divide", desc := "(III)I" } : Jvm.MethodName) ({ cls := "ThrowReports$Machine", name := "divide", desc := "(III)I" } : Jvm.MethodName)) ∈ a_wt := a_wt_mem 23 (by decide +kernel) (by decide +kernel)
theorem k_24 : (Jvm.Cond.selects "ThrowReports$Machine" ({ cls := "ThrowReports$Machine", name := "rest", desc := "(III)I" } : Jvm.MethodName) ({ cls := "ThrowReports$Machine", name := "rest", desc := "(III)I" } : Jvm.MethodName)) ∈ a_wt := a_wt_mem 24 (by decide +kernel) (by decide +kernel)
theorem k_25 : (Jvm.Cond.selects "ThrowReports$Guard" ({ cls := "ThrowReports$Guard", name := "takes", desc := "(I)Z" } : Jvm.MethodName) ({ cls := "ThrowReports$Guard", name := "takes", desc := "(I)Z" } : Jvm.MethodName)) ∈ a_wt := a_wt_mem 25 (by decide +kernel) (by decide +kernel)
theorem k_26 : (Jvm.Cond.selects "ThrowReports$Things" ({ cls := "ThrowReports$Things", name := "rowsMatch", desc := "(II)Z" } : Jvm.MethodName) ({ cls := "ThrowReports$Things", name := "rowsMatch", desc := "(II)Z" } : Jvm.MethodName)) ∈ a_wt := a_wt_mem 26 (by decide +kernel) (by decide +kernel)
theorem k_27 : (Jvm.Cond.selects "ThrowReports$Things" ({ cls := "ThrowReports$Things", name := "numbersMatch", desc := "(II)Z" } : Jvm.MethodName) ({ cls := "ThrowReports$Things", name := "numbersMatch", desc := "(II)Z" } : Jvm.MethodName)) ∈ a_wt := a_wt_mem 27 (by decide +kernel) (by decide +kernel)
theorem k_28 : (Jvm.Cond.selects "ThrowReports$Act" ({ cls := "ThrowReports$Act", name := "askNew", desc := "(ZI)V" } : Jvm.MethodName) ({ cls := "ThrowReports$Act", name := "askNew", desc := "(ZI)V" } : Jvm.MethodName)) ∈ a_wt := a_wt_mem 28 (by decide +kernel) (by decide +kernel)
theorem k_29 : (Jvm.Cond.selects "ThrowReports$Act" ({ cls := "ThrowReports$Act", name := "mustFail", desc := "(I)V" } : Jvm.MethodName) ({ cls := "ThrowReports$Act", name := "mustFail", desc := "(I)V" } : Jvm.MethodName)) ∈ a_wt := a_wt_mem 29 (by decide +kernel) (by decide +kernel)
theorem k_30 : (Jvm.Cond.selects "ThrowReports$Act" ({ cls := "ThrowReports$Act", name := "mayFail", desc := "(I)V" } : Jvm.MethodName) ({ cls := "ThrowReports$Act", name := "mayFail", desc := "(I)V" } : Jvm.MethodName)) ∈ a_wt := a_wt_mem 30 (by decide +kernel) (by decide +kernel)
theorem k_31 : (Jvm.Cond.selects "ThrowReports$Act" ({ cls := "ThrowReports$Act", name := "makeAnew", desc := "(I)V" } : Jvm.MethodName) ({ cls := "ThrowReports$Act", name := "makeAnew", desc := "(I)V" } : Jvm.MethodName)) ∈ a_wt := a_wt_mem 31 (by decide +kernel) (by decide +kernel)
theorem k_32 : (Jvm.Cond.selects "ThrowReports$Act" ({ cls := "ThrowReports$Act", name := "askMove", desc := "()V" } : Jvm.MethodName) ({ cls := "ThrowReports$Act", name := "askMove", desc := "()V" } : Jvm.MethodName)) ∈ a_wt := a_wt_mem 32 (by decide +kernel) (by decide +kernel)
theorem k_33 : (Jvm.Cond.selects "ThrowReports$Act" ({ cls := "ThrowReports$Act", name := "askAs", desc := "(II)V" } : Jvm.MethodName) ({ cls := "ThrowReports$Act", name := "askAs", desc := "(II)V" } : Jvm.MethodName)) ∈ a_wt := a_wt_mem 33 (by decide +kernel) (by decide +kernel)
theorem k_34 : (Jvm.Cond.selects "ThrowReports$Act" ({ cls := "ThrowReports$Act", name := "failFor", desc := "(III)V" } : Jvm.MethodName) ({ cls := "ThrowReports$Act", name := "failFor", desc := "(III)V" } : Jvm.MethodName)) ∈ a_wt := a_wt_mem 34 (by decide +kernel) (by decide +kernel)
theorem k_35 : (Jvm.Cond.selects "ThrowReports$Act" ({ cls := "ThrowReports$Act", name := "askSomething", desc := "(II)V" } : Jvm.MethodName) ({ cls := "ThrowReports$Act", name := "askSomething", desc := "(II)V" } : Jvm.MethodName)) ∈ a_wt := a_wt_mem 35 (by decide +kernel) (by decide +kernel)
theorem k_36 : (Jvm.Cond.selects "ThrowReports$Act" ({ cls := "ThrowReports$Act", name := "askTake", desc := "()V" } : Jvm.MethodName) ({ cls := "ThrowReports$Act", name := "askTake", desc := "()V" } : Jvm.MethodName)) ∈ a_wt := a_wt_mem 36 (by decide +kernel) (by decide +kernel)
theorem k_37 : (Jvm.Cond.selects "ThrowReports$Act" ({ cls := "ThrowReports$Act", name := "askLay", desc := "()V" } : Jvm.MethodName) ({ cls := "ThrowReports$Act", name := "askLay", desc := "()V" } : Jvm.MethodName)) ∈ a_wt := a_wt_mem 37 (by decide +kernel) (by decide +kernel)
theorem k_38 : (Jvm.Cond.selects "ThrowReports$Act" ({ cls := "ThrowReports$Act", name := "keepWhatLays", desc := "()V" } : Jvm.MethodName) ({ cls := "ThrowReports$Act", name := "keepWhatLays", desc := "()V" } : Jvm.MethodName)) ∈ a_wt := a_wt_mem 38 (by decide +kernel) (by decide +kernel)
theorem k_39 : (Jvm.Cond.selects "ThrowReports$Act" ({ cls := "ThrowReports$Act", name := "askCopy", desc := "()V" } : Jvm.MethodName) ({ cls := "ThrowReports$Act", name := "askCopy", desc := "()V" } : Jvm.MethodName)) ∈ a_wt := a_wt_mem 39 (by decide +kernel) (by decide +kernel)
theorem k_40 : (Jvm.Cond.selects "ThrowReports$Choice" ({ cls := "ThrowReports$Choice", name := "choose", desc := "(LThrowReports$Node;LThrowReports$State;I)V" } : Jvm.MethodName) ({ cls := "ThrowReports$Choice", name := "choose", desc := "(LThrowReports$Node;LThrowReports$State;I)V" } : Jvm.MethodName)) ∈ a_wt := a_wt_mem 40 (by decide +kernel) (by decide +kernel)
theorem k_41 : (Jvm.Cond.selects "ThrowReports$Guard" ({ cls := "ThrowReports$Guard", name := "sortBodysWays", desc := "()V" } : Jvm.MethodName) ({ cls := "ThrowReports$Guard", name := "sortBodysWays", desc := "()V" } : Jvm.MethodName)) ∈ a_wt := a_wt_mem 41 (by decide +kernel) (by decide +kernel)
theorem k_42 : (Jvm.Cond.selects "ThrowReports$Guard" ({ cls := "ThrowReports$Guard", name := "goOnThroughLast", desc := "(LThrowReports$Node;)V" } : Jvm.MethodName) ({ cls := "ThrowReports$Guard", name := "goOnThroughLast", desc := "(LThrowReports$Node;)V" } : Jvm.MethodName)) ∈ a_wt := a_wt_mem 42 (by decide +kernel) (by decide +kernel)
theorem k_43 : (Jvm.Cond.selects "ThrowReportsModel" ({ cls := "ThrowReportsModel", name := "node", desc := "(IIIIIII)I" } : Jvm.MethodName) ({ cls := "ThrowReportsModel", name := "node", desc := "(IIIIIII)I" } : Jvm.MethodName)) ∈ a_wt := a_wt_mem 43 (by decide +kernel) (by decide +kernel)
theorem k_44 : (Jvm.Cond.selects "ThrowReportsModel" ({ cls := "ThrowReportsModel", name := "isNode", desc := "(I)Z" } : Jvm.MethodName) ({ cls := "ThrowReportsModel", name := "isNode", desc := "(I)Z" } : Jvm.MethodName)) ∈ a_wt := a_wt_mem 44 (by decide +kernel) (by decide +kernel)
theorem k_45 : (Jvm.Cond.selects "ThrowReportsModel" ({ cls := "ThrowReportsModel", name := "goes", desc := "(I)I" } : Jvm.MethodName) ({ cls := "ThrowReportsModel", name := "goes", desc := "(I)I" } : Jvm.MethodName)) ∈ a_wt := a_wt_mem 45 (by decide +kernel) (by decide +kernel)
theorem k_46 : (Jvm.Cond.selects "ThrowReportsModel" ({ cls := "ThrowReportsModel", name := "push", desc := "(I)V" } : Jvm.MethodName) ({ cls := "ThrowReportsModel", name := "push", desc := "(I)V" } : Jvm.MethodName)) ∈ a_wt := a_wt_mem 46 (by decide +kernel) (by decide +kernel)
theorem k_47 : (Jvm.Cond.selects "ThrowReportsModel" ({ cls := "ThrowReportsModel", name := "ofAct", desc := "(I)I" } : Jvm.MethodName) ({ cls := "ThrowReportsModel", name := "ofAct", desc := "(I)I" } : Jvm.MethodName)) ∈ a_wt := a_wt_mem 47 (by decide +kernel) (by decide +kernel)
theorem k_48 : (Jvm.Cond.selects "ThrowReportsModel" ({ cls := "ThrowReportsModel", name := "done", desc := "(I)I" } : Jvm.MethodName) ({ cls := "ThrowReportsModel", name := "done", desc := "(I)I" } : Jvm.MethodName)) ∈ a_wt := a_wt_mem 48 (by decide +kernel) (by decide +kernel)
theorem k_49 : (Jvm.Cond.selects "ThrowReportsModel" ({ cls := "ThrowReportsModel", name := "make", desc := "(III)I" } : Jvm.MethodName) ({ cls := "ThrowReportsModel", name := "make", desc := "(III)I" } : Jvm.MethodName)) ∈ a_wt := a_wt_mem 49 (by decide +kernel) (by decide +kernel)
theorem k_50 : (Jvm.Cond.selects "ThrowReportsModel" ({ cls := "ThrowReportsModel", name := "fits", desc := "(JJ)Z" } : Jvm.MethodName) ({ cls := "ThrowReportsModel", name := "fits", desc := "(JJ)Z" } : Jvm.MethodName)) ∈ a_wt := a_wt_mem 50 (by decide +kernel) (by decide +kernel)
theorem k_51 : (Jvm.Cond.selects "ThrowReportsModel" ({ cls := "ThrowReportsModel", name := "fresh", desc := "(II)I" } : Jvm.MethodName) ({ cls := "ThrowReportsModel", name := "fresh", desc := "(II)I" } : Jvm.MethodName)) ∈ a_wt := a_wt_mem 51 (by decide +kernel) (by decide +kernel)
theorem k_52 : (Jvm.Cond.selects "ThrowReportsModel" ({ cls := "ThrowReportsModel", name := "deep", desc := "(III)I" } : Jvm.MethodName) ({ cls := "ThrowReportsModel", name := "deep", desc := "(III)I" } : Jvm.MethodName)) ∈ a_wt := a_wt_mem 52 (by decide +kernel) (by decide +kernel)
theorem k_53 : (Jvm.Cond.selects "ThrowReportsModel" ({ cls := "ThrowReportsModel", name := "figure", desc := "(III)I" } : Jvm.MethodName) ({ cls := "ThrowReportsModel", name := "figure", desc := "(III)I" } : Jvm.MethodName)) ∈ a_wt := a_wt_mem 53 (by decide +kernel) (by decide +kernel)
theorem k_54 : (Jvm.Cond.selects "ThrowReportsModel" ({ cls := "ThrowReportsModel", name := "move", desc := "(III)I" } : Jvm.MethodName) ({ cls := "ThrowReportsModel", name := "move", desc := "(III)I" } : Jvm.MethodName)) ∈ a_wt := a_wt_mem 54 (by decide +kernel) (by decide +kernel)
theorem k_55 : (Jvm.Cond.selects "ThrowReportsModel" ({ cls := "ThrowReportsModel", name := "as", desc := "(II)I" } : Jvm.MethodName) ({ cls := "ThrowReportsModel", name := "as", desc := "(II)I" } : Jvm.MethodName)) ∈ a_wt := a_wt_mem 55 (by decide +kernel) (by decide +kernel)
theorem k_56 : (Jvm.Cond.selects "ThrowReportsModel" ({ cls := "ThrowReportsModel", name := "is", desc := "(II)Z" } : Jvm.MethodName) ({ cls := "ThrowReportsModel", name := "is", desc := "(II)Z" } : Jvm.MethodName)) ∈ a_wt := a_wt_mem 56 (by decide +kernel) (by decide +kernel)
theorem k_57 : (Jvm.Cond.selects "ThrowReportsModel" ({ cls := "ThrowReportsModel", name := "get", desc := "(IIII)I" } : Jvm.MethodName) ({ cls := "ThrowReportsModel", name := "get", desc := "(IIII)I" } : Jvm.MethodName)) ∈ a_wt := a_wt_mem 57 (by decide +kernel) (by decide +kernel)
theorem k_58 : (Jvm.Cond.selects "ThrowReportsModel" ({ cls := "ThrowReportsModel", name := "itemOf", desc := "(III)I" } : Jvm.MethodName) ({ cls := "ThrowReportsModel", name := "itemOf", desc := "(III)I" } : Jvm.MethodName)) ∈ a_wt := a_wt_mem 58 (by decide +kernel) (by decide +kernel)
theorem k_59 : (Jvm.Cond.selects "ThrowReportsModel" ({ cls := "ThrowReportsModel", name := "row", desc := "(II)I" } : Jvm.MethodName) ({ cls := "ThrowReportsModel", name := "row", desc := "(II)I" } : Jvm.MethodName)) ∈ a_wt := a_wt_mem 59 (by decide +kernel) (by decide +kernel)
theorem k_60 : (Jvm.Cond.selects "ThrowReportsModel" ({ cls := "ThrowReportsModel", name := "set", desc := "(IIII)I" } : Jvm.MethodName) ({ cls := "ThrowReportsModel", name := "set", desc := "(IIII)I" } : Jvm.MethodName)) ∈ a_wt := a_wt_mem 60 (by decide +kernel) (by decide +kernel)
theorem k_61 : (Jvm.Cond.selects "ThrowReportsModel" ({ cls := "ThrowReportsModel", name := "take", desc := "(IIII)I" } : Jvm.MethodName) ({ cls := "ThrowReportsModel", name := "take", desc := "(IIII)I" } : Jvm.MethodName)) ∈ a_wt := a_wt_mem 61 (by decide +kernel) (by decide +kernel)
theorem k_62 : (Jvm.Cond.selects "ThrowReportsModel" ({ cls := "ThrowReportsModel", name := "lay", desc := "(IIII)I" } : Jvm.MethodName) ({ cls := "ThrowReportsModel", name := "lay", desc := "(IIII)I" } : Jvm.MethodName)) ∈ a_wt := a_wt_mem 62 (by decide +kernel) (by decide +kernel)
theorem k_63 : (Jvm.Cond.selects "ThrowReportsModel" ({ cls := "ThrowReportsModel", name := "measure", desc := "(III)I" } : Jvm.MethodName) ({ cls := "ThrowReportsModel", name := "measure", desc := "(III)I" } : Jvm.MethodName)) ∈ a_wt := a_wt_mem 63 (by decide +kernel) (by decide +kernel)
theorem k_64 : (Jvm.Cond.selects "ThrowReportsModel" ({ cls := "ThrowReportsModel", name := "cloned", desc := "(II)I" } : Jvm.MethodName) ({ cls := "ThrowReportsModel", name := "cloned", desc := "(II)I" } : Jvm.MethodName)) ∈ a_wt := a_wt_mem 64 (by decide +kernel) (by decide +kernel)
theorem k_65 : (Jvm.Cond.selects "ThrowReportsModel" ({ cls := "ThrowReportsModel", name := "tell", desc := "(II)I" } : Jvm.MethodName) ({ cls := "ThrowReportsModel", name := "tell", desc := "(II)I" } : Jvm.MethodName)) ∈ a_wt := a_wt_mem 65 (by decide +kernel) (by decide +kernel)
theorem k_66 : (Jvm.Cond.selects "ThrowReportsModel" ({ cls := "ThrowReportsModel", name := "copy", desc := "(IIIII)I" } : Jvm.MethodName) ({ cls := "ThrowReportsModel", name := "copy", desc := "(IIIII)I" } : Jvm.MethodName)) ∈ a_wt := a_wt_mem 66 (by decide +kernel) (by decide +kernel)
theorem k_67 : (Jvm.Cond.selects "ThrowReportsModel" ({ cls := "ThrowReportsModel", name := "divide", desc := "(IIIZ)I" } : Jvm.MethodName) ({ cls := "ThrowReportsModel", name := "divide", desc := "(IIIZ)I" } : Jvm.MethodName)) ∈ a_wt := a_wt_mem 67 (by decide +kernel) (by decide +kernel)
theorem k_68 : (Jvm.Cond.selects "ThrowReportsModel" ({ cls := "ThrowReportsModel", name := "ofGuard", desc := "(II)I" } : Jvm.MethodName) ({ cls := "ThrowReportsModel", name := "ofGuard", desc := "(II)I" } : Jvm.MethodName)) ∈ a_wt := a_wt_mem 68 (by decide +kernel) (by decide +kernel)
theorem k_69 : (Jvm.Cond.selects "ThrowReportsModel" ({ cls := "ThrowReportsModel", name := "step", desc := "(II)V" } : Jvm.MethodName) ({ cls := "ThrowReportsModel", name := "step", desc := "(II)V" } : Jvm.MethodName)) ∈ a_wt := a_wt_mem 69 (by decide +kernel) (by decide +kernel)
theorem k_70 : (Jvm.Cond.selects "ThrowReportsModel" ({ cls := "ThrowReportsModel", name := "ofOther", desc := "(II)I" } : Jvm.MethodName) ({ cls := "ThrowReportsModel", name := "ofOther", desc := "(II)I" } : Jvm.MethodName)) ∈ a_wt := a_wt_mem 70 (by decide +kernel) (by decide +kernel)
theorem k_71 : (Jvm.Cond.selects "ThrowReportsModel" ({ cls := "ThrowReportsModel", name := "twins", desc := "(II)Z" } : Jvm.MethodName) ({ cls := "ThrowReportsModel", name := "twins", desc := "(II)Z" } : Jvm.MethodName)) ∈ a_wt := a_wt_mem 71 (by decide +kernel) (by decide +kernel)
theorem k_72 : (Jvm.Cond.selects "ThrowReportsModel" ({ cls := "ThrowReportsModel", name := "plainTwins", desc := "(II)Z" } : Jvm.MethodName) ({ cls := "ThrowReportsModel", name := "plainTwins", desc := "(II)Z" } : Jvm.MethodName)) ∈ a_wt := a_wt_mem 72 (by decide +kernel) (by decide +kernel)
theorem k_73 : (Jvm.Cond.selects "ThrowReportsModel" ({ cls := "ThrowReportsModel", name := "startOf", desc := "(I)I" } : Jvm.MethodName) ({ cls := "ThrowReportsModel", name := "startOf", desc := "(I)I" } : Jvm.MethodName)) ∈ a_wt := a_wt_mem 73 (by decide +kernel) (by decide +kernel)
theorem k_74 : (Jvm.Cond.selects "ThrowReportsModel" ({ cls := "ThrowReportsModel", name := "through", desc := "(I)V" } : Jvm.MethodName) ({ cls := "ThrowReportsModel", name := "through", desc := "(I)V" } : Jvm.MethodName)) ∈ a_wt := a_wt_mem 74 (by decide +kernel) (by decide +kernel)
theorem k_75 : (Jvm.Cond.selects "ThrowReportsModel" ({ cls := "ThrowReportsModel", name := "throughAct", desc := "(II)V" } : Jvm.MethodName) ({ cls := "ThrowReportsModel", name := "throughAct", desc := "(II)V" } : Jvm.MethodName)) ∈ a_wt := a_wt_mem 75 (by decide +kernel) (by decide +kernel)
theorem k_76 : (Jvm.Cond.selects "ThrowReportsModel" ({ cls := "ThrowReportsModel", name := "enter", desc := "(II)V" } : Jvm.MethodName) ({ cls := "ThrowReportsModel", name := "enter", desc := "(II)V" } : Jvm.MethodName)) ∈ a_wt := a_wt_mem 76 (by decide +kernel) (by decide +kernel)
theorem k_77 : (Jvm.Cond.selects "ThrowReportsModel" ({ cls := "ThrowReportsModel", name := "mayAct", desc := "(II)Z" } : Jvm.MethodName) ({ cls := "ThrowReportsModel", name := "mayAct", desc := "(II)Z" } : Jvm.MethodName)) ∈ a_wt := a_wt_mem 77 (by decide +kernel) (by decide +kernel)
theorem k_78 : (Jvm.Cond.selects "ThrowReportsModel" ({ cls := "ThrowReportsModel", name := "mayNew", desc := "(IZII)Z" } : Jvm.MethodName) ({ cls := "ThrowReportsModel", name := "mayNew", desc := "(IZII)Z" } : Jvm.MethodName)) ∈ a_wt := a_wt_mem 78 (by decide +kernel) (by decide +kernel)
theorem k_79 : (Jvm.Cond.selects "ThrowReportsModel" ({ cls := "ThrowReportsModel", name := "mayFail", desc := "(IIII)V" } : Jvm.MethodName) ({ cls := "ThrowReportsModel", name := "mayFail", desc := "(IIII)V" } : Jvm.MethodName)) ∈ a_wt := a_wt_mem 79 (by decide +kernel) (by decide +kernel)
theorem k_80 : (Jvm.Cond.selects "ThrowReportsModel" ({ cls := "ThrowReportsModel", name := "mayAs", desc := "(III)Z" } : Jvm.MethodName) ({ cls := "ThrowReportsModel", name := "mayAs", desc := "(III)Z" } : Jvm.MethodName)) ∈ a_wt := a_wt_mem 80 (by decide +kernel) (by decide +kernel)
theorem k_81 : (Jvm.Cond.selects "ThrowReportsModel" ({ cls := "ThrowReportsModel", name := "mayItem", desc := "(III)Z" } : Jvm.MethodName) ({ cls := "ThrowReportsModel", name := "mayItem", desc := "(III)Z" } : Jvm.MethodName)) ∈ a_wt := a_wt_mem 81 (by decide +kernel) (by decide +kernel)
theorem k_82 : (Jvm.Cond.selects "ThrowReportsModel" ({ cls := "ThrowReportsModel", name := "mayRow", desc := "(II)Z" } : Jvm.MethodName) ({ cls := "ThrowReportsModel", name := "mayRow", desc := "(II)Z" } : Jvm.MethodName)) ∈ a_wt := a_wt_mem 82 (by decide +kernel) (by decide +kernel)
theorem k_83 : (Jvm.Cond.selects "ThrowReportsModel" ({ cls := "ThrowReportsModel", name := "mayTake", desc := "(IIII)Z" } : Jvm.MethodName) ({ cls := "ThrowReportsModel", name := "mayTake", desc := "(IIII)Z" } : Jvm.MethodName)) ∈ a_wt := a_wt_mem 83 (by decide +kernel) (by decide +kernel)
theorem k_84 : (Jvm.Cond.selects "ThrowReportsModel" ({ cls := "ThrowReportsModel", name := "mayLay", desc := "(IIII)Z" } : Jvm.MethodName) ({ cls := "ThrowReportsModel", name := "mayLay", desc := "(IIII)Z" } : Jvm.MethodName)) ∈ a_wt := a_wt_mem 84 (by decide +kernel) (by decide +kernel)
theorem k_85 : (Jvm.Cond.selects "ThrowReportsModel" ({ cls := "ThrowReportsModel", name := "mayCopy", desc := "(III)Z" } : Jvm.MethodName) ({ cls := "ThrowReportsModel", name := "mayCopy", desc := "(III)Z" } : Jvm.MethodName)) ∈ a_wt := a_wt_mem 85 (by decide +kernel) (by decide +kernel)
theorem k_86 : (Jvm.Cond.selects "ThrowReportsModel" ({ cls := "ThrowReportsModel", name := "leave", desc := "(II)V" } : Jvm.MethodName) ({ cls := "ThrowReportsModel", name := "leave", desc := "(II)V" } : Jvm.MethodName)) ∈ a_wt := a_wt_mem 86 (by decide +kernel) (by decide +kernel)
theorem k_87 : (Jvm.Cond.selects "ThrowReportsModel" ({ cls := "ThrowReportsModel", name := "throughBoth", desc := "(II)V" } : Jvm.MethodName) ({ cls := "ThrowReportsModel", name := "throughBoth", desc := "(II)V" } : Jvm.MethodName)) ∈ a_wt := a_wt_mem 87 (by decide +kernel) (by decide +kernel)
theorem k_88 : (Jvm.Cond.selects "ThrowReportsModel" ({ cls := "ThrowReportsModel", name := "put", desc := "(II)V" } : Jvm.MethodName) ({ cls := "ThrowReportsModel", name := "put", desc := "(II)V" } : Jvm.MethodName)) ∈ a_wt := a_wt_mem 88 (by decide +kernel) (by decide +kernel)
theorem k_89 : (Jvm.Cond.selects "ThrowReportsModel" ({ cls := "ThrowReportsModel", name := "throughChoice", desc := "(II)V" } : Jvm.MethodName) ({ cls := "ThrowReportsModel", name := "throughChoice", desc := "(II)V" } : Jvm.MethodName)) ∈ a_wt := a_wt_mem 89 (by decide +kernel) (by decide +kernel)
theorem k_90 : (Jvm.Cond.selects "ThrowReportsModel" ({ cls := "ThrowReportsModel", name := "throughGuard", desc := "(II)V" } : Jvm.MethodName) ({ cls := "ThrowReportsModel", name := "throughGuard", desc := "(II)V" } : Jvm.MethodName)) ∈ a_wt := a_wt_mem 90 (by decide +kernel) (by decide +kernel)
theorem k_91 : (Jvm.Cond.selects "ThrowReportsModel" ({ cls := "ThrowReportsModel", name := "part", desc := "(II)V" } : Jvm.MethodName) ({ cls := "ThrowReportsModel", name := "part", desc := "(II)V" } : Jvm.MethodName)) ∈ a_wt := a_wt_mem 91 (by decide +kernel) (by decide +kernel)
theorem k_92 : (Jvm.Cond.selects "ThrowReportsModel" ({ cls := "ThrowReportsModel", name := "last", desc := "(III)V" } : Jvm.MethodName) ({ cls := "ThrowReportsModel", name := "last", desc := "(III)V" } : Jvm.MethodName)) ∈ a_wt := a_wt_mem 92 (by decide +kernel) (by decide +kernel)
theorem k_93 : (Jvm.Cond.selects "ThrowReportsModel" ({ cls := "ThrowReportsModel", name := "has", desc := "(I)Z" } : Jvm.MethodName) ({ cls := "ThrowReportsModel", name := "has", desc := "(I)Z" } : Jvm.MethodName)) ∈ a_wt := a_wt_mem 93 (by decide +kernel) (by decide +kernel)
theorem k_94 : (Jvm.Cond.initialized "ThrowReportsLaw") ∈ a_wt := a_wt_mem 94 (by decide +kernel) (by decide +kernel)
theorem k_95 : (Jvm.Cond.initialized "ThrowReports") ∈ a_wt := a_wt_mem 95 (by decide +kernel) (by decide +kernel)
theorem k_96 : (Jvm.Cond.initialized "ThrowReports$Machine") ∈ a_wt := a_wt_mem 96 (by decide +kernel) (by decide +kernel)
theorem k_97 : (Jvm.Cond.initialized "ThrowReports$Things") ∈ a_wt := a_wt_mem 97 (by decide +kernel) (by decide +kernel)
theorem k_98 : (Jvm.Cond.initialized "ThrowReports$State") ∈ a_wt := a_wt_mem 98 (by decide +kernel) (by decide +kernel)
theorem k_99 : (Jvm.Cond.initialized "ThrowReportsModel") ∈ a_wt := a_wt_mem 99 (by decide +kernel) (by decide +kernel)
theorem k_100 : (Jvm.Cond.initialized "ThrowReports$Node") ∈ a_wt := a_wt_mem 100 (by decide +kernel) (by decide +kernel)
theorem k_101 : (Jvm.Cond.initialized "ThrowReports$Act") ∈ a_wt := a_wt_mem 101 (by decide +kernel) (by decide +kernel)
theorem k_102 : (Jvm.Cond.initialized "ThrowReports$Ways") ∈ a_wt := a_wt_mem 102 (by decide +kernel) (by decide +kernel)
theorem k_103 : (Jvm.Cond.initialized "ThrowReports$Both") ∈ a_wt := a_wt_mem 103 (by decide +kernel) (by decide +kernel)
theorem k_104 : (Jvm.Cond.initialized "ThrowReports$Choice") ∈ a_wt := a_wt_mem 104 (by decide +kernel) (by decide +kernel)
theorem k_105 : (Jvm.Cond.initialized "ThrowReports$Guard") ∈ a_wt := a_wt_mem 105 (by decide +kernel) (by decide +kernel)
theorem k_106 : (Jvm.Cond.initialized "java/util/Arrays") ∈ a_wt := a_wt_mem 106 (by decide +kernel) (by decide +kernel)
theorem k_107 : (Jvm.Cond.initialized "ThrowReports$Kinds") ∈ a_wt := a_wt_mem 107 (by decide +kernel) (by decide +kernel)
theorem k_108 : (Jvm.Cond.initialized "java/lang/System") ∈ a_wt := a_wt_mem 108 (by decide +kernel) (by decide +kernel)
theorem k_109 : (Jvm.Cond.classLink "ThrowReportsLaw" (7 : Nat) "ThrowReports") ∈ a_wt := a_wt_mem 109 (by decide +kernel) (by decide +kernel)
theorem k_110 : (Jvm.Cond.instantiable "ThrowReports" (4 : Nat)) ∈ a_wt := a_wt_mem 110 (by decide +kernel) (by decide +kernel)
theorem k_111 : (Jvm.Cond.methodLink "ThrowReportsLaw" (9 : Nat) ({ cls := "ThrowReports", name := "<init>", desc := "()V" } : Jvm.MethodName)) ∈ a_wt := a_wt_mem 111 (by decide +kernel) (by decide +kernel)
theorem k_112 : (Jvm.Cond.instanceMethod ({ cls := "ThrowReports", name := "<init>", desc := "()V" } : Jvm.MethodName)) ∈ a_wt := a_wt_mem 112 (by decide +kernel) (by decide +kernel)
theorem k_113 : (Jvm.Cond.code ({ cls := "ThrowReports", name := "<init>", desc := "()V" } : Jvm.MethodName) prog_1_method_1_code (2 : Nat) (Option.none : Option Jvm.ClassFile.FieldType)) ∈ a_wt := a_wt_mem 113 (by decide +kernel) (by decide +kernel)
theorem k_114 : (Jvm.Cond.methodLink "ThrowReports" (1 : Nat) ({ cls := "java/lang/Object", name := "<init>", desc := "()V" } : Jvm.MethodName)) ∈ a_wt := a_wt_mem 114 (by decide +kernel) (by decide +kernel)
theorem k_115 : (Jvm.Cond.instanceMethod ({ cls := "java/lang/Object", name := "<init>", desc := "()V" } : Jvm.MethodName)) ∈ a_wt := a_wt_mem 115 (by decide +kernel) (by decide +kernel)
theorem k_116 : (Jvm.Cond.code ({ cls := "java/lang/Object", name := "<init>", desc := "()V" } : Jvm.MethodName) object_method_1_code (1 : Nat) (Option.none : Option Jvm.ClassFile.FieldType)) ∈ a_wt := a_wt_mem 116 (by decide +kernel) (by decide +kernel)
theorem k_117 : (Jvm.Cond.classLink "ThrowReports" (7 : Nat) "ThrowReports$Machine") ∈ a_wt := a_wt_mem 117 (by decide +kernel) (by decide +kernel)
theorem k_118 : (Jvm.Cond.instantiable "ThrowReports$Machine" (9 : Nat)) ∈ a_wt := a_wt_mem 118 (by decide +kernel) (by decide +kernel)
theorem k_120 : (Jvm.Cond.instanceMethod ({ cls := "ThrowReports$Machine", name := "<init>", desc := "()V" } : Jvm.MethodName)) ∈ a_wt := a_wt_mem 120 (by decide +kernel) (by decide +kernel)
theorem k_121 : (Jvm.Cond.code ({ cls := "ThrowReports$Machine", name := "<init>", desc := "()V" } : Jvm.MethodName) prog_7_method_1_code (1 : Nat) (Option.none : Option Jvm.ClassFile.FieldType)) ∈ a_wt := a_wt_mem 121 (by decide +kernel) (by decide +kernel)
theorem k_122 : (Jvm.Cond.methodLink "ThrowReports$Machine" (3 : Nat) ({ cls := "java/lang/Object", name := "<init>", desc := "()V" } : Jvm.MethodName)) ∈ a_wt := a_wt_mem 122 (by decide +kernel) (by decide +kernel)
theorem k_123 : (Jvm.Cond.classLink "ThrowReports$Machine" (9 : Nat) "ThrowReports$Things") ∈ a_wt := a_wt_mem 123 (by decide +kernel) (by decide +kernel)
theorem k_124 : (Jvm.Cond.instantiable "ThrowReports$Things" (6 : Nat)) ∈ a_wt := a_wt_mem 124 (by decide +kernel) (by decide +kernel)
theorem k_126 : (Jvm.Cond.instanceMethod ({ cls := "ThrowReports$Things", name := "<init>", desc := "()V" } : Jvm.MethodName)) ∈ a_wt := a_wt_mem 126 (by decide +kernel) (by decide +kernel)
theorem k_127 : (Jvm.Cond.code ({ cls := "ThrowReports$Things", name := "<init>", desc := "()V" } : Jvm.MethodName) prog_10_method_1_code (1 : Nat) (Option.none : Option Jvm.ClassFile.FieldType)) ∈ a_wt := a_wt_mem 127 (by decide +kernel) (by decide +kernel)
theorem k_128 : (Jvm.Cond.methodLink "ThrowReports$Things" (3 : Nat) ({ cls := "java/lang/Object", name := "<init>", desc := "()V" } : Jvm.MethodName)) ∈ a_wt := a_wt_mem 128 (by decide +kernel) (by decide +kernel)
theorem k_129 : (Jvm.Cond.fieldLink "ThrowReports$Things" (9 : Nat) "ThrowReports$Things" "kinds" "[I") ∈ a_wt := a_wt_mem 129 (by decide +kernel) (by decide +kernel)
theorem k_130 : (Jvm.Cond.fieldLink "ThrowReports$Things" (15 : Nat) "ThrowReports$Things" "starts" "[I") ∈ a_wt := a_wt_mem 130 (by decide +kernel) (by decide +kernel)
theorem k_131 : (Jvm.Cond.fieldLink "ThrowReports$Things" (18 : Nat) "ThrowReports$Things" "sizes" "[I") ∈ a_wt := a_wt_mem 131 (by decide +kernel) (by decide +kernel)
theorem k_132 : (Jvm.Cond.fieldLink "ThrowReports$Things" (21 : Nat) "ThrowReports$Things" "items" "[J") ∈ a_wt := a_wt_mem 132 (by decide +kernel) (by decide +kernel)
theorem k_133 : (Jvm.Cond.fieldLink "ThrowReports$Things" (25 : Nat) "ThrowReports$Things" "made" "I") ∈ a_wt := a_wt_mem 133 (by decide +kernel) (by decide +kernel)
theorem k_135 : (Jvm.Cond.fieldLink "ThrowReports$Things" (31 : Nat) "ThrowReports$Things" "itemsUsed" "I") ∈ a_wt := a_wt_mem 135 (by decide +kernel) (by decide +kernel)
theorem k_137 : (Jvm.Cond.laysFinal "ThrowReports$Things" "ThrowReports$Things" "kinds" "[I") ∈ a_wt := a_wt_mem 137 (by decide +kernel) (by decide +kernel)
theorem k_139 : (Jvm.Cond.laysFinal "ThrowReports$Things" "ThrowReports$Things" "starts" "[I") ∈ a_wt := a_wt_mem 139 (by decide +kernel) (by decide +kernel)
theorem k_141 : (Jvm.Cond.laysFinal "ThrowReports$Things" "ThrowReports$Things" "sizes" "[I") ∈ a_wt := a_wt_mem 141 (by decide +kernel) (by decide +kernel)
theorem k_143 : (Jvm.Cond.laysFinal "ThrowReports$Things" "ThrowReports$Things" "items" "[J") ∈ a_wt := a_wt_mem 143 (by decide +kernel) (by decide +kernel)
theorem k_145 : (Jvm.Cond.lays "ThrowReports$Things" "ThrowReports$Things" "made" "I") ∈ a_wt := a_wt_mem 145 (by decide +kernel) (by decide +kernel)
theorem k_147 : (Jvm.Cond.lays "ThrowReports$Things" "ThrowReports$Things" "itemsUsed" "I") ∈ a_wt := a_wt_mem 147 (by decide +kernel) (by decide +kernel)
theorem k_149 : (Jvm.Cond.superclass "ThrowReports$Things" "java/lang/Object") ∈ a_wt := a_wt_mem 149 (by decide +kernel) (by decide +kernel)
theorem k_150 : (Jvm.Cond.arrayClass Jvm.ClassFile.FieldType.int) ∈ a_wt := a_wt_mem 150 (by decide +kernel) (by decide +kernel)
theorem k_151 : (Jvm.Cond.arrayClass Jvm.ClassFile.FieldType.long) ∈ a_wt := a_wt_mem 151 (by decide +kernel) (by decide +kernel)
theorem k_152 : (Jvm.Cond.fieldLink "ThrowReports$Machine" (12 : Nat) "ThrowReports$Machine" "things" "LThrowReports$Things;") ∈ a_wt := a_wt_mem 152 (by decide +kernel) (by decide +kernel)
theorem k_153 : (Jvm.Cond.fieldLink "ThrowReports" (117 : Nat) "ThrowReports$Machine" "things" "LThrowReports$Things;") ∈ a_wt := a_wt_mem 153 (by decide +kernel) (by decide +kernel)
theorem k_154 : (Jvm.Cond.fieldLink "ThrowReports$Machine" (18 : Nat) "ThrowReports$Machine" "slots" "[I") ∈ a_wt := a_wt_mem 154 (by decide +kernel) (by decide +kernel)
theorem k_155 : (Jvm.Cond.fieldLink "ThrowReports" (129 : Nat) "ThrowReports$Machine" "slots" "[I") ∈ a_wt := a_wt_mem 155 (by decide +kernel) (by decide +kernel)
theorem k_156 : (Jvm.Cond.fieldLink "ThrowReports$Machine" (22 : Nat) "ThrowReports$Machine" "registers" "[J") ∈ a_wt := a_wt_mem 156 (by decide +kernel) (by decide +kernel)
theorem k_157 : (Jvm.Cond.fieldLink "ThrowReports" (143 : Nat) "ThrowReports$Machine" "registers" "[J") ∈ a_wt := a_wt_mem 157 (by decide +kernel) (by decide +kernel)
theorem k_158 : (Jvm.Cond.fieldLink "ThrowReports$Machine" (30 : Nat) "ThrowReports$Machine" "begun" "I") ∈ a_wt := a_wt_mem 158 (by decide +kernel) (by decide +kernel)
theorem k_159 : (Jvm.Cond.fieldLink "ThrowReports$Act" (44 : Nat) "ThrowReports$Machine" "begun" "I") ∈ a_wt := a_wt_mem 159 (by decide +kernel) (by decide +kernel)
theorem k_160 : (Jvm.Cond.fieldLink "ThrowReports" (95 : Nat) "ThrowReports$Machine" "begun" "I") ∈ a_wt := a_wt_mem 160 (by decide +kernel) (by decide +kernel)
theorem k_161 : (Jvm.Cond.fieldLink "ThrowReports$Machine" (33 : Nat) "ThrowReports$Machine" "failed" "I") ∈ a_wt := a_wt_mem 161 (by decide +kernel) (by decide +kernel)
theorem k_162 : (Jvm.Cond.fieldLink "ThrowReports$Act" (53 : Nat) "ThrowReports$Machine" "failed" "I") ∈ a_wt := a_wt_mem 162 (by decide +kernel) (by decide +kernel)
theorem k_163 : (Jvm.Cond.fieldLink "ThrowReports" (98 : Nat) "ThrowReports$Machine" "failed" "I") ∈ a_wt := a_wt_mem 163 (by decide +kernel) (by decide +kernel)
theorem k_164 : (Jvm.Cond.fieldLink "ThrowReports$Machine" (36 : Nat) "ThrowReports$Machine" "came" "I") ∈ a_wt := a_wt_mem 164 (by decide +kernel) (by decide +kernel)
theorem k_165 : (Jvm.Cond.fieldLink "ThrowReports" (101 : Nat) "ThrowReports$Machine" "came" "I") ∈ a_wt := a_wt_mem 165 (by decide +kernel) (by decide +kernel)
theorem k_166 : (Jvm.Cond.fieldLink "ThrowReports$Machine" (39 : Nat) "ThrowReports$Machine" "lastParts" "I") ∈ a_wt := a_wt_mem 166 (by decide +kernel) (by decide +kernel)
theorem k_167 : (Jvm.Cond.fieldLink "ThrowReports$Guard" (49 : Nat) "ThrowReports$Machine" "lastParts" "I") ∈ a_wt := a_wt_mem 167 (by decide +kernel) (by decide +kernel)
theorem k_168 : (Jvm.Cond.fieldLink "ThrowReports" (104 : Nat) "ThrowReports$Machine" "lastParts" "I") ∈ a_wt := a_wt_mem 168 (by decide +kernel) (by decide +kernel)
theorem k_169 : (Jvm.Cond.fieldLink "ThrowReports$Machine" (42 : Nat) "ThrowReports$Machine" "lost" "I") ∈ a_wt := a_wt_mem 169 (by decide +kernel) (by decide +kernel)
theorem k_170 : (Jvm.Cond.fieldLink "ThrowReports$Guard" (54 : Nat) "ThrowReports$Machine" "lost" "I") ∈ a_wt := a_wt_mem 170 (by decide +kernel) (by decide +kernel)
theorem k_171 : (Jvm.Cond.fieldLink "ThrowReports" (107 : Nat) "ThrowReports$Machine" "lost" "I") ∈ a_wt := a_wt_mem 171 (by decide +kernel) (by decide +kernel)
theorem k_172 : (Jvm.Cond.fieldLink "ThrowReports$Machine" (26 : Nat) "ThrowReports$Machine" "latestFailed" "I") ∈ a_wt := a_wt_mem 172 (by decide +kernel) (by decide +kernel)
theorem k_173 : (Jvm.Cond.fieldLink "ThrowReports$Act" (59 : Nat) "ThrowReports$Machine" "latestFailed" "I") ∈ a_wt := a_wt_mem 173 (by decide +kernel) (by decide +kernel)
theorem k_174 : (Jvm.Cond.fieldLink "ThrowReports" (110 : Nat) "ThrowReports$Machine" "latestFailed" "I") ∈ a_wt := a_wt_mem 174 (by decide +kernel) (by decide +kernel)
theorem k_175 : (Jvm.Cond.laysFinal "ThrowReports$Machine" "ThrowReports$Machine" "things" "LThrowReports$Things;") ∈ a_wt := a_wt_mem 175 (by decide +kernel) (by decide +kernel)
theorem k_177 : (Jvm.Cond.laysFinal "ThrowReports$Machine" "ThrowReports$Machine" "slots" "[I") ∈ a_wt := a_wt_mem 177 (by decide +kernel) (by decide +kernel)
theorem k_179 : (Jvm.Cond.laysFinal "ThrowReports$Machine" "ThrowReports$Machine" "registers" "[J") ∈ a_wt := a_wt_mem 179 (by decide +kernel) (by decide +kernel)
theorem k_181 : (Jvm.Cond.lays "ThrowReports$Machine" "ThrowReports$Machine" "begun" "I") ∈ a_wt := a_wt_mem 181 (by decide +kernel) (by decide +kernel)
theorem k_183 : (Jvm.Cond.lays "ThrowReports$Machine" "ThrowReports$Machine" "failed" "I") ∈ a_wt := a_wt_mem 183 (by decide +kernel) (by decide +kernel)
theorem k_185 : (Jvm.Cond.lays "ThrowReports$Machine" "ThrowReports$Machine" "came" "I") ∈ a_wt := a_wt_mem 185 (by decide +kernel) (by decide +kernel)
theorem k_187 : (Jvm.Cond.lays "ThrowReports$Machine" "ThrowReports$Machine" "lastParts" "I") ∈ a_wt := a_wt_mem 187 (by decide +kernel) (by decide +kernel)
theorem k_189 : (Jvm.Cond.lays "ThrowReports$Machine" "ThrowReports$Machine" "lost" "I") ∈ a_wt := a_wt_mem 189 (by decide +kernel) (by decide +kernel)
theorem k_191 : (Jvm.Cond.lays "ThrowReports$Machine" "ThrowReports$Machine" "latestFailed" "I") ∈ a_wt := a_wt_mem 191 (by decide +kernel) (by decide +kernel)
theorem k_193 : (Jvm.Cond.superclass "ThrowReports$Machine" "java/lang/Object") ∈ a_wt := a_wt_mem 193 (by decide +kernel) (by decide +kernel)
theorem k_194 : (Jvm.Cond.classLink "ThrowReports" (16 : Nat) "ThrowReports$Node") ∈ a_wt := a_wt_mem 194 (by decide +kernel) (by decide +kernel)
theorem k_196 : (Jvm.Cond.classLink "ThrowReports" (22 : Nat) "ThrowReports$State") ∈ a_wt := a_wt_mem 196 (by decide +kernel) (by decide +kernel)
theorem k_197 : (Jvm.Cond.instantiable "ThrowReports$State" (1 : Nat)) ∈ a_wt := a_wt_mem 197 (by decide +kernel) (by decide +kernel)
theorem k_199 : (Jvm.Cond.instanceMethod ({ cls := "ThrowReports$State", name := "<init>", desc := "()V" } : Jvm.MethodName)) ∈ a_wt := a_wt_mem 199 (by decide +kernel) (by decide +kernel)
theorem k_200 : (Jvm.Cond.code ({ cls := "ThrowReports$State", name := "<init>", desc := "()V" } : Jvm.MethodName) prog_9_method_1_code (1 : Nat) (Option.none : Option Jvm.ClassFile.FieldType)) ∈ a_wt := a_wt_mem 200 (by decide +kernel) (by decide +kernel)
theorem k_201 : (Jvm.Cond.methodLink "ThrowReports$State" (3 : Nat) ({ cls := "java/lang/Object", name := "<init>", desc := "()V" } : Jvm.MethodName)) ∈ a_wt := a_wt_mem 201 (by decide +kernel) (by decide +kernel)
theorem k_202 : (Jvm.Cond.fieldLink "ThrowReports$State" (9 : Nat) "ThrowReports$State" "sets" "[I") ∈ a_wt := a_wt_mem 202 (by decide +kernel) (by decide +kernel)
theorem k_203 : (Jvm.Cond.laysFinal "ThrowReports$State" "ThrowReports$State" "sets" "[I") ∈ a_wt := a_wt_mem 203 (by decide +kernel) (by decide +kernel)
theorem k_205 : (Jvm.Cond.superclass "ThrowReports$State" "java/lang/Object") ∈ a_wt := a_wt_mem 205 (by decide +kernel) (by decide +kernel)
theorem k_206 : (Jvm.Cond.methodLink "ThrowReports" (31 : Nat) ({ cls := "ThrowReports$State", name := "put", desc := "(II)V" } : Jvm.MethodName)) ∈ a_wt := a_wt_mem 206 (by decide +kernel) (by decide +kernel)
theorem k_207 : (Jvm.Cond.instanceMethod ({ cls := "ThrowReports$State", name := "put", desc := "(II)V" } : Jvm.MethodName)) ∈ a_wt := a_wt_mem 207 (by decide +kernel) (by decide +kernel)
theorem k_208 : (Jvm.Cond.selects "ThrowReports$State" ({ cls := "ThrowReports$State", name := "put", desc := "(II)V" } : Jvm.MethodName) ({ cls := "ThrowReports$State", name := "put", desc := "(II)V" } : Jvm.MethodName)) ∈ a_wt := a_wt_mem 208 (by decide +kernel) (by decide +kernel)
theorem k_209 : (Jvm.Cond.code ({ cls := "ThrowReports$State", name := "put", desc := "(II)V" } : Jvm.MethodName) prog_9_method_5_code (3 : Nat) (Option.none : Option Jvm.ClassFile.FieldType)) ∈ a_wt := a_wt_mem 209 (by decide +kernel) (by decide +kernel)
theorem k_210 : (Jvm.Cond.fieldLink "ThrowReports" (10 : Nat) "ThrowReports" "machine" "LThrowReports$Machine;") ∈ a_wt := a_wt_mem 210 (by decide +kernel) (by decide +kernel)
theorem k_211 : (Jvm.Cond.fieldLink "ThrowReports" (18 : Nat) "ThrowReports" "nodes" "[LThrowReports$Node;") ∈ a_wt := a_wt_mem 211 (by decide +kernel) (by decide +kernel)
theorem k_212 : (Jvm.Cond.fieldLink "ThrowReports" (25 : Nat) "ThrowReports" "start" "LThrowReports$State;") ∈ a_wt := a_wt_mem 212 (by decide +kernel) (by decide +kernel)
theorem k_213 : (Jvm.Cond.fieldLink "ThrowReports" (45 : Nat) "ThrowReports" "nodesMade" "I") ∈ a_wt := a_wt_mem 213 (by decide +kernel) (by decide +kernel)
theorem k_214 : (Jvm.Cond.laysFinal "ThrowReports" "ThrowReports" "machine" "LThrowReports$Machine;") ∈ a_wt := a_wt_mem 214 (by decide +kernel) (by decide +kernel)
theorem k_216 : (Jvm.Cond.laysFinal "ThrowReports" "ThrowReports" "nodes" "[LThrowReports$Node;") ∈ a_wt := a_wt_mem 216 (by decide +kernel) (by decide +kernel)
theorem k_218 : (Jvm.Cond.laysFinal "ThrowReports" "ThrowReports" "start" "LThrowReports$State;") ∈ a_wt := a_wt_mem 218 (by decide +kernel) (by decide +kernel)
theorem k_220 : (Jvm.Cond.lays "ThrowReports" "ThrowReports" "nodesMade" "I") ∈ a_wt := a_wt_mem 220 (by decide +kernel) (by decide +kernel)
theorem k_222 : (Jvm.Cond.superclass "ThrowReports" "java/lang/Object") ∈ a_wt := a_wt_mem 222 (by decide +kernel) (by decide +kernel)
theorem k_223 : (Jvm.Cond.methodLink "ThrowReportsLaw" (13 : Nat) ({ cls := "ThrowReports", name := "act", desc := "(IIIII)I" } : Jvm.MethodName)) ∈ a_wt := a_wt_mem 223 (by decide +kernel) (by decide +kernel)
theorem k_224 : (Jvm.Cond.instanceMethod ({ cls := "ThrowReports", name := "act", desc := "(IIIII)I" } : Jvm.MethodName)) ∈ a_wt := a_wt_mem 224 (by decide +kernel) (by decide +kernel)
theorem k_225 : (Jvm.Cond.selects "ThrowReports" ({ cls := "ThrowReports", name := "act", desc := "(IIIII)I" } : Jvm.MethodName) ({ cls := "ThrowReports", name := "act", desc := "(IIIII)I" } : Jvm.MethodName)) ∈ a_wt := a_wt_mem 225 (by decide +kernel) (by decide +kernel)
theorem k_226 : (Jvm.Cond.code ({ cls := "ThrowReports", name := "act", desc := "(IIIII)I" } : Jvm.MethodName) prog_1_method_2_code (6 : Nat) (Option.some Jvm.ClassFile.FieldType.int)) ∈ a_wt := a_wt_mem 226 (by decide +kernel) (by decide +kernel)
theorem k_227 : (Jvm.Cond.methodLink "ThrowReports" (35 : Nat) ({ cls := "ThrowReports$Act", name := "isAsTold", desc := "(IIIII)Z" } : Jvm.MethodName)) ∈ a_wt := a_wt_mem 227 (by decide +kernel) (by decide +kernel)
theorem k_228 : (Jvm.Cond.static ({ cls := "ThrowReports$Act", name := "isAsTold", desc := "(IIIII)Z" } : Jvm.MethodName)) ∈ a_wt := a_wt_mem 228 (by decide +kernel) (by decide +kernel)
theorem k_229 : (Jvm.Cond.code ({ cls := "ThrowReports$Act", name := "isAsTold", desc := "(IIIII)Z" } : Jvm.MethodName) prog_2_method_2_code (5 : Nat) (Option.some Jvm.ClassFile.FieldType.boolean)) ∈ a_wt := a_wt_mem 229 (by decide +kernel) (by decide +kernel)
theorem k_230 : (Jvm.Cond.fieldLink "ThrowReports$Act" (36 : Nat) "ThrowReports$Act" "FORMS" "[I") ∈ a_wt := a_wt_mem 230 (by decide +kernel) (by decide +kernel)
theorem k_232 : (Jvm.Cond.methodLink "ThrowReports$Act" (40 : Nat) ({ cls := "ThrowReports$Act", name := "fits", desc := "(II)Z" } : Jvm.MethodName)) ∈ a_wt := a_wt_mem 232 (by decide +kernel) (by decide +kernel)
theorem k_233 : (Jvm.Cond.static ({ cls := "ThrowReports$Act", name := "fits", desc := "(II)Z" } : Jvm.MethodName)) ∈ a_wt := a_wt_mem 233 (by decide +kernel) (by decide +kernel)
theorem k_234 : (Jvm.Cond.code ({ cls := "ThrowReports$Act", name := "fits", desc := "(II)Z" } : Jvm.MethodName) prog_2_method_3_code (2 : Nat) (Option.some Jvm.ClassFile.FieldType.boolean)) ∈ a_wt := a_wt_mem 234 (by decide +kernel) (by decide +kernel)
theorem k_235 : (Jvm.Cond.methodLink "ThrowReports" (41 : Nat) ({ cls := "ThrowReports", name := "isFull", desc := "(I)Z" } : Jvm.MethodName)) ∈ a_wt := a_wt_mem 235 (by decide +kernel) (by decide +kernel)
theorem k_237 : (Jvm.Cond.instanceMethod ({ cls := "ThrowReports", name := "isFull", desc := "(I)Z" } : Jvm.MethodName)) ∈ a_wt := a_wt_mem 237 (by decide +kernel) (by decide +kernel)
theorem k_238 : (Jvm.Cond.code ({ cls := "ThrowReports", name := "isFull", desc := "(I)Z" } : Jvm.MethodName) prog_1_method_26_code (2 : Nat) (Option.some Jvm.ClassFile.FieldType.boolean)) ∈ a_wt := a_wt_mem 238 (by decide +kernel) (by decide +kernel)
theorem k_239 : (Jvm.Cond.classLink "ThrowReports" (36 : Nat) "ThrowReports$Act") ∈ a_wt := a_wt_mem 239 (by decide +kernel) (by decide +kernel)
theorem k_240 : (Jvm.Cond.instantiable "ThrowReports$Act" (11 : Nat)) ∈ a_wt := a_wt_mem 240 (by decide +kernel) (by decide +kernel)
theorem k_241 : (Jvm.Cond.methodLink "ThrowReports" (49 : Nat) ({ cls := "ThrowReports$Act", name := "<init>", desc := "(IIIIII)V" } : Jvm.MethodName)) ∈ a_wt := a_wt_mem 241 (by decide +kernel) (by decide +kernel)
theorem k_242 : (Jvm.Cond.instanceMethod ({ cls := "ThrowReports$Act", name := "<init>", desc := "(IIIIII)V" } : Jvm.MethodName)) ∈ a_wt := a_wt_mem 242 (by decide +kernel) (by decide +kernel)
theorem k_243 : (Jvm.Cond.code ({ cls := "ThrowReports$Act", name := "<init>", desc := "(IIIIII)V" } : Jvm.MethodName) prog_2_method_1_code (7 : Nat) (Option.none : Option Jvm.ClassFile.FieldType)) ∈ a_wt := a_wt_mem 243 (by decide +kernel) (by decide +kernel)
theorem k_244 : (Jvm.Cond.methodLink "ThrowReports$Act" (3 : Nat) ({ cls := "ThrowReports$Node", name := "<init>", desc := "(II)V" } : Jvm.MethodName)) ∈ a_wt := a_wt_mem 244 (by decide +kernel) (by decide +kernel)
theorem k_245 : (Jvm.Cond.instanceMethod ({ cls := "ThrowReports$Node", name := "<init>", desc := "(II)V" } : Jvm.MethodName)) ∈ a_wt := a_wt_mem 245 (by decide +kernel) (by decide +kernel)
theorem k_246 : (Jvm.Cond.code ({ cls := "ThrowReports$Node", name := "<init>", desc := "(II)V" } : Jvm.MethodName) prog_8_method_1_code (3 : Nat) (Option.none : Option Jvm.ClassFile.FieldType)) ∈ a_wt := a_wt_mem 246 (by decide +kernel) (by decide +kernel)
theorem k_247 : (Jvm.Cond.methodLink "ThrowReports$Node" (1 : Nat) ({ cls := "java/lang/Object", name := "<init>", desc := "()V" } : Jvm.MethodName)) ∈ a_wt := a_wt_mem 247 (by decide +kernel) (by decide +kernel)
theorem k_248 : (Jvm.Cond.classLink "ThrowReports$Node" (7 : Nat) "ThrowReports$State") ∈ a_wt := a_wt_mem 248 (by decide +kernel) (by decide +kernel)
theorem k_250 : (Jvm.Cond.classLink "ThrowReports$Node" (16 : Nat) "ThrowReports$Ways") ∈ a_wt := a_wt_mem 250 (by decide +kernel) (by decide +kernel)
theorem k_251 : (Jvm.Cond.instantiable "ThrowReports$Ways" (1 : Nat)) ∈ a_wt := a_wt_mem 251 (by decide +kernel) (by decide +kernel)
theorem k_252 : (Jvm.Cond.methodLink "ThrowReports$Node" (18 : Nat) ({ cls := "ThrowReports$Ways", name := "<init>", desc := "()V" } : Jvm.MethodName)) ∈ a_wt := a_wt_mem 252 (by decide +kernel) (by decide +kernel)
theorem k_253 : (Jvm.Cond.instanceMethod ({ cls := "ThrowReports$Ways", name := "<init>", desc := "()V" } : Jvm.MethodName)) ∈ a_wt := a_wt_mem 253 (by decide +kernel) (by decide +kernel)
theorem k_254 : (Jvm.Cond.code ({ cls := "ThrowReports$Ways", name := "<init>", desc := "()V" } : Jvm.MethodName) prog_11_method_1_code (2 : Nat) (Option.none : Option Jvm.ClassFile.FieldType)) ∈ a_wt := a_wt_mem 254 (by decide +kernel) (by decide +kernel)
theorem k_255 : (Jvm.Cond.methodLink "ThrowReports$Ways" (3 : Nat) ({ cls := "java/lang/Object", name := "<init>", desc := "()V" } : Jvm.MethodName)) ∈ a_wt := a_wt_mem 255 (by decide +kernel) (by decide +kernel)
theorem k_256 : (Jvm.Cond.classLink "ThrowReports$Ways" (9 : Nat) "ThrowReports$State") ∈ a_wt := a_wt_mem 256 (by decide +kernel) (by decide +kernel)
theorem k_259 : (Jvm.Cond.fieldLink "ThrowReports$Ways" (11 : Nat) "ThrowReports$Ways" "states" "[LThrowReports$State;") ∈ a_wt := a_wt_mem 259 (by decide +kernel) (by decide +kernel)
theorem k_260 : (Jvm.Cond.laysFinal "ThrowReports$Ways" "ThrowReports$Ways" "states" "[LThrowReports$State;") ∈ a_wt := a_wt_mem 260 (by decide +kernel) (by decide +kernel)
theorem k_262 : (Jvm.Cond.superclass "ThrowReports$Ways" "java/lang/Object") ∈ a_wt := a_wt_mem 262 (by decide +kernel) (by decide +kernel)
theorem k_263 : (Jvm.Cond.classLink "ThrowReports$Act" (9 : Nat) "ThrowReports$State") ∈ a_wt := a_wt_mem 263 (by decide +kernel) (by decide +kernel)
theorem k_265 : (Jvm.Cond.fieldLink "ThrowReports$Act" (20 : Nat) "ThrowReports$Act" "op" "I") ∈ a_wt := a_wt_mem 265 (by decide +kernel) (by decide +kernel)
theorem k_266 : (Jvm.Cond.fieldLink "ThrowReports$Act" (24 : Nat) "ThrowReports$Act" "a" "I") ∈ a_wt := a_wt_mem 266 (by decide +kernel) (by decide +kernel)
theorem k_267 : (Jvm.Cond.fieldLink "ThrowReports$Act" (27 : Nat) "ThrowReports$Act" "b" "I") ∈ a_wt := a_wt_mem 267 (by decide +kernel) (by decide +kernel)
theorem k_268 : (Jvm.Cond.fieldLink "ThrowReports$Act" (30 : Nat) "ThrowReports$Act" "c" "I") ∈ a_wt := a_wt_mem 268 (by decide +kernel) (by decide +kernel)
theorem k_269 : (Jvm.Cond.fieldLink "ThrowReports$Act" (33 : Nat) "ThrowReports$Act" "d" "I") ∈ a_wt := a_wt_mem 269 (by decide +kernel) (by decide +kernel)
theorem k_270 : (Jvm.Cond.fieldLink "ThrowReports$Act" (14 : Nat) "ThrowReports$Act" "left" "LThrowReports$State;") ∈ a_wt := a_wt_mem 270 (by decide +kernel) (by decide +kernel)
theorem k_271 : (Jvm.Cond.fieldLink "ThrowReports$Node" (23 : Nat) "ThrowReports$Node" "number" "I") ∈ a_wt := a_wt_mem 271 (by decide +kernel) (by decide +kernel)
theorem k_272 : (Jvm.Cond.fieldLink "ThrowReports$Act" (56 : Nat) "ThrowReports$Act" "number" "I") ∈ a_wt := a_wt_mem 272 (by decide +kernel) (by decide +kernel)
theorem k_273 : (Jvm.Cond.sameField "ThrowReports$Act" "ThrowReports$Node" "number" "I") ∈ a_wt := a_wt_mem 273 (by decide +kernel) (by decide +kernel)
theorem k_274 : (Jvm.Cond.fieldLink "ThrowReports$Node" (27 : Nat) "ThrowReports$Node" "cost" "I") ∈ a_wt := a_wt_mem 274 (by decide +kernel) (by decide +kernel)
theorem k_275 : (Jvm.Cond.fieldLink "ThrowReports" (177 : Nat) "ThrowReports$Node" "cost" "I") ∈ a_wt := a_wt_mem 275 (by decide +kernel) (by decide +kernel)
theorem k_276 : (Jvm.Cond.fieldLink "ThrowReports$Node" (10 : Nat) "ThrowReports$Node" "before" "LThrowReports$State;") ∈ a_wt := a_wt_mem 276 (by decide +kernel) (by decide +kernel)
theorem k_277 : (Jvm.Cond.fieldLink "ThrowReports" (168 : Nat) "ThrowReports$Node" "before" "LThrowReports$State;") ∈ a_wt := a_wt_mem 277 (by decide +kernel) (by decide +kernel)
theorem k_278 : (Jvm.Cond.fieldLink "ThrowReports$Node" (19 : Nat) "ThrowReports$Node" "ways" "LThrowReports$Ways;") ∈ a_wt := a_wt_mem 278 (by decide +kernel) (by decide +kernel)
theorem k_279 : (Jvm.Cond.fieldLink "ThrowReports$Both" (33 : Nat) "ThrowReports$Both" "ways" "LThrowReports$Ways;") ∈ a_wt := a_wt_mem 279 (by decide +kernel) (by decide +kernel)
theorem k_280 : (Jvm.Cond.sameField "ThrowReports$Both" "ThrowReports$Node" "ways" "LThrowReports$Ways;") ∈ a_wt := a_wt_mem 280 (by decide +kernel) (by decide +kernel)
theorem k_281 : (Jvm.Cond.fieldLink "ThrowReports$Both" (37 : Nat) "ThrowReports$Node" "ways" "LThrowReports$Ways;") ∈ a_wt := a_wt_mem 281 (by decide +kernel) (by decide +kernel)
theorem k_282 : (Jvm.Cond.fieldLink "ThrowReports$Guard" (64 : Nat) "ThrowReports$Node" "ways" "LThrowReports$Ways;") ∈ a_wt := a_wt_mem 282 (by decide +kernel) (by decide +kernel)
theorem k_283 : (Jvm.Cond.fieldLink "ThrowReports$Choice" (66 : Nat) "ThrowReports$Choice" "ways" "LThrowReports$Ways;") ∈ a_wt := a_wt_mem 283 (by decide +kernel) (by decide +kernel)
theorem k_284 : (Jvm.Cond.sameField "ThrowReports$Choice" "ThrowReports$Node" "ways" "LThrowReports$Ways;") ∈ a_wt := a_wt_mem 284 (by decide +kernel) (by decide +kernel)
theorem k_285 : (Jvm.Cond.fieldLink "ThrowReports$Choice" (70 : Nat) "ThrowReports$Node" "ways" "LThrowReports$Ways;") ∈ a_wt := a_wt_mem 285 (by decide +kernel) (by decide +kernel)
theorem k_286 : (Jvm.Cond.fieldLink "ThrowReports$Guard" (88 : Nat) "ThrowReports$Guard" "ways" "LThrowReports$Ways;") ∈ a_wt := a_wt_mem 286 (by decide +kernel) (by decide +kernel)
theorem k_287 : (Jvm.Cond.sameField "ThrowReports$Guard" "ThrowReports$Node" "ways" "LThrowReports$Ways;") ∈ a_wt := a_wt_mem 287 (by decide +kernel) (by decide +kernel)
theorem k_288 : (Jvm.Cond.fieldLink "ThrowReports$Act" (98 : Nat) "ThrowReports$Act" "ways" "LThrowReports$Ways;") ∈ a_wt := a_wt_mem 288 (by decide +kernel) (by decide +kernel)
theorem k_289 : (Jvm.Cond.sameField "ThrowReports$Act" "ThrowReports$Node" "ways" "LThrowReports$Ways;") ∈ a_wt := a_wt_mem 289 (by decide +kernel) (by decide +kernel)
theorem k_290 : (Jvm.Cond.fieldLink "ThrowReports$Node" (40 : Nat) "ThrowReports$Node" "mayDo" "I") ∈ a_wt := a_wt_mem 290 (by decide +kernel) (by decide +kernel)
theorem k_291 : (Jvm.Cond.fieldLink "ThrowReports" (161 : Nat) "ThrowReports$Node" "mayDo" "I") ∈ a_wt := a_wt_mem 291 (by decide +kernel) (by decide +kernel)
theorem k_292 : (Jvm.Cond.laysFinal "ThrowReports$Act" "ThrowReports$Act" "op" "I") ∈ a_wt := a_wt_mem 292 (by decide +kernel) (by decide +kernel)
theorem k_294 : (Jvm.Cond.laysFinal "ThrowReports$Act" "ThrowReports$Act" "a" "I") ∈ a_wt := a_wt_mem 294 (by decide +kernel) (by decide +kernel)
theorem k_296 : (Jvm.Cond.laysFinal "ThrowReports$Act" "ThrowReports$Act" "b" "I") ∈ a_wt := a_wt_mem 296 (by decide +kernel) (by decide +kernel)
theorem k_298 : (Jvm.Cond.laysFinal "ThrowReports$Act" "ThrowReports$Act" "c" "I") ∈ a_wt := a_wt_mem 298 (by decide +kernel) (by decide +kernel)
theorem k_300 : (Jvm.Cond.laysFinal "ThrowReports$Act" "ThrowReports$Act" "d" "I") ∈ a_wt := a_wt_mem 300 (by decide +kernel) (by decide +kernel)
theorem k_302 : (Jvm.Cond.laysFinal "ThrowReports$Act" "ThrowReports$Act" "left" "LThrowReports$State;") ∈ a_wt := a_wt_mem 302 (by decide +kernel) (by decide +kernel)
theorem k_304 : (Jvm.Cond.laysFinal "ThrowReports$Act" "ThrowReports$Node" "number" "I") ∈ a_wt := a_wt_mem 304 (by decide +kernel) (by decide +kernel)
theorem k_306 : (Jvm.Cond.laysFinal "ThrowReports$Act" "ThrowReports$Node" "cost" "I") ∈ a_wt := a_wt_mem 306 (by decide +kernel) (by decide +kernel)
theorem k_308 : (Jvm.Cond.laysFinal "ThrowReports$Act" "ThrowReports$Node" "before" "LThrowReports$State;") ∈ a_wt := a_wt_mem 308 (by decide +kernel) (by decide +kernel)
theorem k_310 : (Jvm.Cond.laysFinal "ThrowReports$Act" "ThrowReports$Node" "ways" "LThrowReports$Ways;") ∈ a_wt := a_wt_mem 310 (by decide +kernel) (by decide +kernel)
theorem k_312 : (Jvm.Cond.lays "ThrowReports$Act" "ThrowReports$Node" "mayDo" "I") ∈ a_wt := a_wt_mem 312 (by decide +kernel) (by decide +kernel)
theorem k_314 : (Jvm.Cond.superclass "ThrowReports$Act" "ThrowReports$Node") ∈ a_wt := a_wt_mem 314 (by decide +kernel) (by decide +kernel)
theorem k_315 : (Jvm.Cond.methodLink "ThrowReports" (52 : Nat) ({ cls := "ThrowReports", name := "added", desc := "(LThrowReports$Node;)I" } : Jvm.MethodName)) ∈ a_wt := a_wt_mem 315 (by decide +kernel) (by decide +kernel)
theorem k_317 : (Jvm.Cond.instanceMethod ({ cls := "ThrowReports", name := "added", desc := "(LThrowReports$Node;)I" } : Jvm.MethodName)) ∈ a_wt := a_wt_mem 317 (by decide +kernel) (by decide +kernel)
theorem k_318 : (Jvm.Cond.code ({ cls := "ThrowReports", name := "added", desc := "(LThrowReports$Node;)I" } : Jvm.MethodName) prog_1_method_27_code (2 : Nat) (Option.some Jvm.ClassFile.FieldType.int)) ∈ a_wt := a_wt_mem 318 (by decide +kernel) (by decide +kernel)
theorem k_319 : (Jvm.Cond.methodLink "ThrowReportsLaw" (18 : Nat) ({ cls := "ThrowReports", name := "both", desc := "(II)I" } : Jvm.MethodName)) ∈ a_wt := a_wt_mem 319 (by decide +kernel) (by decide +kernel)
theorem k_320 : (Jvm.Cond.instanceMethod ({ cls := "ThrowReports", name := "both", desc := "(II)I" } : Jvm.MethodName)) ∈ a_wt := a_wt_mem 320 (by decide +kernel) (by decide +kernel)
theorem k_321 : (Jvm.Cond.selects "ThrowReports" ({ cls := "ThrowReports", name := "both", desc := "(II)I" } : Jvm.MethodName) ({ cls := "ThrowReports", name := "both", desc := "(II)I" } : Jvm.MethodName)) ∈ a_wt := a_wt_mem 321 (by decide +kernel) (by decide +kernel)
theorem k_322 : (Jvm.Cond.code ({ cls := "ThrowReports", name := "both", desc := "(II)I" } : Jvm.MethodName) prog_1_method_3_code (4 : Nat) (Option.some Jvm.ClassFile.FieldType.int)) ∈ a_wt := a_wt_mem 322 (by decide +kernel) (by decide +kernel)
theorem k_323 : (Jvm.Cond.methodLink "ThrowReports" (56 : Nat) ({ cls := "ThrowReports", name := "isNode", desc := "(I)Z" } : Jvm.MethodName)) ∈ a_wt := a_wt_mem 323 (by decide +kernel) (by decide +kernel)
theorem k_325 : (Jvm.Cond.instanceMethod ({ cls := "ThrowReports", name := "isNode", desc := "(I)Z" } : Jvm.MethodName)) ∈ a_wt := a_wt_mem 325 (by decide +kernel) (by decide +kernel)
theorem k_326 : (Jvm.Cond.code ({ cls := "ThrowReports", name := "isNode", desc := "(I)Z" } : Jvm.MethodName) prog_1_method_22_code (2 : Nat) (Option.some Jvm.ClassFile.FieldType.boolean)) ∈ a_wt := a_wt_mem 326 (by decide +kernel) (by decide +kernel)
theorem k_327 : (Jvm.Cond.methodLink "ThrowReports" (59 : Nat) ({ cls := "ThrowReports", name := "costOf", desc := "(I)I" } : Jvm.MethodName)) ∈ a_wt := a_wt_mem 327 (by decide +kernel) (by decide +kernel)
theorem k_329 : (Jvm.Cond.instanceMethod ({ cls := "ThrowReports", name := "costOf", desc := "(I)I" } : Jvm.MethodName)) ∈ a_wt := a_wt_mem 329 (by decide +kernel) (by decide +kernel)
theorem k_330 : (Jvm.Cond.code ({ cls := "ThrowReports", name := "costOf", desc := "(I)I" } : Jvm.MethodName) prog_1_method_25_code (2 : Nat) (Option.some Jvm.ClassFile.FieldType.int)) ∈ a_wt := a_wt_mem 330 (by decide +kernel) (by decide +kernel)
theorem k_331 : (Jvm.Cond.classLink "ThrowReports" (63 : Nat) "ThrowReports$Both") ∈ a_wt := a_wt_mem 331 (by decide +kernel) (by decide +kernel)
theorem k_332 : (Jvm.Cond.instantiable "ThrowReports$Both" (8 : Nat)) ∈ a_wt := a_wt_mem 332 (by decide +kernel) (by decide +kernel)
theorem k_333 : (Jvm.Cond.methodLink "ThrowReports" (65 : Nat) ({ cls := "ThrowReports$Both", name := "<init>", desc := "(IILThrowReports$Node;LThrowReports$Node;)V" } : Jvm.MethodName)) ∈ a_wt := a_wt_mem 333 (by decide +kernel) (by decide +kernel)
theorem k_334 : (Jvm.Cond.instanceMethod ({ cls := "ThrowReports$Both", name := "<init>", desc := "(IILThrowReports$Node;LThrowReports$Node;)V" } : Jvm.MethodName)) ∈ a_wt := a_wt_mem 334 (by decide +kernel) (by decide +kernel)
theorem k_335 : (Jvm.Cond.code ({ cls := "ThrowReports$Both", name := "<init>", desc := "(IILThrowReports$Node;LThrowReports$Node;)V" } : Jvm.MethodName) prog_3_method_1_code (5 : Nat) (Option.none : Option Jvm.ClassFile.FieldType)) ∈ a_wt := a_wt_mem 335 (by decide +kernel) (by decide +kernel)
theorem k_336 : (Jvm.Cond.methodLink "ThrowReports$Both" (1 : Nat) ({ cls := "ThrowReports$Node", name := "<init>", desc := "(II)V" } : Jvm.MethodName)) ∈ a_wt := a_wt_mem 336 (by decide +kernel) (by decide +kernel)
theorem k_337 : (Jvm.Cond.classLink "ThrowReports$Both" (7 : Nat) "ThrowReports$State") ∈ a_wt := a_wt_mem 337 (by decide +kernel) (by decide +kernel)
theorem k_339 : (Jvm.Cond.fieldLink "ThrowReports$Both" (18 : Nat) "ThrowReports$Both" "first" "LThrowReports$Node;") ∈ a_wt := a_wt_mem 339 (by decide +kernel) (by decide +kernel)
theorem k_340 : (Jvm.Cond.fieldLink "ThrowReports$Both" (22 : Nat) "ThrowReports$Both" "second" "LThrowReports$Node;") ∈ a_wt := a_wt_mem 340 (by decide +kernel) (by decide +kernel)
theorem k_341 : (Jvm.Cond.fieldLink "ThrowReports$Both" (12 : Nat) "ThrowReports$Both" "between" "LThrowReports$State;") ∈ a_wt := a_wt_mem 341 (by decide +kernel) (by decide +kernel)
theorem k_342 : (Jvm.Cond.laysFinal "ThrowReports$Both" "ThrowReports$Both" "first" "LThrowReports$Node;") ∈ a_wt := a_wt_mem 342 (by decide +kernel) (by decide +kernel)
theorem k_344 : (Jvm.Cond.laysFinal "ThrowReports$Both" "ThrowReports$Both" "second" "LThrowReports$Node;") ∈ a_wt := a_wt_mem 344 (by decide +kernel) (by decide +kernel)
theorem k_346 : (Jvm.Cond.laysFinal "ThrowReports$Both" "ThrowReports$Both" "between" "LThrowReports$State;") ∈ a_wt := a_wt_mem 346 (by decide +kernel) (by decide +kernel)
theorem k_348 : (Jvm.Cond.laysFinal "ThrowReports$Both" "ThrowReports$Node" "number" "I") ∈ a_wt := a_wt_mem 348 (by decide +kernel) (by decide +kernel)
theorem k_349 : (Jvm.Cond.laysFinal "ThrowReports$Both" "ThrowReports$Node" "cost" "I") ∈ a_wt := a_wt_mem 349 (by decide +kernel) (by decide +kernel)
theorem k_350 : (Jvm.Cond.laysFinal "ThrowReports$Both" "ThrowReports$Node" "before" "LThrowReports$State;") ∈ a_wt := a_wt_mem 350 (by decide +kernel) (by decide +kernel)
theorem k_351 : (Jvm.Cond.laysFinal "ThrowReports$Both" "ThrowReports$Node" "ways" "LThrowReports$Ways;") ∈ a_wt := a_wt_mem 351 (by decide +kernel) (by decide +kernel)
theorem k_352 : (Jvm.Cond.lays "ThrowReports$Both" "ThrowReports$Node" "mayDo" "I") ∈ a_wt := a_wt_mem 352 (by decide +kernel) (by decide +kernel)
theorem k_353 : (Jvm.Cond.superclass "ThrowReports$Both" "ThrowReports$Node") ∈ a_wt := a_wt_mem 353 (by decide +kernel) (by decide +kernel)
theorem k_354 : (Jvm.Cond.methodLink "ThrowReportsLaw" (23 : Nat) ({ cls := "ThrowReports", name := "choice", desc := "(IIII)I" } : Jvm.MethodName)) ∈ a_wt := a_wt_mem 354 (by decide +kernel) (by decide +kernel)
theorem k_355 : (Jvm.Cond.instanceMethod ({ cls := "ThrowReports", name := "choice", desc := "(IIII)I" } : Jvm.MethodName)) ∈ a_wt := a_wt_mem 355 (by decide +kernel) (by decide +kernel)
theorem k_356 : (Jvm.Cond.selects "ThrowReports" ({ cls := "ThrowReports", name := "choice", desc := "(IIII)I" } : Jvm.MethodName) ({ cls := "ThrowReports", name := "choice", desc := "(IIII)I" } : Jvm.MethodName)) ∈ a_wt := a_wt_mem 356 (by decide +kernel) (by decide +kernel)
theorem k_357 : (Jvm.Cond.code ({ cls := "ThrowReports", name := "choice", desc := "(IIII)I" } : Jvm.MethodName) prog_1_method_4_code (6 : Nat) (Option.some Jvm.ClassFile.FieldType.int)) ∈ a_wt := a_wt_mem 357 (by decide +kernel) (by decide +kernel)
theorem k_358 : (Jvm.Cond.methodLink "ThrowReports" (68 : Nat) ({ cls := "ThrowReports", name := "isSlot", desc := "(I)Z" } : Jvm.MethodName)) ∈ a_wt := a_wt_mem 358 (by decide +kernel) (by decide +kernel)
theorem k_359 : (Jvm.Cond.static ({ cls := "ThrowReports", name := "isSlot", desc := "(I)Z" } : Jvm.MethodName)) ∈ a_wt := a_wt_mem 359 (by decide +kernel) (by decide +kernel)
theorem k_360 : (Jvm.Cond.code ({ cls := "ThrowReports", name := "isSlot", desc := "(I)Z" } : Jvm.MethodName) prog_1_method_21_code (1 : Nat) (Option.some Jvm.ClassFile.FieldType.boolean)) ∈ a_wt := a_wt_mem 360 (by decide +kernel) (by decide +kernel)
theorem k_361 : (Jvm.Cond.classLink "ThrowReports" (71 : Nat) "ThrowReports$Choice") ∈ a_wt := a_wt_mem 361 (by decide +kernel) (by decide +kernel)
theorem k_362 : (Jvm.Cond.instantiable "ThrowReports$Choice" (10 : Nat)) ∈ a_wt := a_wt_mem 362 (by decide +kernel) (by decide +kernel)
theorem k_363 : (Jvm.Cond.methodLink "ThrowReports" (73 : Nat) ({ cls := "ThrowReports$Choice", name := "<init>", desc := "(IIIILThrowReports$Node;LThrowReports$Node;)V" } : Jvm.MethodName)) ∈ a_wt := a_wt_mem 363 (by decide +kernel) (by decide +kernel)
theorem k_364 : (Jvm.Cond.instanceMethod ({ cls := "ThrowReports$Choice", name := "<init>", desc := "(IIIILThrowReports$Node;LThrowReports$Node;)V" } : Jvm.MethodName)) ∈ a_wt := a_wt_mem 364 (by decide +kernel) (by decide +kernel)
theorem k_365 : (Jvm.Cond.code ({ cls := "ThrowReports$Choice", name := "<init>", desc := "(IIIILThrowReports$Node;LThrowReports$Node;)V" } : Jvm.MethodName) prog_4_method_1_code (7 : Nat) (Option.none : Option Jvm.ClassFile.FieldType)) ∈ a_wt := a_wt_mem 365 (by decide +kernel) (by decide +kernel)
theorem k_366 : (Jvm.Cond.methodLink "ThrowReports$Choice" (1 : Nat) ({ cls := "ThrowReports$Node", name := "<init>", desc := "(II)V" } : Jvm.MethodName)) ∈ a_wt := a_wt_mem 366 (by decide +kernel) (by decide +kernel)
theorem k_367 : (Jvm.Cond.classLink "ThrowReports$Choice" (7 : Nat) "ThrowReports$State") ∈ a_wt := a_wt_mem 367 (by decide +kernel) (by decide +kernel)
theorem k_369 : (Jvm.Cond.fieldLink "ThrowReports$Choice" (18 : Nat) "ThrowReports$Choice" "slot" "I") ∈ a_wt := a_wt_mem 369 (by decide +kernel) (by decide +kernel)
theorem k_370 : (Jvm.Cond.fieldLink "ThrowReports$Choice" (22 : Nat) "ThrowReports$Choice" "kind" "I") ∈ a_wt := a_wt_mem 370 (by decide +kernel) (by decide +kernel)
theorem k_371 : (Jvm.Cond.fieldLink "ThrowReports$Choice" (25 : Nat) "ThrowReports$Choice" "one" "LThrowReports$Node;") ∈ a_wt := a_wt_mem 371 (by decide +kernel) (by decide +kernel)
theorem k_372 : (Jvm.Cond.fieldLink "ThrowReports$Choice" (29 : Nat) "ThrowReports$Choice" "other" "LThrowReports$Node;") ∈ a_wt := a_wt_mem 372 (by decide +kernel) (by decide +kernel)
theorem k_373 : (Jvm.Cond.fieldLink "ThrowReports$Choice" (12 : Nat) "ThrowReports$Choice" "chosen" "LThrowReports$State;") ∈ a_wt := a_wt_mem 373 (by decide +kernel) (by decide +kernel)
theorem k_374 : (Jvm.Cond.laysFinal "ThrowReports$Choice" "ThrowReports$Choice" "slot" "I") ∈ a_wt := a_wt_mem 374 (by decide +kernel) (by decide +kernel)
theorem k_376 : (Jvm.Cond.laysFinal "ThrowReports$Choice" "ThrowReports$Choice" "kind" "I") ∈ a_wt := a_wt_mem 376 (by decide +kernel) (by decide +kernel)
theorem k_378 : (Jvm.Cond.laysFinal "ThrowReports$Choice" "ThrowReports$Choice" "one" "LThrowReports$Node;") ∈ a_wt := a_wt_mem 378 (by decide +kernel) (by decide +kernel)
theorem k_380 : (Jvm.Cond.laysFinal "ThrowReports$Choice" "ThrowReports$Choice" "other" "LThrowReports$Node;") ∈ a_wt := a_wt_mem 380 (by decide +kernel) (by decide +kernel)
theorem k_382 : (Jvm.Cond.laysFinal "ThrowReports$Choice" "ThrowReports$Choice" "chosen" "LThrowReports$State;") ∈ a_wt := a_wt_mem 382 (by decide +kernel) (by decide +kernel)
theorem k_384 : (Jvm.Cond.laysFinal "ThrowReports$Choice" "ThrowReports$Node" "number" "I") ∈ a_wt := a_wt_mem 384 (by decide +kernel) (by decide +kernel)
theorem k_385 : (Jvm.Cond.laysFinal "ThrowReports$Choice" "ThrowReports$Node" "cost" "I") ∈ a_wt := a_wt_mem 385 (by decide +kernel) (by decide +kernel)
theorem k_386 : (Jvm.Cond.laysFinal "ThrowReports$Choice" "ThrowReports$Node" "before" "LThrowReports$State;") ∈ a_wt := a_wt_mem 386 (by decide +kernel) (by decide +kernel)
theorem k_387 : (Jvm.Cond.laysFinal "ThrowReports$Choice" "ThrowReports$Node" "ways" "LThrowReports$Ways;") ∈ a_wt := a_wt_mem 387 (by decide +kernel) (by decide +kernel)
theorem k_388 : (Jvm.Cond.lays "ThrowReports$Choice" "ThrowReports$Node" "mayDo" "I") ∈ a_wt := a_wt_mem 388 (by decide +kernel) (by decide +kernel)
theorem k_389 : (Jvm.Cond.superclass "ThrowReports$Choice" "ThrowReports$Node") ∈ a_wt := a_wt_mem 389 (by decide +kernel) (by decide +kernel)
theorem k_390 : (Jvm.Cond.methodLink "ThrowReportsLaw" (28 : Nat) ({ cls := "ThrowReports", name := "guard", desc := "(IIII)I" } : Jvm.MethodName)) ∈ a_wt := a_wt_mem 390 (by decide +kernel) (by decide +kernel)
theorem k_391 : (Jvm.Cond.instanceMethod ({ cls := "ThrowReports", name := "guard", desc := "(IIII)I" } : Jvm.MethodName)) ∈ a_wt := a_wt_mem 391 (by decide +kernel) (by decide +kernel)
theorem k_392 : (Jvm.Cond.selects "ThrowReports" ({ cls := "ThrowReports", name := "guard", desc := "(IIII)I" } : Jvm.MethodName) ({ cls := "ThrowReports", name := "guard", desc := "(IIII)I" } : Jvm.MethodName)) ∈ a_wt := a_wt_mem 392 (by decide +kernel) (by decide +kernel)
theorem k_393 : (Jvm.Cond.code ({ cls := "ThrowReports", name := "guard", desc := "(IIII)I" } : Jvm.MethodName) prog_1_method_5_code (6 : Nat) (Option.some Jvm.ClassFile.FieldType.int)) ∈ a_wt := a_wt_mem 393 (by decide +kernel) (by decide +kernel)
theorem k_394 : (Jvm.Cond.methodLink "ThrowReports" (76 : Nat) ({ cls := "ThrowReports", name := "isNodeOrNone", desc := "(I)Z" } : Jvm.MethodName)) ∈ a_wt := a_wt_mem 394 (by decide +kernel) (by decide +kernel)
theorem k_396 : (Jvm.Cond.instanceMethod ({ cls := "ThrowReports", name := "isNodeOrNone", desc := "(I)Z" } : Jvm.MethodName)) ∈ a_wt := a_wt_mem 396 (by decide +kernel) (by decide +kernel)
theorem k_397 : (Jvm.Cond.code ({ cls := "ThrowReports", name := "isNodeOrNone", desc := "(I)Z" } : Jvm.MethodName) prog_1_method_23_code (2 : Nat) (Option.some Jvm.ClassFile.FieldType.boolean)) ∈ a_wt := a_wt_mem 397 (by decide +kernel) (by decide +kernel)
theorem k_398 : (Jvm.Cond.classLink "ThrowReports" (79 : Nat) "ThrowReports$Guard") ∈ a_wt := a_wt_mem 398 (by decide +kernel) (by decide +kernel)
theorem k_399 : (Jvm.Cond.instantiable "ThrowReports$Guard" (13 : Nat)) ∈ a_wt := a_wt_mem 399 (by decide +kernel) (by decide +kernel)
theorem k_400 : (Jvm.Cond.methodLink "ThrowReports" (81 : Nat) ({ cls := "ThrowReports", name := "nodeOrNull", desc := "(I)LThrowReports$Node;" } : Jvm.MethodName)) ∈ a_wt := a_wt_mem 400 (by decide +kernel) (by decide +kernel)
theorem k_402 : (Jvm.Cond.instanceMethod ({ cls := "ThrowReports", name := "nodeOrNull", desc := "(I)LThrowReports$Node;" } : Jvm.MethodName)) ∈ a_wt := a_wt_mem 402 (by decide +kernel) (by decide +kernel)
theorem k_403 : (Jvm.Cond.code ({ cls := "ThrowReports", name := "nodeOrNull", desc := "(I)LThrowReports$Node;" } : Jvm.MethodName) prog_1_method_24_code (2 : Nat) (Option.some (Jvm.ClassFile.FieldType.object "ThrowReports$Node"))) ∈ a_wt := a_wt_mem 403 (by decide +kernel) (by decide +kernel)
theorem k_404 : (Jvm.Cond.methodLink "ThrowReports" (85 : Nat) ({ cls := "ThrowReports$Guard", name := "<init>", desc := "(IILThrowReports$Node;ILThrowReports$Node;LThrowReports$Node;)V" } : Jvm.MethodName)) ∈ a_wt := a_wt_mem 404 (by decide +kernel) (by decide +kernel)
theorem k_405 : (Jvm.Cond.instanceMethod ({ cls := "ThrowReports$Guard", name := "<init>", desc := "(IILThrowReports$Node;ILThrowReports$Node;LThrowReports$Node;)V" } : Jvm.MethodName)) ∈ a_wt := a_wt_mem 405 (by decide +kernel) (by decide +kernel)
theorem k_406 : (Jvm.Cond.code ({ cls := "ThrowReports$Guard", name := "<init>", desc := "(IILThrowReports$Node;ILThrowReports$Node;LThrowReports$Node;)V" } : Jvm.MethodName) prog_5_method_1_code (7 : Nat) (Option.none : Option Jvm.ClassFile.FieldType)) ∈ a_wt := a_wt_mem 406 (by decide +kernel) (by decide +kernel)
theorem k_407 : (Jvm.Cond.methodLink "ThrowReports$Guard" (3 : Nat) ({ cls := "ThrowReports$Node", name := "<init>", desc := "(II)V" } : Jvm.MethodName)) ∈ a_wt := a_wt_mem 407 (by decide +kernel) (by decide +kernel)
theorem k_408 : (Jvm.Cond.classLink "ThrowReports$Guard" (9 : Nat) "ThrowReports$State") ∈ a_wt := a_wt_mem 408 (by decide +kernel) (by decide +kernel)
theorem k_410 : (Jvm.Cond.classLink "ThrowReports$Guard" (20 : Nat) "ThrowReports$Ways") ∈ a_wt := a_wt_mem 410 (by decide +kernel) (by decide +kernel)
theorem k_411 : (Jvm.Cond.methodLink "ThrowReports$Guard" (22 : Nat) ({ cls := "ThrowReports$Ways", name := "<init>", desc := "()V" } : Jvm.MethodName)) ∈ a_wt := a_wt_mem 411 (by decide +kernel) (by decide +kernel)
theorem k_412 : (Jvm.Cond.fieldLink "ThrowReports$Guard" (27 : Nat) "ThrowReports$Guard" "body" "LThrowReports$Node;") ∈ a_wt := a_wt_mem 412 (by decide +kernel) (by decide +kernel)
theorem k_413 : (Jvm.Cond.fieldLink "ThrowReports$Guard" (31 : Nat) "ThrowReports$Guard" "set" "I") ∈ a_wt := a_wt_mem 413 (by decide +kernel) (by decide +kernel)
theorem k_414 : (Jvm.Cond.fieldLink "ThrowReports$Guard" (35 : Nat) "ThrowReports$Guard" "handler" "LThrowReports$Node;") ∈ a_wt := a_wt_mem 414 (by decide +kernel) (by decide +kernel)
theorem k_415 : (Jvm.Cond.fieldLink "ThrowReports$Guard" (38 : Nat) "ThrowReports$Guard" "last" "LThrowReports$Node;") ∈ a_wt := a_wt_mem 415 (by decide +kernel) (by decide +kernel)
theorem k_416 : (Jvm.Cond.fieldLink "ThrowReports$Guard" (14 : Nat) "ThrowReports$Guard" "taken" "LThrowReports$State;") ∈ a_wt := a_wt_mem 416 (by decide +kernel) (by decide +kernel)
theorem k_417 : (Jvm.Cond.fieldLink "ThrowReports$Guard" (23 : Nat) "ThrowReports$Guard" "handled" "LThrowReports$Ways;") ∈ a_wt := a_wt_mem 417 (by decide +kernel) (by decide +kernel)
theorem k_418 : (Jvm.Cond.fieldLink "ThrowReports$Guard" (61 : Nat) "ThrowReports$Guard" "bodyMay" "I") ∈ a_wt := a_wt_mem 418 (by decide +kernel) (by decide +kernel)
theorem k_419 : (Jvm.Cond.fieldLink "ThrowReports$Guard" (100 : Nat) "ThrowReports$Guard" "lostFailures" "I") ∈ a_wt := a_wt_mem 419 (by decide +kernel) (by decide +kernel)
theorem k_421 : (Jvm.Cond.laysFinal "ThrowReports$Guard" "ThrowReports$Guard" "body" "LThrowReports$Node;") ∈ a_wt := a_wt_mem 421 (by decide +kernel) (by decide +kernel)
theorem k_423 : (Jvm.Cond.laysFinal "ThrowReports$Guard" "ThrowReports$Guard" "set" "I") ∈ a_wt := a_wt_mem 423 (by decide +kernel) (by decide +kernel)
theorem k_425 : (Jvm.Cond.laysFinal "ThrowReports$Guard" "ThrowReports$Guard" "handler" "LThrowReports$Node;") ∈ a_wt := a_wt_mem 425 (by decide +kernel) (by decide +kernel)
theorem k_427 : (Jvm.Cond.laysFinal "ThrowReports$Guard" "ThrowReports$Guard" "last" "LThrowReports$Node;") ∈ a_wt := a_wt_mem 427 (by decide +kernel) (by decide +kernel)
theorem k_429 : (Jvm.Cond.laysFinal "ThrowReports$Guard" "ThrowReports$Guard" "taken" "LThrowReports$State;") ∈ a_wt := a_wt_mem 429 (by decide +kernel) (by decide +kernel)
theorem k_431 : (Jvm.Cond.laysFinal "ThrowReports$Guard" "ThrowReports$Guard" "handled" "LThrowReports$Ways;") ∈ a_wt := a_wt_mem 431 (by decide +kernel) (by decide +kernel)
theorem k_433 : (Jvm.Cond.lays "ThrowReports$Guard" "ThrowReports$Guard" "bodyMay" "I") ∈ a_wt := a_wt_mem 433 (by decide +kernel) (by decide +kernel)
theorem k_435 : (Jvm.Cond.lays "ThrowReports$Guard" "ThrowReports$Guard" "lostFailures" "I") ∈ a_wt := a_wt_mem 435 (by decide +kernel) (by decide +kernel)
theorem k_437 : (Jvm.Cond.laysFinal "ThrowReports$Guard" "ThrowReports$Node" "number" "I") ∈ a_wt := a_wt_mem 437 (by decide +kernel) (by decide +kernel)
theorem k_438 : (Jvm.Cond.laysFinal "ThrowReports$Guard" "ThrowReports$Node" "cost" "I") ∈ a_wt := a_wt_mem 438 (by decide +kernel) (by decide +kernel)
theorem k_439 : (Jvm.Cond.laysFinal "ThrowReports$Guard" "ThrowReports$Node" "before" "LThrowReports$State;") ∈ a_wt := a_wt_mem 439 (by decide +kernel) (by decide +kernel)
theorem k_440 : (Jvm.Cond.laysFinal "ThrowReports$Guard" "ThrowReports$Node" "ways" "LThrowReports$Ways;") ∈ a_wt := a_wt_mem 440 (by decide +kernel) (by decide +kernel)
theorem k_441 : (Jvm.Cond.lays "ThrowReports$Guard" "ThrowReports$Node" "mayDo" "I") ∈ a_wt := a_wt_mem 441 (by decide +kernel) (by decide +kernel)
theorem k_442 : (Jvm.Cond.superclass "ThrowReports$Guard" "ThrowReports$Node") ∈ a_wt := a_wt_mem 442 (by decide +kernel) (by decide +kernel)
theorem k_443 : (Jvm.Cond.methodLink "ThrowReportsLaw" (32 : Nat) ({ cls := "ThrowReports", name := "forget", desc := "()I" } : Jvm.MethodName)) ∈ a_wt := a_wt_mem 443 (by decide +kernel) (by decide +kernel)
theorem k_444 : (Jvm.Cond.instanceMethod ({ cls := "ThrowReports", name := "forget", desc := "()I" } : Jvm.MethodName)) ∈ a_wt := a_wt_mem 444 (by decide +kernel) (by decide +kernel)
theorem k_445 : (Jvm.Cond.selects "ThrowReports" ({ cls := "ThrowReports", name := "forget", desc := "()I" } : Jvm.MethodName) ({ cls := "ThrowReports", name := "forget", desc := "()I" } : Jvm.MethodName)) ∈ a_wt := a_wt_mem 445 (by decide +kernel) (by decide +kernel)
theorem k_446 : (Jvm.Cond.code ({ cls := "ThrowReports", name := "forget", desc := "()I" } : Jvm.MethodName) prog_1_method_6_code (3 : Nat) (Option.some Jvm.ClassFile.FieldType.int)) ∈ a_wt := a_wt_mem 446 (by decide +kernel) (by decide +kernel)
theorem k_447 : (Jvm.Cond.methodLink "ThrowReportsLaw" (37 : Nat) ({ cls := "ThrowReports", name := "run", desc := "(I)I" } : Jvm.MethodName)) ∈ a_wt := a_wt_mem 447 (by decide +kernel) (by decide +kernel)
theorem k_448 : (Jvm.Cond.instanceMethod ({ cls := "ThrowReports", name := "run", desc := "(I)I" } : Jvm.MethodName)) ∈ a_wt := a_wt_mem 448 (by decide +kernel) (by decide +kernel)
theorem k_449 : (Jvm.Cond.selects "ThrowReports" ({ cls := "ThrowReports", name := "run", desc := "(I)I" } : Jvm.MethodName) ({ cls := "ThrowReports", name := "run", desc := "(I)I" } : Jvm.MethodName)) ∈ a_wt := a_wt_mem 449 (by decide +kernel) (by decide +kernel)
theorem k_450 : (Jvm.Cond.code ({ cls := "ThrowReports", name := "run", desc := "(I)I" } : Jvm.MethodName) prog_1_method_7_code (2 : Nat) (Option.some Jvm.ClassFile.FieldType.int)) ∈ a_wt := a_wt_mem 450 (by decide +kernel) (by decide +kernel)
theorem k_451 : (Jvm.Cond.methodLink "ThrowReports" (88 : Nat) ({ cls := "ThrowReports$Machine", name := "beginRun", desc := "()V" } : Jvm.MethodName)) ∈ a_wt := a_wt_mem 451 (by decide +kernel) (by decide +kernel)
theorem k_452 : (Jvm.Cond.instanceMethod ({ cls := "ThrowReports$Machine", name := "beginRun", desc := "()V" } : Jvm.MethodName)) ∈ a_wt := a_wt_mem 452 (by decide +kernel) (by decide +kernel)
theorem k_453 : (Jvm.Cond.selects "ThrowReports$Machine" ({ cls := "ThrowReports$Machine", name := "beginRun", desc := "()V" } : Jvm.MethodName) ({ cls := "ThrowReports$Machine", name := "beginRun", desc := "()V" } : Jvm.MethodName)) ∈ a_wt := a_wt_mem 453 (by decide +kernel) (by decide +kernel)
theorem k_454 : (Jvm.Cond.code ({ cls := "ThrowReports$Machine", name := "beginRun", desc := "()V" } : Jvm.MethodName) prog_7_method_2_code (1 : Nat) (Option.none : Option Jvm.ClassFile.FieldType)) ∈ a_wt := a_wt_mem 454 (by decide +kernel) (by decide +kernel)
theorem k_455 : (Jvm.Cond.methodLink "ThrowReports" (91 : Nat) ({ cls := "ThrowReports$Node", name := "done", desc := "(LThrowReports$Machine;)I" } : Jvm.MethodName)) ∈ a_wt := a_wt_mem 455 (by decide +kernel) (by decide +kernel)
theorem k_457 : (Jvm.Cond.sameMethod "ThrowReports$Node" "ThrowReports$Node" "done" "(LThrowReports$Machine;)I") ∈ a_wt := a_wt_mem 457 (by decide +kernel) (by decide +kernel)
theorem k_458 : (Jvm.Cond.selects "ThrowReports$Act" ({ cls := "ThrowReports$Node", name := "done", desc := "(LThrowReports$Machine;)I" } : Jvm.MethodName) ({ cls := "ThrowReports$Act", name := "done", desc := "(LThrowReports$Machine;)I" } : Jvm.MethodName)) ∈ a_wt := a_wt_mem 458 (by decide +kernel) (by decide +kernel)
theorem k_459 : (Jvm.Cond.instanceMethod ({ cls := "ThrowReports$Act", name := "done", desc := "(LThrowReports$Machine;)I" } : Jvm.MethodName)) ∈ a_wt := a_wt_mem 459 (by decide +kernel) (by decide +kernel)
theorem k_460 : (Jvm.Cond.code ({ cls := "ThrowReports$Act", name := "done", desc := "(LThrowReports$Machine;)I" } : Jvm.MethodName) prog_2_method_4_code (3 : Nat) (Option.some Jvm.ClassFile.FieldType.int)) ∈ a_wt := a_wt_mem 460 (by decide +kernel) (by decide +kernel)
theorem k_461 : (Jvm.Cond.methodLink "ThrowReports$Act" (49 : Nat) ({ cls := "ThrowReports$Machine", name := "perform", desc := "(IIIII)I" } : Jvm.MethodName)) ∈ a_wt := a_wt_mem 461 (by decide +kernel) (by decide +kernel)
theorem k_462 : (Jvm.Cond.instanceMethod ({ cls := "ThrowReports$Machine", name := "perform", desc := "(IIIII)I" } : Jvm.MethodName)) ∈ a_wt := a_wt_mem 462 (by decide +kernel) (by decide +kernel)
theorem k_463 : (Jvm.Cond.selects "ThrowReports$Machine" ({ cls := "ThrowReports$Machine", name := "perform", desc := "(IIIII)I" } : Jvm.MethodName) ({ cls := "ThrowReports$Machine", name := "perform", desc := "(IIIII)I" } : Jvm.MethodName)) ∈ a_wt := a_wt_mem 463 (by decide +kernel) (by decide +kernel)
theorem k_464 : (Jvm.Cond.code ({ cls := "ThrowReports$Machine", name := "perform", desc := "(IIIII)I" } : Jvm.MethodName) prog_7_method_5_code (6 : Nat) (Option.some Jvm.ClassFile.FieldType.int)) ∈ a_wt := a_wt_mem 464 (by decide +kernel) (by decide +kernel)
theorem k_465 : (Jvm.Cond.methodLink "ThrowReports$Machine" (71 : Nat) ({ cls := "ThrowReports$Machine", name := "make", desc := "(III)I" } : Jvm.MethodName)) ∈ a_wt := a_wt_mem 465 (by decide +kernel) (by decide +kernel)
theorem k_467 : (Jvm.Cond.instanceMethod ({ cls := "ThrowReports$Machine", name := "make", desc := "(III)I" } : Jvm.MethodName)) ∈ a_wt := a_wt_mem 467 (by decide +kernel) (by decide +kernel)
theorem k_468 : (Jvm.Cond.code ({ cls := "ThrowReports$Machine", name := "make", desc := "(III)I" } : Jvm.MethodName) prog_7_method_10_code (4 : Nat) (Option.some Jvm.ClassFile.FieldType.int)) ∈ a_wt := a_wt_mem 468 (by decide +kernel) (by decide +kernel)
theorem k_469 : (Jvm.Cond.methodLink "ThrowReports$Machine" (122 : Nat) ({ cls := "ThrowReports$Things", name := "haveRoom", desc := "(JJ)Z" } : Jvm.MethodName)) ∈ a_wt := a_wt_mem 469 (by decide +kernel) (by decide +kernel)
theorem k_470 : (Jvm.Cond.instanceMethod ({ cls := "ThrowReports$Things", name := "haveRoom", desc := "(JJ)Z" } : Jvm.MethodName)) ∈ a_wt := a_wt_mem 470 (by decide +kernel) (by decide +kernel)
theorem k_471 : (Jvm.Cond.selects "ThrowReports$Things" ({ cls := "ThrowReports$Things", name := "haveRoom", desc := "(JJ)Z" } : Jvm.MethodName) ({ cls := "ThrowReports$Things", name := "haveRoom", desc := "(JJ)Z" } : Jvm.MethodName)) ∈ a_wt := a_wt_mem 471 (by decide +kernel) (by decide +kernel)
theorem k_472 : (Jvm.Cond.code ({ cls := "ThrowReports$Things", name := "haveRoom", desc := "(JJ)Z" } : Jvm.MethodName) prog_10_method_2_code (5 : Nat) (Option.some Jvm.ClassFile.FieldType.boolean)) ∈ a_wt := a_wt_mem 472 (by decide +kernel) (by decide +kernel)
theorem k_473 : (Jvm.Cond.constantLong "ThrowReports$Things" (29 : Nat) (200 : Int64)) ∈ a_wt := a_wt_mem 473 (by decide +kernel) (by decide +kernel)
theorem k_474 : (Jvm.Cond.constantLong "ThrowReports$Things" (34 : Nat) (3000 : Int64)) ∈ a_wt := a_wt_mem 474 (by decide +kernel) (by decide +kernel)
theorem k_475 : (Jvm.Cond.methodLink "ThrowReports$Machine" (126 : Nat) ({ cls := "ThrowReports$Things", name := "addRow", desc := "(II)I" } : Jvm.MethodName)) ∈ a_wt := a_wt_mem 475 (by decide +kernel) (by decide +kernel)
theorem k_476 : (Jvm.Cond.instanceMethod ({ cls := "ThrowReports$Things", name := "addRow", desc := "(II)I" } : Jvm.MethodName)) ∈ a_wt := a_wt_mem 476 (by decide +kernel) (by decide +kernel)
theorem k_477 : (Jvm.Cond.selects "ThrowReports$Things" ({ cls := "ThrowReports$Things", name := "addRow", desc := "(II)I" } : Jvm.MethodName) ({ cls := "ThrowReports$Things", name := "addRow", desc := "(II)I" } : Jvm.MethodName)) ∈ a_wt := a_wt_mem 477 (by decide +kernel) (by decide +kernel)
theorem k_478 : (Jvm.Cond.code ({ cls := "ThrowReports$Things", name := "addRow", desc := "(II)I" } : Jvm.MethodName) prog_10_method_3_code (3 : Nat) (Option.some Jvm.ClassFile.FieldType.int)) ∈ a_wt := a_wt_mem 478 (by decide +kernel) (by decide +kernel)
theorem k_479 : (Jvm.Cond.methodLink "ThrowReports$Things" (36 : Nat) ({ cls := "ThrowReports$Things", name := "haveRoom", desc := "(JJ)Z" } : Jvm.MethodName)) ∈ a_wt := a_wt_mem 479 (by decide +kernel) (by decide +kernel)
theorem k_480 : (Jvm.Cond.methodLink "ThrowReports$Things" (40 : Nat) ({ cls := "java/util/Arrays", name := "fill", desc := "([JIIJ)V" } : Jvm.MethodName)) ∈ a_wt := a_wt_mem 480 (by decide +kernel) (by decide +kernel)
theorem k_481 : (Jvm.Cond.static ({ cls := "java/util/Arrays", name := "fill", desc := "([JIIJ)V" } : Jvm.MethodName)) ∈ a_wt := a_wt_mem 481 (by decide +kernel) (by decide +kernel)
theorem k_482 : (Jvm.Cond.code ({ cls := "java/util/Arrays", name := "fill", desc := "([JIIJ)V" } : Jvm.MethodName) prog_15_method_102_code (6 : Nat) (Option.none : Option Jvm.ClassFile.FieldType)) ∈ a_wt := a_wt_mem 482 (by decide +kernel) (by decide +kernel)
theorem k_483 : (Jvm.Cond.methodLink "java/util/Arrays" (13 : Nat) ({ cls := "java/util/Arrays", name := "rangeCheck", desc := "(III)V" } : Jvm.MethodName)) ∈ a_wt := a_wt_mem 483 (by decide +kernel) (by decide +kernel)
theorem k_484 : (Jvm.Cond.static ({ cls := "java/util/Arrays", name := "rangeCheck", desc := "(III)V" } : Jvm.MethodName)) ∈ a_wt := a_wt_mem 484 (by decide +kernel) (by decide +kernel)
theorem k_485 : (Jvm.Cond.code ({ cls := "java/util/Arrays", name := "rangeCheck", desc := "(III)V" } : Jvm.MethodName) prog_15_method_30_code (3 : Nat) (Option.none : Option Jvm.ClassFile.FieldType)) ∈ a_wt := a_wt_mem 485 (by decide +kernel) (by decide +kernel)
theorem k_486 : (Jvm.Cond.methodLink "ThrowReports$Machine" (75 : Nat) ({ cls := "ThrowReports$Machine", name := "makeDeep", desc := "(III)I" } : Jvm.MethodName)) ∈ a_wt := a_wt_mem 486 (by decide +kernel) (by decide +kernel)
theorem k_488 : (Jvm.Cond.instanceMethod ({ cls := "ThrowReports$Machine", name := "makeDeep", desc := "(III)I" } : Jvm.MethodName)) ∈ a_wt := a_wt_mem 488 (by decide +kernel) (by decide +kernel)
theorem k_489 : (Jvm.Cond.code ({ cls := "ThrowReports$Machine", name := "makeDeep", desc := "(III)I" } : Jvm.MethodName) prog_7_method_11_code (6 : Nat) (Option.some Jvm.ClassFile.FieldType.int)) ∈ a_wt := a_wt_mem 489 (by decide +kernel) (by decide +kernel)
theorem k_490 : (Jvm.Cond.methodLink "ThrowReports$Machine" (129 : Nat) ({ cls := "ThrowReports$Things", name := "write", desc := "(IIJ)V" } : Jvm.MethodName)) ∈ a_wt := a_wt_mem 490 (by decide +kernel) (by decide +kernel)
theorem k_491 : (Jvm.Cond.instanceMethod ({ cls := "ThrowReports$Things", name := "write", desc := "(IIJ)V" } : Jvm.MethodName)) ∈ a_wt := a_wt_mem 491 (by decide +kernel) (by decide +kernel)
theorem k_492 : (Jvm.Cond.selects "ThrowReports$Things" ({ cls := "ThrowReports$Things", name := "write", desc := "(IIJ)V" } : Jvm.MethodName) ({ cls := "ThrowReports$Things", name := "write", desc := "(IIJ)V" } : Jvm.MethodName)) ∈ a_wt := a_wt_mem 492 (by decide +kernel) (by decide +kernel)
theorem k_493 : (Jvm.Cond.code ({ cls := "ThrowReports$Things", name := "write", desc := "(IIJ)V" } : Jvm.MethodName) prog_10_method_10_code (5 : Nat) (Option.none : Option Jvm.ClassFile.FieldType)) ∈ a_wt := a_wt_mem 493 (by decide +kernel) (by decide +kernel)
theorem k_494 : (Jvm.Cond.methodLink "ThrowReports$Things" (56 : Nat) ({ cls := "ThrowReports$Things", name := "hasItem", desc := "(II)Z" } : Jvm.MethodName)) ∈ a_wt := a_wt_mem 494 (by decide +kernel) (by decide +kernel)
theorem k_495 : (Jvm.Cond.instanceMethod ({ cls := "ThrowReports$Things", name := "hasItem", desc := "(II)Z" } : Jvm.MethodName)) ∈ a_wt := a_wt_mem 495 (by decide +kernel) (by decide +kernel)
theorem k_496 : (Jvm.Cond.selects "ThrowReports$Things" ({ cls := "ThrowReports$Things", name := "hasItem", desc := "(II)Z" } : Jvm.MethodName) ({ cls := "ThrowReports$Things", name := "hasItem", desc := "(II)Z" } : Jvm.MethodName)) ∈ a_wt := a_wt_mem 496 (by decide +kernel) (by decide +kernel)
theorem k_497 : (Jvm.Cond.code ({ cls := "ThrowReports$Things", name := "hasItem", desc := "(II)Z" } : Jvm.MethodName) prog_10_method_8_code (3 : Nat) (Option.some Jvm.ClassFile.FieldType.boolean)) ∈ a_wt := a_wt_mem 497 (by decide +kernel) (by decide +kernel)
theorem k_498 : (Jvm.Cond.methodLink "ThrowReports$Things" (46 : Nat) ({ cls := "ThrowReports$Things", name := "kindOf", desc := "(I)I" } : Jvm.MethodName)) ∈ a_wt := a_wt_mem 498 (by decide +kernel) (by decide +kernel)
theorem k_499 : (Jvm.Cond.instanceMethod ({ cls := "ThrowReports$Things", name := "kindOf", desc := "(I)I" } : Jvm.MethodName)) ∈ a_wt := a_wt_mem 499 (by decide +kernel) (by decide +kernel)
theorem k_500 : (Jvm.Cond.selects "ThrowReports$Things" ({ cls := "ThrowReports$Things", name := "kindOf", desc := "(I)I" } : Jvm.MethodName) ({ cls := "ThrowReports$Things", name := "kindOf", desc := "(I)I" } : Jvm.MethodName)) ∈ a_wt := a_wt_mem 500 (by decide +kernel) (by decide +kernel)
theorem k_501 : (Jvm.Cond.code ({ cls := "ThrowReports$Things", name := "kindOf", desc := "(I)I" } : Jvm.MethodName) prog_10_method_6_code (2 : Nat) (Option.some Jvm.ClassFile.FieldType.int)) ∈ a_wt := a_wt_mem 501 (by decide +kernel) (by decide +kernel)
theorem k_502 : (Jvm.Cond.methodLink "ThrowReports$Things" (50 : Nat) ({ cls := "ThrowReports$Kinds", name := "isRow", desc := "(I)Z" } : Jvm.MethodName)) ∈ a_wt := a_wt_mem 502 (by decide +kernel) (by decide +kernel)
theorem k_503 : (Jvm.Cond.static ({ cls := "ThrowReports$Kinds", name := "isRow", desc := "(I)Z" } : Jvm.MethodName)) ∈ a_wt := a_wt_mem 503 (by decide +kernel) (by decide +kernel)
theorem k_504 : (Jvm.Cond.code ({ cls := "ThrowReports$Kinds", name := "isRow", desc := "(I)Z" } : Jvm.MethodName) prog_6_method_9_code (1 : Nat) (Option.some Jvm.ClassFile.FieldType.boolean)) ∈ a_wt := a_wt_mem 504 (by decide +kernel) (by decide +kernel)
theorem k_505 : (Jvm.Cond.methodLink "ThrowReports$Things" (60 : Nat) ({ cls := "ThrowReports$Things", name := "asItem", desc := "(IJ)J" } : Jvm.MethodName)) ∈ a_wt := a_wt_mem 505 (by decide +kernel) (by decide +kernel)
theorem k_506 : (Jvm.Cond.static ({ cls := "ThrowReports$Things", name := "asItem", desc := "(IJ)J" } : Jvm.MethodName)) ∈ a_wt := a_wt_mem 506 (by decide +kernel) (by decide +kernel)
theorem k_507 : (Jvm.Cond.code ({ cls := "ThrowReports$Things", name := "asItem", desc := "(IJ)J" } : Jvm.MethodName) prog_10_method_11_code (3 : Nat) (Option.some Jvm.ClassFile.FieldType.long)) ∈ a_wt := a_wt_mem 507 (by decide +kernel) (by decide +kernel)
theorem k_508 : (Jvm.Cond.constantLong "ThrowReports$Things" (64 : Nat) (9223372036854775807 : Int64)) ∈ a_wt := a_wt_mem 508 (by decide +kernel) (by decide +kernel)
theorem k_509 : (Jvm.Cond.constantLong "ThrowReports$Things" (66 : Nat) (9218868437227405312 : Int64)) ∈ a_wt := a_wt_mem 509 (by decide +kernel) (by decide +kernel)
theorem k_510 : (Jvm.Cond.constantLong "ThrowReports$Things" (68 : Nat) (9221120237041090560 : Int64)) ∈ a_wt := a_wt_mem 510 (by decide +kernel) (by decide +kernel)
theorem k_511 : (Jvm.Cond.methodLink "ThrowReports$Machine" (78 : Nat) ({ cls := "ThrowReports$Machine", name := "makeFigure", desc := "(III)I" } : Jvm.MethodName)) ∈ a_wt := a_wt_mem 511 (by decide +kernel) (by decide +kernel)
theorem k_513 : (Jvm.Cond.instanceMethod ({ cls := "ThrowReports$Machine", name := "makeFigure", desc := "(III)I" } : Jvm.MethodName)) ∈ a_wt := a_wt_mem 513 (by decide +kernel) (by decide +kernel)
theorem k_514 : (Jvm.Cond.code ({ cls := "ThrowReports$Machine", name := "makeFigure", desc := "(III)I" } : Jvm.MethodName) prog_7_method_12_code (4 : Nat) (Option.some Jvm.ClassFile.FieldType.int)) ∈ a_wt := a_wt_mem 514 (by decide +kernel) (by decide +kernel)
theorem k_515 : (Jvm.Cond.methodLink "ThrowReports$Machine" (133 : Nat) ({ cls := "ThrowReports$Things", name := "addFigure", desc := "(II)I" } : Jvm.MethodName)) ∈ a_wt := a_wt_mem 515 (by decide +kernel) (by decide +kernel)
theorem k_516 : (Jvm.Cond.instanceMethod ({ cls := "ThrowReports$Things", name := "addFigure", desc := "(II)I" } : Jvm.MethodName)) ∈ a_wt := a_wt_mem 516 (by decide +kernel) (by decide +kernel)
theorem k_517 : (Jvm.Cond.selects "ThrowReports$Things" ({ cls := "ThrowReports$Things", name := "addFigure", desc := "(II)I" } : Jvm.MethodName) ({ cls := "ThrowReports$Things", name := "addFigure", desc := "(II)I" } : Jvm.MethodName)) ∈ a_wt := a_wt_mem 517 (by decide +kernel) (by decide +kernel)
theorem k_518 : (Jvm.Cond.code ({ cls := "ThrowReports$Things", name := "addFigure", desc := "(II)I" } : Jvm.MethodName) prog_10_method_4_code (3 : Nat) (Option.some Jvm.ClassFile.FieldType.int)) ∈ a_wt := a_wt_mem 518 (by decide +kernel) (by decide +kernel)
theorem k_519 : (Jvm.Cond.methodLink "ThrowReports$Machine" (81 : Nat) ({ cls := "ThrowReports$Machine", name := "move", desc := "(III)I" } : Jvm.MethodName)) ∈ a_wt := a_wt_mem 519 (by decide +kernel) (by decide +kernel)
theorem k_521 : (Jvm.Cond.instanceMethod ({ cls := "ThrowReports$Machine", name := "move", desc := "(III)I" } : Jvm.MethodName)) ∈ a_wt := a_wt_mem 521 (by decide +kernel) (by decide +kernel)
theorem k_522 : (Jvm.Cond.code ({ cls := "ThrowReports$Machine", name := "move", desc := "(III)I" } : Jvm.MethodName) prog_7_method_13_code (5 : Nat) (Option.some Jvm.ClassFile.FieldType.int)) ∈ a_wt := a_wt_mem 522 (by decide +kernel) (by decide +kernel)
theorem k_523 : (Jvm.Cond.methodLink "ThrowReports$Machine" (136 : Nat) ({ cls := "ThrowReports$Machine", name := "unlessAs", desc := "(II)I" } : Jvm.MethodName)) ∈ a_wt := a_wt_mem 523 (by decide +kernel) (by decide +kernel)
theorem k_525 : (Jvm.Cond.instanceMethod ({ cls := "ThrowReports$Machine", name := "unlessAs", desc := "(II)I" } : Jvm.MethodName)) ∈ a_wt := a_wt_mem 525 (by decide +kernel) (by decide +kernel)
theorem k_526 : (Jvm.Cond.code ({ cls := "ThrowReports$Machine", name := "unlessAs", desc := "(II)I" } : Jvm.MethodName) prog_7_method_7_code (3 : Nat) (Option.some Jvm.ClassFile.FieldType.int)) ∈ a_wt := a_wt_mem 526 (by decide +kernel) (by decide +kernel)
theorem k_527 : (Jvm.Cond.methodLink "ThrowReports$Machine" (116 : Nat) ({ cls := "ThrowReports$Machine", name := "holds", desc := "(II)Z" } : Jvm.MethodName)) ∈ a_wt := a_wt_mem 527 (by decide +kernel) (by decide +kernel)
theorem k_528 : (Jvm.Cond.instanceMethod ({ cls := "ThrowReports$Machine", name := "holds", desc := "(II)Z" } : Jvm.MethodName)) ∈ a_wt := a_wt_mem 528 (by decide +kernel) (by decide +kernel)
theorem k_529 : (Jvm.Cond.selects "ThrowReports$Machine" ({ cls := "ThrowReports$Machine", name := "holds", desc := "(II)Z" } : Jvm.MethodName) ({ cls := "ThrowReports$Machine", name := "holds", desc := "(II)Z" } : Jvm.MethodName)) ∈ a_wt := a_wt_mem 529 (by decide +kernel) (by decide +kernel)
theorem k_530 : (Jvm.Cond.code ({ cls := "ThrowReports$Machine", name := "holds", desc := "(II)Z" } : Jvm.MethodName) prog_7_method_4_code (3 : Nat) (Option.some Jvm.ClassFile.FieldType.boolean)) ∈ a_wt := a_wt_mem 530 (by decide +kernel) (by decide +kernel)
theorem k_531 : (Jvm.Cond.methodLink "ThrowReports$Machine" (58 : Nat) ({ cls := "ThrowReports$Kinds", name := "thoseThatAre", desc := "(I)I" } : Jvm.MethodName)) ∈ a_wt := a_wt_mem 531 (by decide +kernel) (by decide +kernel)
theorem k_532 : (Jvm.Cond.static ({ cls := "ThrowReports$Kinds", name := "thoseThatAre", desc := "(I)I" } : Jvm.MethodName)) ∈ a_wt := a_wt_mem 532 (by decide +kernel) (by decide +kernel)
theorem k_533 : (Jvm.Cond.code ({ cls := "ThrowReports$Kinds", name := "thoseThatAre", desc := "(I)I" } : Jvm.MethodName) prog_6_method_4_code (1 : Nat) (Option.some Jvm.ClassFile.FieldType.int)) ∈ a_wt := a_wt_mem 533 (by decide +kernel) (by decide +kernel)
theorem k_534 : (Jvm.Cond.fieldLink "ThrowReports$Kinds" (7 : Nat) "ThrowReports$Kinds" "ARE" "[I") ∈ a_wt := a_wt_mem 534 (by decide +kernel) (by decide +kernel)
theorem k_536 : (Jvm.Cond.methodLink "ThrowReports$Machine" (64 : Nat) ({ cls := "ThrowReports$Things", name := "kindOf", desc := "(I)I" } : Jvm.MethodName)) ∈ a_wt := a_wt_mem 536 (by decide +kernel) (by decide +kernel)
theorem k_537 : (Jvm.Cond.methodLink "ThrowReports$Machine" (67 : Nat) ({ cls := "ThrowReports$Kinds", name := "has", desc := "(II)Z" } : Jvm.MethodName)) ∈ a_wt := a_wt_mem 537 (by decide +kernel) (by decide +kernel)
theorem k_538 : (Jvm.Cond.static ({ cls := "ThrowReports$Kinds", name := "has", desc := "(II)Z" } : Jvm.MethodName)) ∈ a_wt := a_wt_mem 538 (by decide +kernel) (by decide +kernel)
theorem k_539 : (Jvm.Cond.code ({ cls := "ThrowReports$Kinds", name := "has", desc := "(II)Z" } : Jvm.MethodName) prog_6_method_3_code (2 : Nat) (Option.some Jvm.ClassFile.FieldType.boolean)) ∈ a_wt := a_wt_mem 539 (by decide +kernel) (by decide +kernel)
theorem k_540 : (Jvm.Cond.methodLink "ThrowReports$Machine" (84 : Nat) ({ cls := "ThrowReports$Machine", name := "get", desc := "(IIII)I" } : Jvm.MethodName)) ∈ a_wt := a_wt_mem 540 (by decide +kernel) (by decide +kernel)
theorem k_542 : (Jvm.Cond.instanceMethod ({ cls := "ThrowReports$Machine", name := "get", desc := "(IIII)I" } : Jvm.MethodName)) ∈ a_wt := a_wt_mem 542 (by decide +kernel) (by decide +kernel)
theorem k_543 : (Jvm.Cond.code ({ cls := "ThrowReports$Machine", name := "get", desc := "(IIII)I" } : Jvm.MethodName) prog_7_method_14_code (6 : Nat) (Option.some Jvm.ClassFile.FieldType.int)) ∈ a_wt := a_wt_mem 543 (by decide +kernel) (by decide +kernel)
theorem k_544 : (Jvm.Cond.methodLink "ThrowReports$Machine" (139 : Nat) ({ cls := "ThrowReports$Machine", name := "unlessItem", desc := "(III)I" } : Jvm.MethodName)) ∈ a_wt := a_wt_mem 544 (by decide +kernel) (by decide +kernel)
theorem k_546 : (Jvm.Cond.instanceMethod ({ cls := "ThrowReports$Machine", name := "unlessItem", desc := "(III)I" } : Jvm.MethodName)) ∈ a_wt := a_wt_mem 546 (by decide +kernel) (by decide +kernel)
theorem k_547 : (Jvm.Cond.code ({ cls := "ThrowReports$Machine", name := "unlessItem", desc := "(III)I" } : Jvm.MethodName) prog_7_method_9_code (4 : Nat) (Option.some Jvm.ClassFile.FieldType.int)) ∈ a_wt := a_wt_mem 547 (by decide +kernel) (by decide +kernel)
theorem k_548 : (Jvm.Cond.methodLink "ThrowReports$Machine" (119 : Nat) ({ cls := "ThrowReports$Things", name := "hasItem", desc := "(II)Z" } : Jvm.MethodName)) ∈ a_wt := a_wt_mem 548 (by decide +kernel) (by decide +kernel)
theorem k_549 : (Jvm.Cond.methodLink "ThrowReports$Machine" (142 : Nat) ({ cls := "ThrowReports$Things", name := "read", desc := "(II)J" } : Jvm.MethodName)) ∈ a_wt := a_wt_mem 549 (by decide +kernel) (by decide +kernel)
theorem k_550 : (Jvm.Cond.instanceMethod ({ cls := "ThrowReports$Things", name := "read", desc := "(II)J" } : Jvm.MethodName)) ∈ a_wt := a_wt_mem 550 (by decide +kernel) (by decide +kernel)
theorem k_551 : (Jvm.Cond.selects "ThrowReports$Things" ({ cls := "ThrowReports$Things", name := "read", desc := "(II)J" } : Jvm.MethodName) ({ cls := "ThrowReports$Things", name := "read", desc := "(II)J" } : Jvm.MethodName)) ∈ a_wt := a_wt_mem 551 (by decide +kernel) (by decide +kernel)
theorem k_552 : (Jvm.Cond.code ({ cls := "ThrowReports$Things", name := "read", desc := "(II)J" } : Jvm.MethodName) prog_10_method_9_code (3 : Nat) (Option.some Jvm.ClassFile.FieldType.long)) ∈ a_wt := a_wt_mem 552 (by decide +kernel) (by decide +kernel)
theorem k_553 : (Jvm.Cond.methodLink "ThrowReports$Machine" (88 : Nat) ({ cls := "ThrowReports$Machine", name := "set", desc := "(IIII)I" } : Jvm.MethodName)) ∈ a_wt := a_wt_mem 553 (by decide +kernel) (by decide +kernel)
theorem k_555 : (Jvm.Cond.instanceMethod ({ cls := "ThrowReports$Machine", name := "set", desc := "(IIII)I" } : Jvm.MethodName)) ∈ a_wt := a_wt_mem 555 (by decide +kernel) (by decide +kernel)
theorem k_556 : (Jvm.Cond.code ({ cls := "ThrowReports$Machine", name := "set", desc := "(IIII)I" } : Jvm.MethodName) prog_7_method_15_code (6 : Nat) (Option.some Jvm.ClassFile.FieldType.int)) ∈ a_wt := a_wt_mem 556 (by decide +kernel) (by decide +kernel)
theorem k_557 : (Jvm.Cond.methodLink "ThrowReports$Machine" (91 : Nat) ({ cls := "ThrowReports$Machine", name := "take", desc := "(IIII)I" } : Jvm.MethodName)) ∈ a_wt := a_wt_mem 557 (by decide +kernel) (by decide +kernel)
theorem k_559 : (Jvm.Cond.instanceMethod ({ cls := "ThrowReports$Machine", name := "take", desc := "(IIII)I" } : Jvm.MethodName)) ∈ a_wt := a_wt_mem 559 (by decide +kernel) (by decide +kernel)
theorem k_560 : (Jvm.Cond.code ({ cls := "ThrowReports$Machine", name := "take", desc := "(IIII)I" } : Jvm.MethodName) prog_7_method_16_code (6 : Nat) (Option.some Jvm.ClassFile.FieldType.int)) ∈ a_wt := a_wt_mem 560 (by decide +kernel) (by decide +kernel)
theorem k_561 : (Jvm.Cond.methodLink "ThrowReports$Machine" (94 : Nat) ({ cls := "ThrowReports$Machine", name := "lay", desc := "(IIII)I" } : Jvm.MethodName)) ∈ a_wt := a_wt_mem 561 (by decide +kernel) (by decide +kernel)
theorem k_563 : (Jvm.Cond.instanceMethod ({ cls := "ThrowReports$Machine", name := "lay", desc := "(IIII)I" } : Jvm.MethodName)) ∈ a_wt := a_wt_mem 563 (by decide +kernel) (by decide +kernel)
theorem k_564 : (Jvm.Cond.code ({ cls := "ThrowReports$Machine", name := "lay", desc := "(IIII)I" } : Jvm.MethodName) prog_7_method_17_code (6 : Nat) (Option.some Jvm.ClassFile.FieldType.int)) ∈ a_wt := a_wt_mem 564 (by decide +kernel) (by decide +kernel)
theorem k_565 : (Jvm.Cond.methodLink "ThrowReports$Machine" (146 : Nat) ({ cls := "ThrowReports$Kinds", name := "ofItems", desc := "(I)I" } : Jvm.MethodName)) ∈ a_wt := a_wt_mem 565 (by decide +kernel) (by decide +kernel)
theorem k_566 : (Jvm.Cond.static ({ cls := "ThrowReports$Kinds", name := "ofItems", desc := "(I)I" } : Jvm.MethodName)) ∈ a_wt := a_wt_mem 566 (by decide +kernel) (by decide +kernel)
theorem k_567 : (Jvm.Cond.code ({ cls := "ThrowReports$Kinds", name := "ofItems", desc := "(I)I" } : Jvm.MethodName) prog_6_method_8_code (1 : Nat) (Option.some Jvm.ClassFile.FieldType.int)) ∈ a_wt := a_wt_mem 567 (by decide +kernel) (by decide +kernel)
theorem k_568 : (Jvm.Cond.fieldLink "ThrowReports$Kinds" (27 : Nat) "ThrowReports$Kinds" "ITEMS" "[I") ∈ a_wt := a_wt_mem 568 (by decide +kernel) (by decide +kernel)
theorem k_570 : (Jvm.Cond.methodLink "ThrowReports$Machine" (149 : Nat) ({ cls := "ThrowReports$Machine", name := "kindIn", desc := "(I)I" } : Jvm.MethodName)) ∈ a_wt := a_wt_mem 570 (by decide +kernel) (by decide +kernel)
theorem k_572 : (Jvm.Cond.instanceMethod ({ cls := "ThrowReports$Machine", name := "kindIn", desc := "(I)I" } : Jvm.MethodName)) ∈ a_wt := a_wt_mem 572 (by decide +kernel) (by decide +kernel)
theorem k_573 : (Jvm.Cond.code ({ cls := "ThrowReports$Machine", name := "kindIn", desc := "(I)I" } : Jvm.MethodName) prog_7_method_6_code (2 : Nat) (Option.some Jvm.ClassFile.FieldType.int)) ∈ a_wt := a_wt_mem 573 (by decide +kernel) (by decide +kernel)
theorem k_574 : (Jvm.Cond.methodLink "ThrowReports$Machine" (97 : Nat) ({ cls := "ThrowReports$Machine", name := "length", desc := "(III)I" } : Jvm.MethodName)) ∈ a_wt := a_wt_mem 574 (by decide +kernel) (by decide +kernel)
theorem k_576 : (Jvm.Cond.instanceMethod ({ cls := "ThrowReports$Machine", name := "length", desc := "(III)I" } : Jvm.MethodName)) ∈ a_wt := a_wt_mem 576 (by decide +kernel) (by decide +kernel)
theorem k_577 : (Jvm.Cond.code ({ cls := "ThrowReports$Machine", name := "length", desc := "(III)I" } : Jvm.MethodName) prog_7_method_18_code (5 : Nat) (Option.some Jvm.ClassFile.FieldType.int)) ∈ a_wt := a_wt_mem 577 (by decide +kernel) (by decide +kernel)
theorem k_578 : (Jvm.Cond.methodLink "ThrowReports$Machine" (152 : Nat) ({ cls := "ThrowReports$Machine", name := "unlessSomething", desc := "(II)I" } : Jvm.MethodName)) ∈ a_wt := a_wt_mem 578 (by decide +kernel) (by decide +kernel)
theorem k_580 : (Jvm.Cond.instanceMethod ({ cls := "ThrowReports$Machine", name := "unlessSomething", desc := "(II)I" } : Jvm.MethodName)) ∈ a_wt := a_wt_mem 580 (by decide +kernel) (by decide +kernel)
theorem k_581 : (Jvm.Cond.code ({ cls := "ThrowReports$Machine", name := "unlessSomething", desc := "(II)I" } : Jvm.MethodName) prog_7_method_8_code (3 : Nat) (Option.some Jvm.ClassFile.FieldType.int)) ∈ a_wt := a_wt_mem 581 (by decide +kernel) (by decide +kernel)
theorem k_582 : (Jvm.Cond.methodLink "ThrowReports$Machine" (155 : Nat) ({ cls := "ThrowReports$Things", name := "sizeOf", desc := "(I)I" } : Jvm.MethodName)) ∈ a_wt := a_wt_mem 582 (by decide +kernel) (by decide +kernel)
theorem k_583 : (Jvm.Cond.instanceMethod ({ cls := "ThrowReports$Things", name := "sizeOf", desc := "(I)I" } : Jvm.MethodName)) ∈ a_wt := a_wt_mem 583 (by decide +kernel) (by decide +kernel)
theorem k_584 : (Jvm.Cond.selects "ThrowReports$Things" ({ cls := "ThrowReports$Things", name := "sizeOf", desc := "(I)I" } : Jvm.MethodName) ({ cls := "ThrowReports$Things", name := "sizeOf", desc := "(I)I" } : Jvm.MethodName)) ∈ a_wt := a_wt_mem 584 (by decide +kernel) (by decide +kernel)
theorem k_585 : (Jvm.Cond.code ({ cls := "ThrowReports$Things", name := "sizeOf", desc := "(I)I" } : Jvm.MethodName) prog_10_method_7_code (2 : Nat) (Option.some Jvm.ClassFile.FieldType.int)) ∈ a_wt := a_wt_mem 585 (by decide +kernel) (by decide +kernel)
theorem k_586 : (Jvm.Cond.methodLink "ThrowReports$Machine" (100 : Nat) ({ cls := "ThrowReports$Machine", name := "cloneRow", desc := "(II)I" } : Jvm.MethodName)) ∈ a_wt := a_wt_mem 586 (by decide +kernel) (by decide +kernel)
theorem k_588 : (Jvm.Cond.instanceMethod ({ cls := "ThrowReports$Machine", name := "cloneRow", desc := "(II)I" } : Jvm.MethodName)) ∈ a_wt := a_wt_mem 588 (by decide +kernel) (by decide +kernel)
theorem k_589 : (Jvm.Cond.code ({ cls := "ThrowReports$Machine", name := "cloneRow", desc := "(II)I" } : Jvm.MethodName) prog_7_method_19_code (6 : Nat) (Option.some Jvm.ClassFile.FieldType.int)) ∈ a_wt := a_wt_mem 589 (by decide +kernel) (by decide +kernel)
theorem k_590 : (Jvm.Cond.methodLink "ThrowReports$Machine" (158 : Nat) ({ cls := "ThrowReports$Things", name := "bring", desc := "(IIIII)I" } : Jvm.MethodName)) ∈ a_wt := a_wt_mem 590 (by decide +kernel) (by decide +kernel)
theorem k_591 : (Jvm.Cond.instanceMethod ({ cls := "ThrowReports$Things", name := "bring", desc := "(IIIII)I" } : Jvm.MethodName)) ∈ a_wt := a_wt_mem 591 (by decide +kernel) (by decide +kernel)
theorem k_592 : (Jvm.Cond.selects "ThrowReports$Things" ({ cls := "ThrowReports$Things", name := "bring", desc := "(IIIII)I" } : Jvm.MethodName) ({ cls := "ThrowReports$Things", name := "bring", desc := "(IIIII)I" } : Jvm.MethodName)) ∈ a_wt := a_wt_mem 592 (by decide +kernel) (by decide +kernel)
theorem k_593 : (Jvm.Cond.code ({ cls := "ThrowReports$Things", name := "bring", desc := "(IIIII)I" } : Jvm.MethodName) prog_10_method_13_code (6 : Nat) (Option.some Jvm.ClassFile.FieldType.int)) ∈ a_wt := a_wt_mem 593 (by decide +kernel) (by decide +kernel)
theorem k_594 : (Jvm.Cond.methodLink "ThrowReports$Things" (70 : Nat) ({ cls := "ThrowReports$Things", name := "hasPart", desc := "(III)Z" } : Jvm.MethodName)) ∈ a_wt := a_wt_mem 594 (by decide +kernel) (by decide +kernel)
theorem k_595 : (Jvm.Cond.instanceMethod ({ cls := "ThrowReports$Things", name := "hasPart", desc := "(III)Z" } : Jvm.MethodName)) ∈ a_wt := a_wt_mem 595 (by decide +kernel) (by decide +kernel)
theorem k_596 : (Jvm.Cond.selects "ThrowReports$Things" ({ cls := "ThrowReports$Things", name := "hasPart", desc := "(III)Z" } : Jvm.MethodName) ({ cls := "ThrowReports$Things", name := "hasPart", desc := "(III)Z" } : Jvm.MethodName)) ∈ a_wt := a_wt_mem 596 (by decide +kernel) (by decide +kernel)
theorem k_597 : (Jvm.Cond.code ({ cls := "ThrowReports$Things", name := "hasPart", desc := "(III)Z" } : Jvm.MethodName) prog_10_method_12_code (4 : Nat) (Option.some Jvm.ClassFile.FieldType.boolean)) ∈ a_wt := a_wt_mem 597 (by decide +kernel) (by decide +kernel)
theorem k_598 : (Jvm.Cond.methodLink "ThrowReports$Things" (74 : Nat) ({ cls := "ThrowReports$Things", name := "bringOneByOne", desc := "(IIIII)I" } : Jvm.MethodName)) ∈ a_wt := a_wt_mem 598 (by decide +kernel) (by decide +kernel)
theorem k_600 : (Jvm.Cond.instanceMethod ({ cls := "ThrowReports$Things", name := "bringOneByOne", desc := "(IIIII)I" } : Jvm.MethodName)) ∈ a_wt := a_wt_mem 600 (by decide +kernel) (by decide +kernel)
theorem k_601 : (Jvm.Cond.code ({ cls := "ThrowReports$Things", name := "bringOneByOne", desc := "(IIIII)I" } : Jvm.MethodName) prog_10_method_14_code (11 : Nat) (Option.some Jvm.ClassFile.FieldType.int)) ∈ a_wt := a_wt_mem 601 (by decide +kernel) (by decide +kernel)
theorem k_602 : (Jvm.Cond.methodLink "ThrowReports$Things" (84 : Nat) ({ cls := "ThrowReports$Kinds", name := "ofItems", desc := "(I)I" } : Jvm.MethodName)) ∈ a_wt := a_wt_mem 602 (by decide +kernel) (by decide +kernel)
theorem k_603 : (Jvm.Cond.methodLink "ThrowReports$Things" (87 : Nat) ({ cls := "ThrowReports$Kinds", name := "is", desc := "(II)Z" } : Jvm.MethodName)) ∈ a_wt := a_wt_mem 603 (by decide +kernel) (by decide +kernel)
theorem k_604 : (Jvm.Cond.static ({ cls := "ThrowReports$Kinds", name := "is", desc := "(II)Z" } : Jvm.MethodName)) ∈ a_wt := a_wt_mem 604 (by decide +kernel) (by decide +kernel)
theorem k_605 : (Jvm.Cond.code ({ cls := "ThrowReports$Kinds", name := "is", desc := "(II)Z" } : Jvm.MethodName) prog_6_method_5_code (2 : Nat) (Option.some Jvm.ClassFile.FieldType.boolean)) ∈ a_wt := a_wt_mem 605 (by decide +kernel) (by decide +kernel)
theorem k_606 : (Jvm.Cond.methodLink "ThrowReports$Kinds" (13 : Nat) ({ cls := "ThrowReports$Kinds", name := "thoseThatAre", desc := "(I)I" } : Jvm.MethodName)) ∈ a_wt := a_wt_mem 606 (by decide +kernel) (by decide +kernel)
theorem k_607 : (Jvm.Cond.methodLink "ThrowReports$Kinds" (17 : Nat) ({ cls := "ThrowReports$Kinds", name := "has", desc := "(II)Z" } : Jvm.MethodName)) ∈ a_wt := a_wt_mem 607 (by decide +kernel) (by decide +kernel)
theorem k_608 : (Jvm.Cond.methodLink "ThrowReports$Things" (78 : Nat) ({ cls := "java/lang/System", name := "arraycopy", desc := "(Ljava/lang/Object;ILjava/lang/Object;II)V" } : Jvm.MethodName)) ∈ a_wt := a_wt_mem 608 (by decide +kernel) (by decide +kernel)
theorem k_609 : (Jvm.Cond.static ({ cls := "java/lang/System", name := "arraycopy", desc := "(Ljava/lang/Object;ILjava/lang/Object;II)V" } : Jvm.MethodName)) ∈ a_wt := a_wt_mem 609 (by decide +kernel) (by decide +kernel)
theorem k_610 : (Jvm.Cond.native ({ cls := "java/lang/System", name := "arraycopy", desc := "(Ljava/lang/Object;ILjava/lang/Object;II)V" } : Jvm.MethodName)) ∈ a_wt := a_wt_mem 610 (by decide +kernel) (by decide +kernel)
theorem k_611 : (Jvm.Cond.methodLink "ThrowReports$Machine" (104 : Nat) ({ cls := "ThrowReports$Machine", name := "tell", desc := "(II)I" } : Jvm.MethodName)) ∈ a_wt := a_wt_mem 611 (by decide +kernel) (by decide +kernel)
theorem k_613 : (Jvm.Cond.instanceMethod ({ cls := "ThrowReports$Machine", name := "tell", desc := "(II)I" } : Jvm.MethodName)) ∈ a_wt := a_wt_mem 613 (by decide +kernel) (by decide +kernel)
theorem k_614 : (Jvm.Cond.code ({ cls := "ThrowReports$Machine", name := "tell", desc := "(II)I" } : Jvm.MethodName) prog_7_method_20_code (5 : Nat) (Option.some Jvm.ClassFile.FieldType.int)) ∈ a_wt := a_wt_mem 614 (by decide +kernel) (by decide +kernel)
theorem k_615 : (Jvm.Cond.methodLink "ThrowReports$Machine" (107 : Nat) ({ cls := "ThrowReports$Machine", name := "copy", desc := "(IIII)I" } : Jvm.MethodName)) ∈ a_wt := a_wt_mem 615 (by decide +kernel) (by decide +kernel)
theorem k_617 : (Jvm.Cond.instanceMethod ({ cls := "ThrowReports$Machine", name := "copy", desc := "(IIII)I" } : Jvm.MethodName)) ∈ a_wt := a_wt_mem 617 (by decide +kernel) (by decide +kernel)
theorem k_618 : (Jvm.Cond.code ({ cls := "ThrowReports$Machine", name := "copy", desc := "(IIII)I" } : Jvm.MethodName) prog_7_method_21_code (9 : Nat) (Option.some Jvm.ClassFile.FieldType.int)) ∈ a_wt := a_wt_mem 618 (by decide +kernel) (by decide +kernel)
theorem k_619 : (Jvm.Cond.methodLink "ThrowReports$Machine" (162 : Nat) ({ cls := "ThrowReports$Kinds", name := "thoseThatMeet", desc := "(I)I" } : Jvm.MethodName)) ∈ a_wt := a_wt_mem 619 (by decide +kernel) (by decide +kernel)
theorem k_620 : (Jvm.Cond.static ({ cls := "ThrowReports$Kinds", name := "thoseThatMeet", desc := "(I)I" } : Jvm.MethodName)) ∈ a_wt := a_wt_mem 620 (by decide +kernel) (by decide +kernel)
theorem k_621 : (Jvm.Cond.code ({ cls := "ThrowReports$Kinds", name := "thoseThatMeet", desc := "(I)I" } : Jvm.MethodName) prog_6_method_6_code (1 : Nat) (Option.some Jvm.ClassFile.FieldType.int)) ∈ a_wt := a_wt_mem 621 (by decide +kernel) (by decide +kernel)
theorem k_622 : (Jvm.Cond.fieldLink "ThrowReports$Kinds" (21 : Nat) "ThrowReports$Kinds" "MEET" "[I") ∈ a_wt := a_wt_mem 622 (by decide +kernel) (by decide +kernel)
theorem k_624 : (Jvm.Cond.methodLink "ThrowReports$Machine" (165 : Nat) ({ cls := "ThrowReports$Things", name := "hasPart", desc := "(III)Z" } : Jvm.MethodName)) ∈ a_wt := a_wt_mem 624 (by decide +kernel) (by decide +kernel)
theorem k_625 : (Jvm.Cond.methodLink "ThrowReports$Machine" (110 : Nat) ({ cls := "ThrowReports$Machine", name := "divide", desc := "(III)I" } : Jvm.MethodName)) ∈ a_wt := a_wt_mem 625 (by decide +kernel) (by decide +kernel)
theorem k_627 : (Jvm.Cond.instanceMethod ({ cls := "ThrowReports$Machine", name := "divide", desc := "(III)I" } : Jvm.MethodName)) ∈ a_wt := a_wt_mem 627 (by decide +kernel) (by decide +kernel)
theorem k_628 : (Jvm.Cond.code ({ cls := "ThrowReports$Machine", name := "divide", desc := "(III)I" } : Jvm.MethodName) prog_7_method_22_code (4 : Nat) (Option.some Jvm.ClassFile.FieldType.int)) ∈ a_wt := a_wt_mem 628 (by decide +kernel) (by decide +kernel)
theorem k_629 : (Jvm.Cond.methodLink "ThrowReports$Machine" (113 : Nat) ({ cls := "ThrowReports$Machine", name := "rest", desc := "(III)I" } : Jvm.MethodName)) ∈ a_wt := a_wt_mem 629 (by decide +kernel) (by decide +kernel)
theorem k_631 : (Jvm.Cond.instanceMethod ({ cls := "ThrowReports$Machine", name := "rest", desc := "(III)I" } : Jvm.MethodName)) ∈ a_wt := a_wt_mem 631 (by decide +kernel) (by decide +kernel)
theorem k_632 : (Jvm.Cond.code ({ cls := "ThrowReports$Machine", name := "rest", desc := "(III)I" } : Jvm.MethodName) prog_7_method_23_code (4 : Nat) (Option.some Jvm.ClassFile.FieldType.int)) ∈ a_wt := a_wt_mem 632 (by decide +kernel) (by decide +kernel)
theorem k_633 : (Jvm.Cond.selects "ThrowReports$Both" ({ cls := "ThrowReports$Node", name := "done", desc := "(LThrowReports$Machine;)I" } : Jvm.MethodName) ({ cls := "ThrowReports$Both", name := "done", desc := "(LThrowReports$Machine;)I" } : Jvm.MethodName)) ∈ a_wt := a_wt_mem 633 (by decide +kernel) (by decide +kernel)
theorem k_634 : (Jvm.Cond.instanceMethod ({ cls := "ThrowReports$Both", name := "done", desc := "(LThrowReports$Machine;)I" } : Jvm.MethodName)) ∈ a_wt := a_wt_mem 634 (by decide +kernel) (by decide +kernel)
theorem k_635 : (Jvm.Cond.code ({ cls := "ThrowReports$Both", name := "done", desc := "(LThrowReports$Machine;)I" } : Jvm.MethodName) prog_3_method_2_code (3 : Nat) (Option.some Jvm.ClassFile.FieldType.int)) ∈ a_wt := a_wt_mem 635 (by decide +kernel) (by decide +kernel)
theorem k_636 : (Jvm.Cond.methodLink "ThrowReports$Both" (25 : Nat) ({ cls := "ThrowReports$Node", name := "done", desc := "(LThrowReports$Machine;)I" } : Jvm.MethodName)) ∈ a_wt := a_wt_mem 636 (by decide +kernel) (by decide +kernel)
theorem k_637 : (Jvm.Cond.instanceMethod ({ cls := "ThrowReports$Choice", name := "done", desc := "(LThrowReports$Machine;)I" } : Jvm.MethodName)) ∈ a_wt := a_wt_mem 637 (by decide +kernel) (by decide +kernel)
theorem k_638 : (Jvm.Cond.code ({ cls := "ThrowReports$Choice", name := "done", desc := "(LThrowReports$Machine;)I" } : Jvm.MethodName) prog_4_method_2_code (2 : Nat) (Option.some Jvm.ClassFile.FieldType.int)) ∈ a_wt := a_wt_mem 638 (by decide +kernel) (by decide +kernel)
theorem k_639 : (Jvm.Cond.methodLink "ThrowReports$Choice" (32 : Nat) ({ cls := "ThrowReports$Machine", name := "holds", desc := "(II)Z" } : Jvm.MethodName)) ∈ a_wt := a_wt_mem 639 (by decide +kernel) (by decide +kernel)
theorem k_640 : (Jvm.Cond.methodLink "ThrowReports$Choice" (38 : Nat) ({ cls := "ThrowReports$Node", name := "done", desc := "(LThrowReports$Machine;)I" } : Jvm.MethodName)) ∈ a_wt := a_wt_mem 640 (by decide +kernel) (by decide +kernel)
theorem k_641 : (Jvm.Cond.instanceMethod ({ cls := "ThrowReports$Guard", name := "done", desc := "(LThrowReports$Machine;)I" } : Jvm.MethodName)) ∈ a_wt := a_wt_mem 641 (by decide +kernel) (by decide +kernel)
theorem k_642 : (Jvm.Cond.code ({ cls := "ThrowReports$Guard", name := "done", desc := "(LThrowReports$Machine;)I" } : Jvm.MethodName) prog_5_method_3_code (4 : Nat) (Option.some Jvm.ClassFile.FieldType.int)) ∈ a_wt := a_wt_mem 642 (by decide +kernel) (by decide +kernel)
theorem k_643 : (Jvm.Cond.methodLink "ThrowReports$Guard" (41 : Nat) ({ cls := "ThrowReports$Node", name := "done", desc := "(LThrowReports$Machine;)I" } : Jvm.MethodName)) ∈ a_wt := a_wt_mem 643 (by decide +kernel) (by decide +kernel)
theorem k_644 : (Jvm.Cond.methodLink "ThrowReports$Guard" (45 : Nat) ({ cls := "ThrowReports$Guard", name := "takes", desc := "(I)Z" } : Jvm.MethodName)) ∈ a_wt := a_wt_mem 644 (by decide +kernel) (by decide +kernel)
theorem k_646 : (Jvm.Cond.instanceMethod ({ cls := "ThrowReports$Guard", name := "takes", desc := "(I)Z" } : Jvm.MethodName)) ∈ a_wt := a_wt_mem 646 (by decide +kernel) (by decide +kernel)
theorem k_647 : (Jvm.Cond.code ({ cls := "ThrowReports$Guard", name := "takes", desc := "(I)Z" } : Jvm.MethodName) prog_5_method_2_code (2 : Nat) (Option.some Jvm.ClassFile.FieldType.boolean)) ∈ a_wt := a_wt_mem 647 (by decide +kernel) (by decide +kernel)
theorem k_648 : (Jvm.Cond.selects "ThrowReports$Choice" ({ cls := "ThrowReports$Node", name := "done", desc := "(LThrowReports$Machine;)I" } : Jvm.MethodName) ({ cls := "ThrowReports$Choice", name := "done", desc := "(LThrowReports$Machine;)I" } : Jvm.MethodName)) ∈ a_wt := a_wt_mem 648 (by decide +kernel) (by decide +kernel)
theorem k_649 : (Jvm.Cond.selects "ThrowReports$Guard" ({ cls := "ThrowReports$Node", name := "done", desc := "(LThrowReports$Machine;)I" } : Jvm.MethodName) ({ cls := "ThrowReports$Guard", name := "done", desc := "(LThrowReports$Machine;)I" } : Jvm.MethodName)) ∈ a_wt := a_wt_mem 649 (by decide +kernel) (by decide +kernel)
theorem k_650 : (Jvm.Cond.methodLink "ThrowReportsLaw" (42 : Nat) ({ cls := "ThrowReports", name := "ran", desc := "(I)I" } : Jvm.MethodName)) ∈ a_wt := a_wt_mem 650 (by decide +kernel) (by decide +kernel)
theorem k_651 : (Jvm.Cond.instanceMethod ({ cls := "ThrowReports", name := "ran", desc := "(I)I" } : Jvm.MethodName)) ∈ a_wt := a_wt_mem 651 (by decide +kernel) (by decide +kernel)
theorem k_652 : (Jvm.Cond.selects "ThrowReports" ({ cls := "ThrowReports", name := "ran", desc := "(I)I" } : Jvm.MethodName) ({ cls := "ThrowReports", name := "ran", desc := "(I)I" } : Jvm.MethodName)) ∈ a_wt := a_wt_mem 652 (by decide +kernel) (by decide +kernel)
theorem k_653 : (Jvm.Cond.code ({ cls := "ThrowReports", name := "ran", desc := "(I)I" } : Jvm.MethodName) prog_1_method_8_code (2 : Nat) (Option.some Jvm.ClassFile.FieldType.int)) ∈ a_wt := a_wt_mem 653 (by decide +kernel) (by decide +kernel)
theorem k_654 : (Jvm.Cond.methodLink "ThrowReportsLaw" (46 : Nat) ({ cls := "ThrowReports", name := "clear", desc := "()I" } : Jvm.MethodName)) ∈ a_wt := a_wt_mem 654 (by decide +kernel) (by decide +kernel)
theorem k_655 : (Jvm.Cond.instanceMethod ({ cls := "ThrowReports", name := "clear", desc := "()I" } : Jvm.MethodName)) ∈ a_wt := a_wt_mem 655 (by decide +kernel) (by decide +kernel)
theorem k_656 : (Jvm.Cond.selects "ThrowReports" ({ cls := "ThrowReports", name := "clear", desc := "()I" } : Jvm.MethodName) ({ cls := "ThrowReports", name := "clear", desc := "()I" } : Jvm.MethodName)) ∈ a_wt := a_wt_mem 656 (by decide +kernel) (by decide +kernel)
theorem k_657 : (Jvm.Cond.code ({ cls := "ThrowReports", name := "clear", desc := "()I" } : Jvm.MethodName) prog_1_method_9_code (1 : Nat) (Option.some Jvm.ClassFile.FieldType.int)) ∈ a_wt := a_wt_mem 657 (by decide +kernel) (by decide +kernel)
theorem k_658 : (Jvm.Cond.methodLink "ThrowReports" (113 : Nat) ({ cls := "ThrowReports$Machine", name := "empty", desc := "()I" } : Jvm.MethodName)) ∈ a_wt := a_wt_mem 658 (by decide +kernel) (by decide +kernel)
theorem k_659 : (Jvm.Cond.instanceMethod ({ cls := "ThrowReports$Machine", name := "empty", desc := "()I" } : Jvm.MethodName)) ∈ a_wt := a_wt_mem 659 (by decide +kernel) (by decide +kernel)
theorem k_660 : (Jvm.Cond.selects "ThrowReports$Machine" ({ cls := "ThrowReports$Machine", name := "empty", desc := "()I" } : Jvm.MethodName) ({ cls := "ThrowReports$Machine", name := "empty", desc := "()I" } : Jvm.MethodName)) ∈ a_wt := a_wt_mem 660 (by decide +kernel) (by decide +kernel)
theorem k_661 : (Jvm.Cond.code ({ cls := "ThrowReports$Machine", name := "empty", desc := "()I" } : Jvm.MethodName) prog_7_method_3_code (1 : Nat) (Option.some Jvm.ClassFile.FieldType.int)) ∈ a_wt := a_wt_mem 661 (by decide +kernel) (by decide +kernel)
theorem k_662 : (Jvm.Cond.methodLink "ThrowReports$Machine" (45 : Nat) ({ cls := "java/util/Arrays", name := "fill", desc := "([II)V" } : Jvm.MethodName)) ∈ a_wt := a_wt_mem 662 (by decide +kernel) (by decide +kernel)
theorem k_663 : (Jvm.Cond.static ({ cls := "java/util/Arrays", name := "fill", desc := "([II)V" } : Jvm.MethodName)) ∈ a_wt := a_wt_mem 663 (by decide +kernel) (by decide +kernel)
theorem k_664 : (Jvm.Cond.code ({ cls := "java/util/Arrays", name := "fill", desc := "([II)V" } : Jvm.MethodName) prog_15_method_103_code (4 : Nat) (Option.none : Option Jvm.ClassFile.FieldType)) ∈ a_wt := a_wt_mem 664 (by decide +kernel) (by decide +kernel)
theorem k_665 : (Jvm.Cond.methodLink "ThrowReports$Machine" (51 : Nat) ({ cls := "java/util/Arrays", name := "fill", desc := "([JJ)V" } : Jvm.MethodName)) ∈ a_wt := a_wt_mem 665 (by decide +kernel) (by decide +kernel)
theorem k_666 : (Jvm.Cond.static ({ cls := "java/util/Arrays", name := "fill", desc := "([JJ)V" } : Jvm.MethodName)) ∈ a_wt := a_wt_mem 666 (by decide +kernel) (by decide +kernel)
theorem k_667 : (Jvm.Cond.code ({ cls := "java/util/Arrays", name := "fill", desc := "([JJ)V" } : Jvm.MethodName) prog_15_method_101_code (5 : Nat) (Option.none : Option Jvm.ClassFile.FieldType)) ∈ a_wt := a_wt_mem 667 (by decide +kernel) (by decide +kernel)
theorem k_668 : (Jvm.Cond.methodLink "ThrowReports$Machine" (54 : Nat) ({ cls := "ThrowReports$Things", name := "removeAll", desc := "()I" } : Jvm.MethodName)) ∈ a_wt := a_wt_mem 668 (by decide +kernel) (by decide +kernel)
theorem k_669 : (Jvm.Cond.instanceMethod ({ cls := "ThrowReports$Things", name := "removeAll", desc := "()I" } : Jvm.MethodName)) ∈ a_wt := a_wt_mem 669 (by decide +kernel) (by decide +kernel)
theorem k_670 : (Jvm.Cond.selects "ThrowReports$Things" ({ cls := "ThrowReports$Things", name := "removeAll", desc := "()I" } : Jvm.MethodName) ({ cls := "ThrowReports$Things", name := "removeAll", desc := "()I" } : Jvm.MethodName)) ∈ a_wt := a_wt_mem 670 (by decide +kernel) (by decide +kernel)
theorem k_671 : (Jvm.Cond.code ({ cls := "ThrowReports$Things", name := "removeAll", desc := "()I" } : Jvm.MethodName) prog_10_method_5_code (2 : Nat) (Option.some Jvm.ClassFile.FieldType.int)) ∈ a_wt := a_wt_mem 671 (by decide +kernel) (by decide +kernel)
theorem k_672 : (Jvm.Cond.methodLink "ThrowReportsLaw" (50 : Nat) ({ cls := "ThrowReports", name := "count", desc := "(I)I" } : Jvm.MethodName)) ∈ a_wt := a_wt_mem 672 (by decide +kernel) (by decide +kernel)
theorem k_673 : (Jvm.Cond.instanceMethod ({ cls := "ThrowReports", name := "count", desc := "(I)I" } : Jvm.MethodName)) ∈ a_wt := a_wt_mem 673 (by decide +kernel) (by decide +kernel)
theorem k_674 : (Jvm.Cond.selects "ThrowReports" ({ cls := "ThrowReports", name := "count", desc := "(I)I" } : Jvm.MethodName) ({ cls := "ThrowReports", name := "count", desc := "(I)I" } : Jvm.MethodName)) ∈ a_wt := a_wt_mem 674 (by decide +kernel) (by decide +kernel)
theorem k_675 : (Jvm.Cond.code ({ cls := "ThrowReports", name := "count", desc := "(I)I" } : Jvm.MethodName) prog_1_method_10_code (2 : Nat) (Option.some Jvm.ClassFile.FieldType.int)) ∈ a_wt := a_wt_mem 675 (by decide +kernel) (by decide +kernel)
theorem k_676 : (Jvm.Cond.methodLink "ThrowReportsLaw" (54 : Nat) ({ cls := "ThrowReports", name := "slot", desc := "(II)I" } : Jvm.MethodName)) ∈ a_wt := a_wt_mem 676 (by decide +kernel) (by decide +kernel)
theorem k_677 : (Jvm.Cond.instanceMethod ({ cls := "ThrowReports", name := "slot", desc := "(II)I" } : Jvm.MethodName)) ∈ a_wt := a_wt_mem 677 (by decide +kernel) (by decide +kernel)
theorem k_678 : (Jvm.Cond.selects "ThrowReports" ({ cls := "ThrowReports", name := "slot", desc := "(II)I" } : Jvm.MethodName) ({ cls := "ThrowReports", name := "slot", desc := "(II)I" } : Jvm.MethodName)) ∈ a_wt := a_wt_mem 678 (by decide +kernel) (by decide +kernel)
theorem k_679 : (Jvm.Cond.code ({ cls := "ThrowReports", name := "slot", desc := "(II)I" } : Jvm.MethodName) prog_1_method_11_code (4 : Nat) (Option.some Jvm.ClassFile.FieldType.int)) ∈ a_wt := a_wt_mem 679 (by decide +kernel) (by decide +kernel)
theorem k_680 : (Jvm.Cond.methodLink "ThrowReports" (133 : Nat) ({ cls := "ThrowReports$Things", name := "kindOf", desc := "(I)I" } : Jvm.MethodName)) ∈ a_wt := a_wt_mem 680 (by decide +kernel) (by decide +kernel)
theorem k_681 : (Jvm.Cond.methodLink "ThrowReports" (136 : Nat) ({ cls := "ThrowReports$Things", name := "sizeOf", desc := "(I)I" } : Jvm.MethodName)) ∈ a_wt := a_wt_mem 681 (by decide +kernel) (by decide +kernel)
theorem k_682 : (Jvm.Cond.methodLink "ThrowReportsLaw" (58 : Nat) ({ cls := "ThrowReports", name := "item", desc := "(II)J" } : Jvm.MethodName)) ∈ a_wt := a_wt_mem 682 (by decide +kernel) (by decide +kernel)
theorem k_683 : (Jvm.Cond.instanceMethod ({ cls := "ThrowReports", name := "item", desc := "(II)J" } : Jvm.MethodName)) ∈ a_wt := a_wt_mem 683 (by decide +kernel) (by decide +kernel)
theorem k_684 : (Jvm.Cond.selects "ThrowReports" ({ cls := "ThrowReports", name := "item", desc := "(II)J" } : Jvm.MethodName) ({ cls := "ThrowReports", name := "item", desc := "(II)J" } : Jvm.MethodName)) ∈ a_wt := a_wt_mem 684 (by decide +kernel) (by decide +kernel)
theorem k_685 : (Jvm.Cond.code ({ cls := "ThrowReports", name := "item", desc := "(II)J" } : Jvm.MethodName) prog_1_method_12_code (3 : Nat) (Option.some Jvm.ClassFile.FieldType.long)) ∈ a_wt := a_wt_mem 685 (by decide +kernel) (by decide +kernel)
theorem k_686 : (Jvm.Cond.methodLink "ThrowReports" (139 : Nat) ({ cls := "ThrowReports$Things", name := "read", desc := "(II)J" } : Jvm.MethodName)) ∈ a_wt := a_wt_mem 686 (by decide +kernel) (by decide +kernel)
end
section
theorem k_687 : (Jvm.Cond.methodLink "ThrowReportsLaw" (63 : Nat) ({ cls := "ThrowReports", name := "register", desc := "(I)J" } : Jvm.MethodName)) ∈ a_wt := a_wt_mem 687 (by decide +kernel) (by decide +kernel)
theorem k_688 : (Jvm.Cond.instanceMethod ({ cls := "ThrowReports", name := "register", desc := "(I)J" } : Jvm.MethodName)) ∈ a_wt := a_wt_mem 688 (by decide +kernel) (by decide +kernel)
theorem k_689 : (Jvm.Cond.selects "ThrowReports" ({ cls := "ThrowReports", name := "register", desc := "(I)J" } : Jvm.MethodName) ({ cls := "ThrowReports", name := "register", desc := "(I)J" } : Jvm.MethodName)) ∈ a_wt := a_wt_mem 689 (by decide +kernel) (by decide +kernel)
theorem k_690 : (Jvm.Cond.code ({ cls := "ThrowReports", name := "register", desc := "(I)J" } : Jvm.MethodName) prog_1_method_13_code (2 : Nat) (Option.some Jvm.ClassFile.FieldType.long)) ∈ a_wt := a_wt_mem 690 (by decide +kernel) (by decide +kernel)
theorem k_691 : (Jvm.Cond.methodLink "ThrowReportsLaw" (68 : Nat) ({ cls := "ThrowReports", name := "alike", desc := "(II)I" } : Jvm.MethodName)) ∈ a_wt := a_wt_mem 691 (by decide +kernel) (by decide +kernel)
theorem k_692 : (Jvm.Cond.instanceMethod ({ cls := "ThrowReports", name := "alike", desc := "(II)I" } : Jvm.MethodName)) ∈ a_wt := a_wt_mem 692 (by decide +kernel) (by decide +kernel)
theorem k_693 : (Jvm.Cond.selects "ThrowReports" ({ cls := "ThrowReports", name := "alike", desc := "(II)I" } : Jvm.MethodName) ({ cls := "ThrowReports", name := "alike", desc := "(II)I" } : Jvm.MethodName)) ∈ a_wt := a_wt_mem 693 (by decide +kernel) (by decide +kernel)
theorem k_694 : (Jvm.Cond.code ({ cls := "ThrowReports", name := "alike", desc := "(II)I" } : Jvm.MethodName) prog_1_method_14_code (5 : Nat) (Option.some Jvm.ClassFile.FieldType.int)) ∈ a_wt := a_wt_mem 694 (by decide +kernel) (by decide +kernel)
theorem k_695 : (Jvm.Cond.methodLink "ThrowReports" (147 : Nat) ({ cls := "ThrowReports$Things", name := "match", desc := "(II)Z" } : Jvm.MethodName)) ∈ a_wt := a_wt_mem 695 (by decide +kernel) (by decide +kernel)
theorem k_696 : (Jvm.Cond.instanceMethod ({ cls := "ThrowReports$Things", name := "match", desc := "(II)Z" } : Jvm.MethodName)) ∈ a_wt := a_wt_mem 696 (by decide +kernel) (by decide +kernel)
theorem k_697 : (Jvm.Cond.selects "ThrowReports$Things" ({ cls := "ThrowReports$Things", name := "match", desc := "(II)Z" } : Jvm.MethodName) ({ cls := "ThrowReports$Things", name := "match", desc := "(II)Z" } : Jvm.MethodName)) ∈ a_wt := a_wt_mem 697 (by decide +kernel) (by decide +kernel)
theorem k_698 : (Jvm.Cond.code ({ cls := "ThrowReports$Things", name := "match", desc := "(II)Z" } : Jvm.MethodName) prog_10_method_15_code (4 : Nat) (Option.some Jvm.ClassFile.FieldType.boolean)) ∈ a_wt := a_wt_mem 698 (by decide +kernel) (by decide +kernel)
theorem k_699 : (Jvm.Cond.methodLink "ThrowReports$Things" (90 : Nat) ({ cls := "ThrowReports$Things", name := "sizeOf", desc := "(I)I" } : Jvm.MethodName)) ∈ a_wt := a_wt_mem 699 (by decide +kernel) (by decide +kernel)
theorem k_700 : (Jvm.Cond.methodLink "ThrowReports$Things" (93 : Nat) ({ cls := "ThrowReports$Things", name := "rowsMatch", desc := "(II)Z" } : Jvm.MethodName)) ∈ a_wt := a_wt_mem 700 (by decide +kernel) (by decide +kernel)
theorem k_702 : (Jvm.Cond.instanceMethod ({ cls := "ThrowReports$Things", name := "rowsMatch", desc := "(II)Z" } : Jvm.MethodName)) ∈ a_wt := a_wt_mem 702 (by decide +kernel) (by decide +kernel)
theorem k_703 : (Jvm.Cond.code ({ cls := "ThrowReports$Things", name := "rowsMatch", desc := "(II)Z" } : Jvm.MethodName) prog_10_method_17_code (8 : Nat) (Option.some Jvm.ClassFile.FieldType.boolean)) ∈ a_wt := a_wt_mem 703 (by decide +kernel) (by decide +kernel)
theorem k_704 : (Jvm.Cond.methodLink "ThrowReports$Things" (99 : Nat) ({ cls := "ThrowReports$Things", name := "read", desc := "(II)J" } : Jvm.MethodName)) ∈ a_wt := a_wt_mem 704 (by decide +kernel) (by decide +kernel)
theorem k_705 : (Jvm.Cond.methodLink "ThrowReports$Things" (96 : Nat) ({ cls := "ThrowReports$Things", name := "numbersMatch", desc := "(II)Z" } : Jvm.MethodName)) ∈ a_wt := a_wt_mem 705 (by decide +kernel) (by decide +kernel)
theorem k_707 : (Jvm.Cond.instanceMethod ({ cls := "ThrowReports$Things", name := "numbersMatch", desc := "(II)Z" } : Jvm.MethodName)) ∈ a_wt := a_wt_mem 707 (by decide +kernel) (by decide +kernel)
theorem k_708 : (Jvm.Cond.code ({ cls := "ThrowReports$Things", name := "numbersMatch", desc := "(II)Z" } : Jvm.MethodName) prog_10_method_16_code (5 : Nat) (Option.some Jvm.ClassFile.FieldType.boolean)) ∈ a_wt := a_wt_mem 708 (by decide +kernel) (by decide +kernel)
theorem k_709 : (Jvm.Cond.methodLink "ThrowReportsLaw" (72 : Nat) ({ cls := "ThrowReports", name := "given", desc := "(II)I" } : Jvm.MethodName)) ∈ a_wt := a_wt_mem 709 (by decide +kernel) (by decide +kernel)
theorem k_710 : (Jvm.Cond.instanceMethod ({ cls := "ThrowReports", name := "given", desc := "(II)I" } : Jvm.MethodName)) ∈ a_wt := a_wt_mem 710 (by decide +kernel) (by decide +kernel)
theorem k_711 : (Jvm.Cond.selects "ThrowReports" ({ cls := "ThrowReports", name := "given", desc := "(II)I" } : Jvm.MethodName) ({ cls := "ThrowReports", name := "given", desc := "(II)I" } : Jvm.MethodName)) ∈ a_wt := a_wt_mem 711 (by decide +kernel) (by decide +kernel)
theorem k_712 : (Jvm.Cond.code ({ cls := "ThrowReports", name := "given", desc := "(II)I" } : Jvm.MethodName) prog_1_method_15_code (4 : Nat) (Option.some Jvm.ClassFile.FieldType.int)) ∈ a_wt := a_wt_mem 712 (by decide +kernel) (by decide +kernel)
theorem k_713 : (Jvm.Cond.methodLink "ThrowReports" (151 : Nat) ({ cls := "ThrowReports$State", name := "of", desc := "(I)I" } : Jvm.MethodName)) ∈ a_wt := a_wt_mem 713 (by decide +kernel) (by decide +kernel)
theorem k_714 : (Jvm.Cond.instanceMethod ({ cls := "ThrowReports$State", name := "of", desc := "(I)I" } : Jvm.MethodName)) ∈ a_wt := a_wt_mem 714 (by decide +kernel) (by decide +kernel)
theorem k_715 : (Jvm.Cond.selects "ThrowReports$State" ({ cls := "ThrowReports$State", name := "of", desc := "(I)I" } : Jvm.MethodName) ({ cls := "ThrowReports$State", name := "of", desc := "(I)I" } : Jvm.MethodName)) ∈ a_wt := a_wt_mem 715 (by decide +kernel) (by decide +kernel)
theorem k_716 : (Jvm.Cond.code ({ cls := "ThrowReports$State", name := "of", desc := "(I)I" } : Jvm.MethodName) prog_9_method_3_code (2 : Nat) (Option.some Jvm.ClassFile.FieldType.int)) ∈ a_wt := a_wt_mem 716 (by decide +kernel) (by decide +kernel)
theorem k_717 : (Jvm.Cond.methodLink "ThrowReportsLaw" (76 : Nat) ({ cls := "ThrowReports", name := "report", desc := "(I)I" } : Jvm.MethodName)) ∈ a_wt := a_wt_mem 717 (by decide +kernel) (by decide +kernel)
theorem k_718 : (Jvm.Cond.instanceMethod ({ cls := "ThrowReports", name := "report", desc := "(I)I" } : Jvm.MethodName)) ∈ a_wt := a_wt_mem 718 (by decide +kernel) (by decide +kernel)
theorem k_719 : (Jvm.Cond.selects "ThrowReports" ({ cls := "ThrowReports", name := "report", desc := "(I)I" } : Jvm.MethodName) ({ cls := "ThrowReports", name := "report", desc := "(I)I" } : Jvm.MethodName)) ∈ a_wt := a_wt_mem 719 (by decide +kernel) (by decide +kernel)
theorem k_720 : (Jvm.Cond.code ({ cls := "ThrowReports", name := "report", desc := "(I)I" } : Jvm.MethodName) prog_1_method_16_code (3 : Nat) (Option.some Jvm.ClassFile.FieldType.int)) ∈ a_wt := a_wt_mem 720 (by decide +kernel) (by decide +kernel)
theorem k_721 : (Jvm.Cond.methodLink "ThrowReports" (154 : Nat) ({ cls := "ThrowReports$Node", name := "forgetReport", desc := "()V" } : Jvm.MethodName)) ∈ a_wt := a_wt_mem 721 (by decide +kernel) (by decide +kernel)
theorem k_722 : (Jvm.Cond.instanceMethod ({ cls := "ThrowReports$Node", name := "forgetReport", desc := "()V" } : Jvm.MethodName)) ∈ a_wt := a_wt_mem 722 (by decide +kernel) (by decide +kernel)
theorem k_723 : (Jvm.Cond.sameMethod "ThrowReports$Node" "ThrowReports$Node" "forgetReport" "()V") ∈ a_wt := a_wt_mem 723 (by decide +kernel) (by decide +kernel)
theorem k_724 : (Jvm.Cond.selects "ThrowReports$Act" ({ cls := "ThrowReports$Node", name := "forgetReport", desc := "()V" } : Jvm.MethodName) ({ cls := "ThrowReports$Node", name := "forgetReport", desc := "()V" } : Jvm.MethodName)) ∈ a_wt := a_wt_mem 724 (by decide +kernel) (by decide +kernel)
theorem k_725 : (Jvm.Cond.selects "ThrowReports$Both" ({ cls := "ThrowReports$Node", name := "forgetReport", desc := "()V" } : Jvm.MethodName) ({ cls := "ThrowReports$Node", name := "forgetReport", desc := "()V" } : Jvm.MethodName)) ∈ a_wt := a_wt_mem 725 (by decide +kernel) (by decide +kernel)
theorem k_726 : (Jvm.Cond.selects "ThrowReports$Choice" ({ cls := "ThrowReports$Node", name := "forgetReport", desc := "()V" } : Jvm.MethodName) ({ cls := "ThrowReports$Node", name := "forgetReport", desc := "()V" } : Jvm.MethodName)) ∈ a_wt := a_wt_mem 726 (by decide +kernel) (by decide +kernel)
theorem k_727 : (Jvm.Cond.selects "ThrowReports$Guard" ({ cls := "ThrowReports$Node", name := "forgetReport", desc := "()V" } : Jvm.MethodName) ({ cls := "ThrowReports$Guard", name := "forgetReport", desc := "()V" } : Jvm.MethodName)) ∈ a_wt := a_wt_mem 727 (by decide +kernel) (by decide +kernel)
theorem k_728 : (Jvm.Cond.instanceMethod ({ cls := "ThrowReports$Guard", name := "forgetReport", desc := "()V" } : Jvm.MethodName)) ∈ a_wt := a_wt_mem 728 (by decide +kernel) (by decide +kernel)
theorem k_729 : (Jvm.Cond.code ({ cls := "ThrowReports$Guard", name := "forgetReport", desc := "()V" } : Jvm.MethodName) prog_5_method_8_code (1 : Nat) (Option.none : Option Jvm.ClassFile.FieldType)) ∈ a_wt := a_wt_mem 729 (by decide +kernel) (by decide +kernel)
theorem k_730 : (Jvm.Cond.methodLink "ThrowReports$Guard" (106 : Nat) ({ cls := "ThrowReports$Node", name := "forgetReport", desc := "()V" } : Jvm.MethodName)) ∈ a_wt := a_wt_mem 730 (by decide +kernel) (by decide +kernel)
theorem k_731 : (Jvm.Cond.code ({ cls := "ThrowReports$Node", name := "forgetReport", desc := "()V" } : Jvm.MethodName) prog_8_method_6_code (1 : Nat) (Option.none : Option Jvm.ClassFile.FieldType)) ∈ a_wt := a_wt_mem 731 (by decide +kernel) (by decide +kernel)
theorem k_732 : (Jvm.Cond.methodLink "ThrowReports$Node" (51 : Nat) ({ cls := "ThrowReports$State", name := "erase", desc := "()V" } : Jvm.MethodName)) ∈ a_wt := a_wt_mem 732 (by decide +kernel) (by decide +kernel)
theorem k_733 : (Jvm.Cond.instanceMethod ({ cls := "ThrowReports$State", name := "erase", desc := "()V" } : Jvm.MethodName)) ∈ a_wt := a_wt_mem 733 (by decide +kernel) (by decide +kernel)
theorem k_734 : (Jvm.Cond.selects "ThrowReports$State" ({ cls := "ThrowReports$State", name := "erase", desc := "()V" } : Jvm.MethodName) ({ cls := "ThrowReports$State", name := "erase", desc := "()V" } : Jvm.MethodName)) ∈ a_wt := a_wt_mem 734 (by decide +kernel) (by decide +kernel)
theorem k_735 : (Jvm.Cond.code ({ cls := "ThrowReports$State", name := "erase", desc := "()V" } : Jvm.MethodName) prog_9_method_7_code (1 : Nat) (Option.none : Option Jvm.ClassFile.FieldType)) ∈ a_wt := a_wt_mem 735 (by decide +kernel) (by decide +kernel)
theorem k_736 : (Jvm.Cond.methodLink "ThrowReports$State" (21 : Nat) ({ cls := "java/util/Arrays", name := "fill", desc := "([II)V" } : Jvm.MethodName)) ∈ a_wt := a_wt_mem 736 (by decide +kernel) (by decide +kernel)
theorem k_737 : (Jvm.Cond.methodLink "ThrowReports" (157 : Nat) ({ cls := "ThrowReports$Node", name := "goThrough", desc := "(LThrowReports$State;)V" } : Jvm.MethodName)) ∈ a_wt := a_wt_mem 737 (by decide +kernel) (by decide +kernel)
theorem k_738 : (Jvm.Cond.instanceMethod ({ cls := "ThrowReports$Node", name := "goThrough", desc := "(LThrowReports$State;)V" } : Jvm.MethodName)) ∈ a_wt := a_wt_mem 738 (by decide +kernel) (by decide +kernel)
theorem k_739 : (Jvm.Cond.sameMethod "ThrowReports$Node" "ThrowReports$Node" "goThrough" "(LThrowReports$State;)V") ∈ a_wt := a_wt_mem 739 (by decide +kernel) (by decide +kernel)
theorem k_740 : (Jvm.Cond.selects "ThrowReports$Act" ({ cls := "ThrowReports$Node", name := "goThrough", desc := "(LThrowReports$State;)V" } : Jvm.MethodName) ({ cls := "ThrowReports$Node", name := "goThrough", desc := "(LThrowReports$State;)V" } : Jvm.MethodName)) ∈ a_wt := a_wt_mem 740 (by decide +kernel) (by decide +kernel)
theorem k_741 : (Jvm.Cond.selects "ThrowReports$Both" ({ cls := "ThrowReports$Node", name := "goThrough", desc := "(LThrowReports$State;)V" } : Jvm.MethodName) ({ cls := "ThrowReports$Node", name := "goThrough", desc := "(LThrowReports$State;)V" } : Jvm.MethodName)) ∈ a_wt := a_wt_mem 741 (by decide +kernel) (by decide +kernel)
theorem k_742 : (Jvm.Cond.selects "ThrowReports$Choice" ({ cls := "ThrowReports$Node", name := "goThrough", desc := "(LThrowReports$State;)V" } : Jvm.MethodName) ({ cls := "ThrowReports$Node", name := "goThrough", desc := "(LThrowReports$State;)V" } : Jvm.MethodName)) ∈ a_wt := a_wt_mem 742 (by decide +kernel) (by decide +kernel)
theorem k_743 : (Jvm.Cond.selects "ThrowReports$Guard" ({ cls := "ThrowReports$Node", name := "goThrough", desc := "(LThrowReports$State;)V" } : Jvm.MethodName) ({ cls := "ThrowReports$Node", name := "goThrough", desc := "(LThrowReports$State;)V" } : Jvm.MethodName)) ∈ a_wt := a_wt_mem 743 (by decide +kernel) (by decide +kernel)
theorem k_744 : (Jvm.Cond.code ({ cls := "ThrowReports$Node", name := "goThrough", desc := "(LThrowReports$State;)V" } : Jvm.MethodName) prog_8_method_4_code (2 : Nat) (Option.none : Option Jvm.ClassFile.FieldType)) ∈ a_wt := a_wt_mem 744 (by decide +kernel) (by decide +kernel)
theorem k_745 : (Jvm.Cond.methodLink "ThrowReports$Node" (30 : Nat) ({ cls := "ThrowReports$State", name := "join", desc := "(LThrowReports$State;)V" } : Jvm.MethodName)) ∈ a_wt := a_wt_mem 745 (by decide +kernel) (by decide +kernel)
theorem k_746 : (Jvm.Cond.instanceMethod ({ cls := "ThrowReports$State", name := "join", desc := "(LThrowReports$State;)V" } : Jvm.MethodName)) ∈ a_wt := a_wt_mem 746 (by decide +kernel) (by decide +kernel)
theorem k_747 : (Jvm.Cond.selects "ThrowReports$State" ({ cls := "ThrowReports$State", name := "join", desc := "(LThrowReports$State;)V" } : Jvm.MethodName) ({ cls := "ThrowReports$State", name := "join", desc := "(LThrowReports$State;)V" } : Jvm.MethodName)) ∈ a_wt := a_wt_mem 747 (by decide +kernel) (by decide +kernel)
theorem k_748 : (Jvm.Cond.code ({ cls := "ThrowReports$State", name := "join", desc := "(LThrowReports$State;)V" } : Jvm.MethodName) prog_9_method_9_code (3 : Nat) (Option.none : Option Jvm.ClassFile.FieldType)) ∈ a_wt := a_wt_mem 748 (by decide +kernel) (by decide +kernel)
theorem k_749 : (Jvm.Cond.methodLink "ThrowReports$Node" (34 : Nat) ({ cls := "ThrowReports$Ways", name := "erase", desc := "()V" } : Jvm.MethodName)) ∈ a_wt := a_wt_mem 749 (by decide +kernel) (by decide +kernel)
theorem k_750 : (Jvm.Cond.instanceMethod ({ cls := "ThrowReports$Ways", name := "erase", desc := "()V" } : Jvm.MethodName)) ∈ a_wt := a_wt_mem 750 (by decide +kernel) (by decide +kernel)
theorem k_751 : (Jvm.Cond.selects "ThrowReports$Ways" ({ cls := "ThrowReports$Ways", name := "erase", desc := "()V" } : Jvm.MethodName) ({ cls := "ThrowReports$Ways", name := "erase", desc := "()V" } : Jvm.MethodName)) ∈ a_wt := a_wt_mem 751 (by decide +kernel) (by decide +kernel)
theorem k_752 : (Jvm.Cond.code ({ cls := "ThrowReports$Ways", name := "erase", desc := "()V" } : Jvm.MethodName) prog_11_method_3_code (2 : Nat) (Option.none : Option Jvm.ClassFile.FieldType)) ∈ a_wt := a_wt_mem 752 (by decide +kernel) (by decide +kernel)
theorem k_753 : (Jvm.Cond.methodLink "ThrowReports$Ways" (18 : Nat) ({ cls := "ThrowReports$State", name := "isThere", desc := "()Z" } : Jvm.MethodName)) ∈ a_wt := a_wt_mem 753 (by decide +kernel) (by decide +kernel)
theorem k_754 : (Jvm.Cond.instanceMethod ({ cls := "ThrowReports$State", name := "isThere", desc := "()Z" } : Jvm.MethodName)) ∈ a_wt := a_wt_mem 754 (by decide +kernel) (by decide +kernel)
theorem k_755 : (Jvm.Cond.selects "ThrowReports$State" ({ cls := "ThrowReports$State", name := "isThere", desc := "()Z" } : Jvm.MethodName) ({ cls := "ThrowReports$State", name := "isThere", desc := "()Z" } : Jvm.MethodName)) ∈ a_wt := a_wt_mem 755 (by decide +kernel) (by decide +kernel)
theorem k_756 : (Jvm.Cond.code ({ cls := "ThrowReports$State", name := "isThere", desc := "()Z" } : Jvm.MethodName) prog_9_method_2_code (1 : Nat) (Option.some Jvm.ClassFile.FieldType.boolean)) ∈ a_wt := a_wt_mem 756 (by decide +kernel) (by decide +kernel)
theorem k_757 : (Jvm.Cond.methodLink "ThrowReports$Ways" (22 : Nat) ({ cls := "ThrowReports$State", name := "erase", desc := "()V" } : Jvm.MethodName)) ∈ a_wt := a_wt_mem 757 (by decide +kernel) (by decide +kernel)
theorem k_758 : (Jvm.Cond.methodLink "ThrowReports$Node" (37 : Nat) ({ cls := "ThrowReports$Node", name := "findWays", desc := "(LThrowReports$State;)V" } : Jvm.MethodName)) ∈ a_wt := a_wt_mem 758 (by decide +kernel) (by decide +kernel)
theorem k_760 : (Jvm.Cond.sameMethod "ThrowReports$Node" "ThrowReports$Node" "findWays" "(LThrowReports$State;)V") ∈ a_wt := a_wt_mem 760 (by decide +kernel) (by decide +kernel)
theorem k_761 : (Jvm.Cond.selects "ThrowReports$Act" ({ cls := "ThrowReports$Node", name := "findWays", desc := "(LThrowReports$State;)V" } : Jvm.MethodName) ({ cls := "ThrowReports$Act", name := "findWays", desc := "(LThrowReports$State;)V" } : Jvm.MethodName)) ∈ a_wt := a_wt_mem 761 (by decide +kernel) (by decide +kernel)
theorem k_762 : (Jvm.Cond.instanceMethod ({ cls := "ThrowReports$Act", name := "findWays", desc := "(LThrowReports$State;)V" } : Jvm.MethodName)) ∈ a_wt := a_wt_mem 762 (by decide +kernel) (by decide +kernel)
theorem k_763 : (Jvm.Cond.code ({ cls := "ThrowReports$Act", name := "findWays", desc := "(LThrowReports$State;)V" } : Jvm.MethodName) prog_2_method_5_code (2 : Nat) (Option.none : Option Jvm.ClassFile.FieldType)) ∈ a_wt := a_wt_mem 763 (by decide +kernel) (by decide +kernel)
theorem k_764 : (Jvm.Cond.methodLink "ThrowReports$Act" (62 : Nat) ({ cls := "ThrowReports$State", name := "become", desc := "(LThrowReports$State;)V" } : Jvm.MethodName)) ∈ a_wt := a_wt_mem 764 (by decide +kernel) (by decide +kernel)
theorem k_765 : (Jvm.Cond.instanceMethod ({ cls := "ThrowReports$State", name := "become", desc := "(LThrowReports$State;)V" } : Jvm.MethodName)) ∈ a_wt := a_wt_mem 765 (by decide +kernel) (by decide +kernel)
theorem k_766 : (Jvm.Cond.selects "ThrowReports$State" ({ cls := "ThrowReports$State", name := "become", desc := "(LThrowReports$State;)V" } : Jvm.MethodName) ({ cls := "ThrowReports$State", name := "become", desc := "(LThrowReports$State;)V" } : Jvm.MethodName)) ∈ a_wt := a_wt_mem 766 (by decide +kernel) (by decide +kernel)
theorem k_767 : (Jvm.Cond.code ({ cls := "ThrowReports$State", name := "become", desc := "(LThrowReports$State;)V" } : Jvm.MethodName) prog_9_method_8_code (2 : Nat) (Option.none : Option Jvm.ClassFile.FieldType)) ∈ a_wt := a_wt_mem 767 (by decide +kernel) (by decide +kernel)
theorem k_768 : (Jvm.Cond.methodLink "ThrowReports$State" (27 : Nat) ({ cls := "java/lang/System", name := "arraycopy", desc := "(Ljava/lang/Object;ILjava/lang/Object;II)V" } : Jvm.MethodName)) ∈ a_wt := a_wt_mem 768 (by decide +kernel) (by decide +kernel)
theorem k_769 : (Jvm.Cond.methodLink "ThrowReports$Act" (66 : Nat) ({ cls := "ThrowReports$Kinds", name := "setOf", desc := "(I)I" } : Jvm.MethodName)) ∈ a_wt := a_wt_mem 769 (by decide +kernel) (by decide +kernel)
theorem k_770 : (Jvm.Cond.static ({ cls := "ThrowReports$Kinds", name := "setOf", desc := "(I)I" } : Jvm.MethodName)) ∈ a_wt := a_wt_mem 770 (by decide +kernel) (by decide +kernel)
theorem k_771 : (Jvm.Cond.code ({ cls := "ThrowReports$Kinds", name := "setOf", desc := "(I)I" } : Jvm.MethodName) prog_6_method_2_code (1 : Nat) (Option.some Jvm.ClassFile.FieldType.int)) ∈ a_wt := a_wt_mem 771 (by decide +kernel) (by decide +kernel)
theorem k_772 : (Jvm.Cond.methodLink "ThrowReports$Act" (72 : Nat) ({ cls := "ThrowReports$Act", name := "askNew", desc := "(ZI)V" } : Jvm.MethodName)) ∈ a_wt := a_wt_mem 772 (by decide +kernel) (by decide +kernel)
theorem k_774 : (Jvm.Cond.instanceMethod ({ cls := "ThrowReports$Act", name := "askNew", desc := "(ZI)V" } : Jvm.MethodName)) ∈ a_wt := a_wt_mem 774 (by decide +kernel) (by decide +kernel)
theorem k_775 : (Jvm.Cond.code ({ cls := "ThrowReports$Act", name := "askNew", desc := "(ZI)V" } : Jvm.MethodName) prog_2_method_12_code (3 : Nat) (Option.none : Option Jvm.ClassFile.FieldType)) ∈ a_wt := a_wt_mem 775 (by decide +kernel) (by decide +kernel)
theorem k_776 : (Jvm.Cond.methodLink "ThrowReports$Act" (95 : Nat) ({ cls := "ThrowReports$Act", name := "mustFail", desc := "(I)V" } : Jvm.MethodName)) ∈ a_wt := a_wt_mem 776 (by decide +kernel) (by decide +kernel)
theorem k_778 : (Jvm.Cond.instanceMethod ({ cls := "ThrowReports$Act", name := "mustFail", desc := "(I)V" } : Jvm.MethodName)) ∈ a_wt := a_wt_mem 778 (by decide +kernel) (by decide +kernel)
theorem k_779 : (Jvm.Cond.code ({ cls := "ThrowReports$Act", name := "mustFail", desc := "(I)V" } : Jvm.MethodName) prog_2_method_7_code (2 : Nat) (Option.none : Option Jvm.ClassFile.FieldType)) ∈ a_wt := a_wt_mem 779 (by decide +kernel) (by decide +kernel)
theorem k_780 : (Jvm.Cond.methodLink "ThrowReports$Act" (82 : Nat) ({ cls := "ThrowReports$Act", name := "mayFail", desc := "(I)V" } : Jvm.MethodName)) ∈ a_wt := a_wt_mem 780 (by decide +kernel) (by decide +kernel)
theorem k_782 : (Jvm.Cond.instanceMethod ({ cls := "ThrowReports$Act", name := "mayFail", desc := "(I)V" } : Jvm.MethodName)) ∈ a_wt := a_wt_mem 782 (by decide +kernel) (by decide +kernel)
theorem k_783 : (Jvm.Cond.code ({ cls := "ThrowReports$Act", name := "mayFail", desc := "(I)V" } : Jvm.MethodName) prog_2_method_6_code (2 : Nat) (Option.none : Option Jvm.ClassFile.FieldType)) ∈ a_wt := a_wt_mem 783 (by decide +kernel) (by decide +kernel)
theorem k_784 : (Jvm.Cond.methodLink "ThrowReports$Act" (104 : Nat) ({ cls := "ThrowReports$Ways", name := "by", desc := "(I)LThrowReports$State;" } : Jvm.MethodName)) ∈ a_wt := a_wt_mem 784 (by decide +kernel) (by decide +kernel)
theorem k_785 : (Jvm.Cond.instanceMethod ({ cls := "ThrowReports$Ways", name := "by", desc := "(I)LThrowReports$State;" } : Jvm.MethodName)) ∈ a_wt := a_wt_mem 785 (by decide +kernel) (by decide +kernel)
theorem k_786 : (Jvm.Cond.selects "ThrowReports$Ways" ({ cls := "ThrowReports$Ways", name := "by", desc := "(I)LThrowReports$State;" } : Jvm.MethodName) ({ cls := "ThrowReports$Ways", name := "by", desc := "(I)LThrowReports$State;" } : Jvm.MethodName)) ∈ a_wt := a_wt_mem 786 (by decide +kernel) (by decide +kernel)
theorem k_787 : (Jvm.Cond.code ({ cls := "ThrowReports$Ways", name := "by", desc := "(I)LThrowReports$State;" } : Jvm.MethodName) prog_11_method_2_code (2 : Nat) (Option.some (Jvm.ClassFile.FieldType.object "ThrowReports$State"))) ∈ a_wt := a_wt_mem 787 (by decide +kernel) (by decide +kernel)
theorem k_788 : (Jvm.Cond.methodLink "ThrowReports$Act" (108 : Nat) ({ cls := "ThrowReports$State", name := "join", desc := "(LThrowReports$State;)V" } : Jvm.MethodName)) ∈ a_wt := a_wt_mem 788 (by decide +kernel) (by decide +kernel)
theorem k_789 : (Jvm.Cond.methodLink "ThrowReports$Act" (111 : Nat) ({ cls := "ThrowReports$State", name := "erase", desc := "()V" } : Jvm.MethodName)) ∈ a_wt := a_wt_mem 789 (by decide +kernel) (by decide +kernel)
theorem k_790 : (Jvm.Cond.methodLink "ThrowReports$Act" (138 : Nat) ({ cls := "ThrowReports$Act", name := "makeAnew", desc := "(I)V" } : Jvm.MethodName)) ∈ a_wt := a_wt_mem 790 (by decide +kernel) (by decide +kernel)
theorem k_792 : (Jvm.Cond.instanceMethod ({ cls := "ThrowReports$Act", name := "makeAnew", desc := "(I)V" } : Jvm.MethodName)) ∈ a_wt := a_wt_mem 792 (by decide +kernel) (by decide +kernel)
theorem k_793 : (Jvm.Cond.code ({ cls := "ThrowReports$Act", name := "makeAnew", desc := "(I)V" } : Jvm.MethodName) prog_2_method_9_code (2 : Nat) (Option.none : Option Jvm.ClassFile.FieldType)) ∈ a_wt := a_wt_mem 793 (by decide +kernel) (by decide +kernel)
theorem k_794 : (Jvm.Cond.methodLink "ThrowReports$Act" (124 : Nat) ({ cls := "ThrowReports$State", name := "isThere", desc := "()Z" } : Jvm.MethodName)) ∈ a_wt := a_wt_mem 794 (by decide +kernel) (by decide +kernel)
theorem k_795 : (Jvm.Cond.methodLink "ThrowReports$Act" (128 : Nat) ({ cls := "ThrowReports$State", name := "put", desc := "(II)V" } : Jvm.MethodName)) ∈ a_wt := a_wt_mem 795 (by decide +kernel) (by decide +kernel)
theorem k_796 : (Jvm.Cond.methodLink "ThrowReports$Act" (76 : Nat) ({ cls := "ThrowReports$Act", name := "askMove", desc := "()V" } : Jvm.MethodName)) ∈ a_wt := a_wt_mem 796 (by decide +kernel) (by decide +kernel)
theorem k_798 : (Jvm.Cond.instanceMethod ({ cls := "ThrowReports$Act", name := "askMove", desc := "()V" } : Jvm.MethodName)) ∈ a_wt := a_wt_mem 798 (by decide +kernel) (by decide +kernel)
theorem k_799 : (Jvm.Cond.code ({ cls := "ThrowReports$Act", name := "askMove", desc := "()V" } : Jvm.MethodName) prog_2_method_13_code (1 : Nat) (Option.none : Option Jvm.ClassFile.FieldType)) ∈ a_wt := a_wt_mem 799 (by decide +kernel) (by decide +kernel)
theorem k_800 : (Jvm.Cond.methodLink "ThrowReports$Act" (141 : Nat) ({ cls := "ThrowReports$Act", name := "askAs", desc := "(II)V" } : Jvm.MethodName)) ∈ a_wt := a_wt_mem 800 (by decide +kernel) (by decide +kernel)
theorem k_802 : (Jvm.Cond.instanceMethod ({ cls := "ThrowReports$Act", name := "askAs", desc := "(II)V" } : Jvm.MethodName)) ∈ a_wt := a_wt_mem 802 (by decide +kernel) (by decide +kernel)
theorem k_803 : (Jvm.Cond.code ({ cls := "ThrowReports$Act", name := "askAs", desc := "(II)V" } : Jvm.MethodName) prog_2_method_10_code (3 : Nat) (Option.none : Option Jvm.ClassFile.FieldType)) ∈ a_wt := a_wt_mem 803 (by decide +kernel) (by decide +kernel)
theorem k_804 : (Jvm.Cond.methodLink "ThrowReports$Act" (131 : Nat) ({ cls := "ThrowReports$Kinds", name := "thoseThatAre", desc := "(I)I" } : Jvm.MethodName)) ∈ a_wt := a_wt_mem 804 (by decide +kernel) (by decide +kernel)
theorem k_805 : (Jvm.Cond.methodLink "ThrowReports$Act" (134 : Nat) ({ cls := "ThrowReports$Act", name := "failFor", desc := "(III)V" } : Jvm.MethodName)) ∈ a_wt := a_wt_mem 805 (by decide +kernel) (by decide +kernel)
theorem k_807 : (Jvm.Cond.instanceMethod ({ cls := "ThrowReports$Act", name := "failFor", desc := "(III)V" } : Jvm.MethodName)) ∈ a_wt := a_wt_mem 807 (by decide +kernel) (by decide +kernel)
theorem k_808 : (Jvm.Cond.code ({ cls := "ThrowReports$Act", name := "failFor", desc := "(III)V" } : Jvm.MethodName) prog_2_method_8_code (5 : Nat) (Option.none : Option Jvm.ClassFile.FieldType)) ∈ a_wt := a_wt_mem 808 (by decide +kernel) (by decide +kernel)
theorem k_809 : (Jvm.Cond.methodLink "ThrowReports$Act" (114 : Nat) ({ cls := "ThrowReports$State", name := "of", desc := "(I)I" } : Jvm.MethodName)) ∈ a_wt := a_wt_mem 809 (by decide +kernel) (by decide +kernel)
theorem k_810 : (Jvm.Cond.methodLink "ThrowReports$Act" (117 : Nat) ({ cls := "ThrowReports$State", name := "joinWith", desc := "(LThrowReports$State;II)V" } : Jvm.MethodName)) ∈ a_wt := a_wt_mem 810 (by decide +kernel) (by decide +kernel)
theorem k_811 : (Jvm.Cond.instanceMethod ({ cls := "ThrowReports$State", name := "joinWith", desc := "(LThrowReports$State;II)V" } : Jvm.MethodName)) ∈ a_wt := a_wt_mem 811 (by decide +kernel) (by decide +kernel)
theorem k_812 : (Jvm.Cond.selects "ThrowReports$State" ({ cls := "ThrowReports$State", name := "joinWith", desc := "(LThrowReports$State;II)V" } : Jvm.MethodName) ({ cls := "ThrowReports$State", name := "joinWith", desc := "(LThrowReports$State;II)V" } : Jvm.MethodName)) ∈ a_wt := a_wt_mem 812 (by decide +kernel) (by decide +kernel)
theorem k_813 : (Jvm.Cond.code ({ cls := "ThrowReports$State", name := "joinWith", desc := "(LThrowReports$State;II)V" } : Jvm.MethodName) prog_9_method_10_code (5 : Nat) (Option.none : Option Jvm.ClassFile.FieldType)) ∈ a_wt := a_wt_mem 813 (by decide +kernel) (by decide +kernel)
theorem k_814 : (Jvm.Cond.methodLink "ThrowReports$Act" (121 : Nat) ({ cls := "ThrowReports$State", name := "keep", desc := "(II)V" } : Jvm.MethodName)) ∈ a_wt := a_wt_mem 814 (by decide +kernel) (by decide +kernel)
theorem k_815 : (Jvm.Cond.instanceMethod ({ cls := "ThrowReports$State", name := "keep", desc := "(II)V" } : Jvm.MethodName)) ∈ a_wt := a_wt_mem 815 (by decide +kernel) (by decide +kernel)
theorem k_816 : (Jvm.Cond.selects "ThrowReports$State" ({ cls := "ThrowReports$State", name := "keep", desc := "(II)V" } : Jvm.MethodName) ({ cls := "ThrowReports$State", name := "keep", desc := "(II)V" } : Jvm.MethodName)) ∈ a_wt := a_wt_mem 816 (by decide +kernel) (by decide +kernel)
theorem k_817 : (Jvm.Cond.code ({ cls := "ThrowReports$State", name := "keep", desc := "(II)V" } : Jvm.MethodName) prog_9_method_6_code (3 : Nat) (Option.none : Option Jvm.ClassFile.FieldType)) ∈ a_wt := a_wt_mem 817 (by decide +kernel) (by decide +kernel)
theorem k_818 : (Jvm.Cond.methodLink "ThrowReports$Act" (79 : Nat) ({ cls := "ThrowReports$Act", name := "askSomething", desc := "(II)V" } : Jvm.MethodName)) ∈ a_wt := a_wt_mem 818 (by decide +kernel) (by decide +kernel)
theorem k_820 : (Jvm.Cond.instanceMethod ({ cls := "ThrowReports$Act", name := "askSomething", desc := "(II)V" } : Jvm.MethodName)) ∈ a_wt := a_wt_mem 820 (by decide +kernel) (by decide +kernel)
theorem k_821 : (Jvm.Cond.code ({ cls := "ThrowReports$Act", name := "askSomething", desc := "(II)V" } : Jvm.MethodName) prog_2_method_11_code (3 : Nat) (Option.none : Option Jvm.ClassFile.FieldType)) ∈ a_wt := a_wt_mem 821 (by decide +kernel) (by decide +kernel)
theorem k_822 : (Jvm.Cond.methodLink "ThrowReports$Act" (86 : Nat) ({ cls := "ThrowReports$Act", name := "askTake", desc := "()V" } : Jvm.MethodName)) ∈ a_wt := a_wt_mem 822 (by decide +kernel) (by decide +kernel)
theorem k_824 : (Jvm.Cond.instanceMethod ({ cls := "ThrowReports$Act", name := "askTake", desc := "()V" } : Jvm.MethodName)) ∈ a_wt := a_wt_mem 824 (by decide +kernel) (by decide +kernel)
theorem k_825 : (Jvm.Cond.code ({ cls := "ThrowReports$Act", name := "askTake", desc := "()V" } : Jvm.MethodName) prog_2_method_14_code (2 : Nat) (Option.none : Option Jvm.ClassFile.FieldType)) ∈ a_wt := a_wt_mem 825 (by decide +kernel) (by decide +kernel)
theorem k_826 : (Jvm.Cond.methodLink "ThrowReports$Act" (144 : Nat) ({ cls := "ThrowReports$State", name := "has", desc := "(II)Z" } : Jvm.MethodName)) ∈ a_wt := a_wt_mem 826 (by decide +kernel) (by decide +kernel)
theorem k_827 : (Jvm.Cond.instanceMethod ({ cls := "ThrowReports$State", name := "has", desc := "(II)Z" } : Jvm.MethodName)) ∈ a_wt := a_wt_mem 827 (by decide +kernel) (by decide +kernel)
theorem k_828 : (Jvm.Cond.selects "ThrowReports$State" ({ cls := "ThrowReports$State", name := "has", desc := "(II)Z" } : Jvm.MethodName) ({ cls := "ThrowReports$State", name := "has", desc := "(II)Z" } : Jvm.MethodName)) ∈ a_wt := a_wt_mem 828 (by decide +kernel) (by decide +kernel)
theorem k_829 : (Jvm.Cond.code ({ cls := "ThrowReports$State", name := "has", desc := "(II)Z" } : Jvm.MethodName) prog_9_method_4_code (3 : Nat) (Option.some Jvm.ClassFile.FieldType.boolean)) ∈ a_wt := a_wt_mem 829 (by decide +kernel) (by decide +kernel)
theorem k_830 : (Jvm.Cond.methodLink "ThrowReports$State" (15 : Nat) ({ cls := "ThrowReports$Kinds", name := "has", desc := "(II)Z" } : Jvm.MethodName)) ∈ a_wt := a_wt_mem 830 (by decide +kernel) (by decide +kernel)
theorem k_831 : (Jvm.Cond.methodLink "ThrowReports$Act" (89 : Nat) ({ cls := "ThrowReports$Act", name := "askLay", desc := "()V" } : Jvm.MethodName)) ∈ a_wt := a_wt_mem 831 (by decide +kernel) (by decide +kernel)
theorem k_833 : (Jvm.Cond.instanceMethod ({ cls := "ThrowReports$Act", name := "askLay", desc := "()V" } : Jvm.MethodName)) ∈ a_wt := a_wt_mem 833 (by decide +kernel) (by decide +kernel)
theorem k_834 : (Jvm.Cond.code ({ cls := "ThrowReports$Act", name := "askLay", desc := "()V" } : Jvm.MethodName) prog_2_method_15_code (1 : Nat) (Option.none : Option Jvm.ClassFile.FieldType)) ∈ a_wt := a_wt_mem 834 (by decide +kernel) (by decide +kernel)
theorem k_835 : (Jvm.Cond.methodLink "ThrowReports$Act" (147 : Nat) ({ cls := "ThrowReports$Kinds", name := "ofItems", desc := "(I)I" } : Jvm.MethodName)) ∈ a_wt := a_wt_mem 835 (by decide +kernel) (by decide +kernel)
theorem k_836 : (Jvm.Cond.methodLink "ThrowReports$Act" (150 : Nat) ({ cls := "ThrowReports$Act", name := "keepWhatLays", desc := "()V" } : Jvm.MethodName)) ∈ a_wt := a_wt_mem 836 (by decide +kernel) (by decide +kernel)
theorem k_838 : (Jvm.Cond.instanceMethod ({ cls := "ThrowReports$Act", name := "keepWhatLays", desc := "()V" } : Jvm.MethodName)) ∈ a_wt := a_wt_mem 838 (by decide +kernel) (by decide +kernel)
theorem k_839 : (Jvm.Cond.code ({ cls := "ThrowReports$Act", name := "keepWhatLays", desc := "()V" } : Jvm.MethodName) prog_2_method_16_code (5 : Nat) (Option.none : Option Jvm.ClassFile.FieldType)) ∈ a_wt := a_wt_mem 839 (by decide +kernel) (by decide +kernel)
theorem k_840 : (Jvm.Cond.methodLink "ThrowReports$Act" (92 : Nat) ({ cls := "ThrowReports$Act", name := "askCopy", desc := "()V" } : Jvm.MethodName)) ∈ a_wt := a_wt_mem 840 (by decide +kernel) (by decide +kernel)
theorem k_842 : (Jvm.Cond.instanceMethod ({ cls := "ThrowReports$Act", name := "askCopy", desc := "()V" } : Jvm.MethodName)) ∈ a_wt := a_wt_mem 842 (by decide +kernel) (by decide +kernel)
theorem k_843 : (Jvm.Cond.code ({ cls := "ThrowReports$Act", name := "askCopy", desc := "()V" } : Jvm.MethodName) prog_2_method_17_code (3 : Nat) (Option.none : Option Jvm.ClassFile.FieldType)) ∈ a_wt := a_wt_mem 843 (by decide +kernel) (by decide +kernel)
theorem k_844 : (Jvm.Cond.methodLink "ThrowReports$Act" (153 : Nat) ({ cls := "ThrowReports$Kinds", name := "copyMayFailByStore", desc := "(II)Z" } : Jvm.MethodName)) ∈ a_wt := a_wt_mem 844 (by decide +kernel) (by decide +kernel)
theorem k_845 : (Jvm.Cond.static ({ cls := "ThrowReports$Kinds", name := "copyMayFailByStore", desc := "(II)Z" } : Jvm.MethodName)) ∈ a_wt := a_wt_mem 845 (by decide +kernel) (by decide +kernel)
theorem k_846 : (Jvm.Cond.code ({ cls := "ThrowReports$Kinds", name := "copyMayFailByStore", desc := "(II)Z" } : Jvm.MethodName) prog_6_method_11_code (3 : Nat) (Option.some Jvm.ClassFile.FieldType.boolean)) ∈ a_wt := a_wt_mem 846 (by decide +kernel) (by decide +kernel)
theorem k_847 : (Jvm.Cond.methodLink "ThrowReports$Kinds" (36 : Nat) ({ cls := "ThrowReports$Kinds", name := "thoseThatTakeAllOf", desc := "(I)I" } : Jvm.MethodName)) ∈ a_wt := a_wt_mem 847 (by decide +kernel) (by decide +kernel)
theorem k_848 : (Jvm.Cond.static ({ cls := "ThrowReports$Kinds", name := "thoseThatTakeAllOf", desc := "(I)I" } : Jvm.MethodName)) ∈ a_wt := a_wt_mem 848 (by decide +kernel) (by decide +kernel)
theorem k_849 : (Jvm.Cond.code ({ cls := "ThrowReports$Kinds", name := "thoseThatTakeAllOf", desc := "(I)I" } : Jvm.MethodName) prog_6_method_7_code (1 : Nat) (Option.some Jvm.ClassFile.FieldType.int)) ∈ a_wt := a_wt_mem 849 (by decide +kernel) (by decide +kernel)
theorem k_850 : (Jvm.Cond.fieldLink "ThrowReports$Kinds" (24 : Nat) "ThrowReports$Kinds" "TAKE_ALL" "[I") ∈ a_wt := a_wt_mem 850 (by decide +kernel) (by decide +kernel)
theorem k_852 : (Jvm.Cond.methodLink "ThrowReports$Act" (156 : Nat) ({ cls := "ThrowReports$Kinds", name := "meeting", desc := "(II)I" } : Jvm.MethodName)) ∈ a_wt := a_wt_mem 852 (by decide +kernel) (by decide +kernel)
theorem k_853 : (Jvm.Cond.static ({ cls := "ThrowReports$Kinds", name := "meeting", desc := "(II)I" } : Jvm.MethodName)) ∈ a_wt := a_wt_mem 853 (by decide +kernel) (by decide +kernel)
theorem k_854 : (Jvm.Cond.code ({ cls := "ThrowReports$Kinds", name := "meeting", desc := "(II)I" } : Jvm.MethodName) prog_6_method_10_code (4 : Nat) (Option.some Jvm.ClassFile.FieldType.int)) ∈ a_wt := a_wt_mem 854 (by decide +kernel) (by decide +kernel)
theorem k_855 : (Jvm.Cond.methodLink "ThrowReports$Kinds" (30 : Nat) ({ cls := "ThrowReports$Kinds", name := "thoseThatMeet", desc := "(I)I" } : Jvm.MethodName)) ∈ a_wt := a_wt_mem 855 (by decide +kernel) (by decide +kernel)
theorem k_856 : (Jvm.Cond.methodLink "ThrowReports$Kinds" (33 : Nat) ({ cls := "ThrowReports$Kinds", name := "setOf", desc := "(I)I" } : Jvm.MethodName)) ∈ a_wt := a_wt_mem 856 (by decide +kernel) (by decide +kernel)
theorem k_857 : (Jvm.Cond.selects "ThrowReports$Both" ({ cls := "ThrowReports$Node", name := "findWays", desc := "(LThrowReports$State;)V" } : Jvm.MethodName) ({ cls := "ThrowReports$Both", name := "findWays", desc := "(LThrowReports$State;)V" } : Jvm.MethodName)) ∈ a_wt := a_wt_mem 857 (by decide +kernel) (by decide +kernel)
theorem k_858 : (Jvm.Cond.instanceMethod ({ cls := "ThrowReports$Both", name := "findWays", desc := "(LThrowReports$State;)V" } : Jvm.MethodName)) ∈ a_wt := a_wt_mem 858 (by decide +kernel) (by decide +kernel)
theorem k_859 : (Jvm.Cond.code ({ cls := "ThrowReports$Both", name := "findWays", desc := "(LThrowReports$State;)V" } : Jvm.MethodName) prog_3_method_3_code (2 : Nat) (Option.none : Option Jvm.ClassFile.FieldType)) ∈ a_wt := a_wt_mem 859 (by decide +kernel) (by decide +kernel)
theorem k_860 : (Jvm.Cond.methodLink "ThrowReports$Both" (29 : Nat) ({ cls := "ThrowReports$Node", name := "goThrough", desc := "(LThrowReports$State;)V" } : Jvm.MethodName)) ∈ a_wt := a_wt_mem 860 (by decide +kernel) (by decide +kernel)
theorem k_861 : (Jvm.Cond.methodLink "ThrowReports$Both" (38 : Nat) ({ cls := "ThrowReports$Ways", name := "joinFailures", desc := "(LThrowReports$Ways;)V" } : Jvm.MethodName)) ∈ a_wt := a_wt_mem 861 (by decide +kernel) (by decide +kernel)
theorem k_862 : (Jvm.Cond.instanceMethod ({ cls := "ThrowReports$Ways", name := "joinFailures", desc := "(LThrowReports$Ways;)V" } : Jvm.MethodName)) ∈ a_wt := a_wt_mem 862 (by decide +kernel) (by decide +kernel)
theorem k_863 : (Jvm.Cond.selects "ThrowReports$Ways" ({ cls := "ThrowReports$Ways", name := "joinFailures", desc := "(LThrowReports$Ways;)V" } : Jvm.MethodName) ({ cls := "ThrowReports$Ways", name := "joinFailures", desc := "(LThrowReports$Ways;)V" } : Jvm.MethodName)) ∈ a_wt := a_wt_mem 863 (by decide +kernel) (by decide +kernel)
theorem k_864 : (Jvm.Cond.code ({ cls := "ThrowReports$Ways", name := "joinFailures", desc := "(LThrowReports$Ways;)V" } : Jvm.MethodName) prog_11_method_5_code (3 : Nat) (Option.none : Option Jvm.ClassFile.FieldType)) ∈ a_wt := a_wt_mem 864 (by decide +kernel) (by decide +kernel)
theorem k_865 : (Jvm.Cond.methodLink "ThrowReports$Ways" (25 : Nat) ({ cls := "ThrowReports$State", name := "join", desc := "(LThrowReports$State;)V" } : Jvm.MethodName)) ∈ a_wt := a_wt_mem 865 (by decide +kernel) (by decide +kernel)
theorem k_866 : (Jvm.Cond.methodLink "ThrowReports$Both" (44 : Nat) ({ cls := "ThrowReports$Ways", name := "by", desc := "(I)LThrowReports$State;" } : Jvm.MethodName)) ∈ a_wt := a_wt_mem 866 (by decide +kernel) (by decide +kernel)
theorem k_867 : (Jvm.Cond.methodLink "ThrowReports$Both" (48 : Nat) ({ cls := "ThrowReports$State", name := "become", desc := "(LThrowReports$State;)V" } : Jvm.MethodName)) ∈ a_wt := a_wt_mem 867 (by decide +kernel) (by decide +kernel)
theorem k_868 : (Jvm.Cond.methodLink "ThrowReports$Both" (51 : Nat) ({ cls := "ThrowReports$State", name := "isThere", desc := "()Z" } : Jvm.MethodName)) ∈ a_wt := a_wt_mem 868 (by decide +kernel) (by decide +kernel)
theorem k_869 : (Jvm.Cond.methodLink "ThrowReports$Both" (55 : Nat) ({ cls := "ThrowReports$Ways", name := "join", desc := "(LThrowReports$Ways;)V" } : Jvm.MethodName)) ∈ a_wt := a_wt_mem 869 (by decide +kernel) (by decide +kernel)
theorem k_870 : (Jvm.Cond.instanceMethod ({ cls := "ThrowReports$Ways", name := "join", desc := "(LThrowReports$Ways;)V" } : Jvm.MethodName)) ∈ a_wt := a_wt_mem 870 (by decide +kernel) (by decide +kernel)
theorem k_871 : (Jvm.Cond.selects "ThrowReports$Ways" ({ cls := "ThrowReports$Ways", name := "join", desc := "(LThrowReports$Ways;)V" } : Jvm.MethodName) ({ cls := "ThrowReports$Ways", name := "join", desc := "(LThrowReports$Ways;)V" } : Jvm.MethodName)) ∈ a_wt := a_wt_mem 871 (by decide +kernel) (by decide +kernel)
theorem k_872 : (Jvm.Cond.code ({ cls := "ThrowReports$Ways", name := "join", desc := "(LThrowReports$Ways;)V" } : Jvm.MethodName) prog_11_method_4_code (2 : Nat) (Option.none : Option Jvm.ClassFile.FieldType)) ∈ a_wt := a_wt_mem 872 (by decide +kernel) (by decide +kernel)
theorem k_873 : (Jvm.Cond.methodLink "ThrowReports$Ways" (29 : Nat) ({ cls := "ThrowReports$Ways", name := "joinFailures", desc := "(LThrowReports$Ways;)V" } : Jvm.MethodName)) ∈ a_wt := a_wt_mem 873 (by decide +kernel) (by decide +kernel)
theorem k_874 : (Jvm.Cond.selects "ThrowReports$Choice" ({ cls := "ThrowReports$Node", name := "findWays", desc := "(LThrowReports$State;)V" } : Jvm.MethodName) ({ cls := "ThrowReports$Choice", name := "findWays", desc := "(LThrowReports$State;)V" } : Jvm.MethodName)) ∈ a_wt := a_wt_mem 874 (by decide +kernel) (by decide +kernel)
theorem k_875 : (Jvm.Cond.instanceMethod ({ cls := "ThrowReports$Choice", name := "findWays", desc := "(LThrowReports$State;)V" } : Jvm.MethodName)) ∈ a_wt := a_wt_mem 875 (by decide +kernel) (by decide +kernel)
theorem k_876 : (Jvm.Cond.code ({ cls := "ThrowReports$Choice", name := "findWays", desc := "(LThrowReports$State;)V" } : Jvm.MethodName) prog_4_method_3_code (2 : Nat) (Option.none : Option Jvm.ClassFile.FieldType)) ∈ a_wt := a_wt_mem 876 (by decide +kernel) (by decide +kernel)
theorem k_877 : (Jvm.Cond.methodLink "ThrowReports$Choice" (42 : Nat) ({ cls := "ThrowReports$Kinds", name := "thoseThatAre", desc := "(I)I" } : Jvm.MethodName)) ∈ a_wt := a_wt_mem 877 (by decide +kernel) (by decide +kernel)
theorem k_878 : (Jvm.Cond.methodLink "ThrowReports$Choice" (48 : Nat) ({ cls := "ThrowReports$Choice", name := "choose", desc := "(LThrowReports$Node;LThrowReports$State;I)V" } : Jvm.MethodName)) ∈ a_wt := a_wt_mem 878 (by decide +kernel) (by decide +kernel)
theorem k_880 : (Jvm.Cond.instanceMethod ({ cls := "ThrowReports$Choice", name := "choose", desc := "(LThrowReports$Node;LThrowReports$State;I)V" } : Jvm.MethodName)) ∈ a_wt := a_wt_mem 880 (by decide +kernel) (by decide +kernel)
theorem k_881 : (Jvm.Cond.code ({ cls := "ThrowReports$Choice", name := "choose", desc := "(LThrowReports$Node;LThrowReports$State;I)V" } : Jvm.MethodName) prog_4_method_4_code (4 : Nat) (Option.none : Option Jvm.ClassFile.FieldType)) ∈ a_wt := a_wt_mem 881 (by decide +kernel) (by decide +kernel)
theorem k_882 : (Jvm.Cond.methodLink "ThrowReports$Choice" (52 : Nat) ({ cls := "ThrowReports$State", name := "become", desc := "(LThrowReports$State;)V" } : Jvm.MethodName)) ∈ a_wt := a_wt_mem 882 (by decide +kernel) (by decide +kernel)
theorem k_883 : (Jvm.Cond.methodLink "ThrowReports$Choice" (56 : Nat) ({ cls := "ThrowReports$State", name := "keep", desc := "(II)V" } : Jvm.MethodName)) ∈ a_wt := a_wt_mem 883 (by decide +kernel) (by decide +kernel)
theorem k_884 : (Jvm.Cond.methodLink "ThrowReports$Choice" (59 : Nat) ({ cls := "ThrowReports$State", name := "isThere", desc := "()Z" } : Jvm.MethodName)) ∈ a_wt := a_wt_mem 884 (by decide +kernel) (by decide +kernel)
theorem k_885 : (Jvm.Cond.methodLink "ThrowReports$Choice" (63 : Nat) ({ cls := "ThrowReports$Node", name := "goThrough", desc := "(LThrowReports$State;)V" } : Jvm.MethodName)) ∈ a_wt := a_wt_mem 885 (by decide +kernel) (by decide +kernel)
theorem k_886 : (Jvm.Cond.methodLink "ThrowReports$Choice" (71 : Nat) ({ cls := "ThrowReports$Ways", name := "join", desc := "(LThrowReports$Ways;)V" } : Jvm.MethodName)) ∈ a_wt := a_wt_mem 886 (by decide +kernel) (by decide +kernel)
theorem k_887 : (Jvm.Cond.selects "ThrowReports$Guard" ({ cls := "ThrowReports$Node", name := "findWays", desc := "(LThrowReports$State;)V" } : Jvm.MethodName) ({ cls := "ThrowReports$Guard", name := "findWays", desc := "(LThrowReports$State;)V" } : Jvm.MethodName)) ∈ a_wt := a_wt_mem 887 (by decide +kernel) (by decide +kernel)
theorem k_888 : (Jvm.Cond.instanceMethod ({ cls := "ThrowReports$Guard", name := "findWays", desc := "(LThrowReports$State;)V" } : Jvm.MethodName)) ∈ a_wt := a_wt_mem 888 (by decide +kernel) (by decide +kernel)
theorem k_889 : (Jvm.Cond.code ({ cls := "ThrowReports$Guard", name := "findWays", desc := "(LThrowReports$State;)V" } : Jvm.MethodName) prog_5_method_4_code (2 : Nat) (Option.none : Option Jvm.ClassFile.FieldType)) ∈ a_wt := a_wt_mem 889 (by decide +kernel) (by decide +kernel)
theorem k_890 : (Jvm.Cond.methodLink "ThrowReports$Guard" (57 : Nat) ({ cls := "ThrowReports$Node", name := "goThrough", desc := "(LThrowReports$State;)V" } : Jvm.MethodName)) ∈ a_wt := a_wt_mem 890 (by decide +kernel) (by decide +kernel)
theorem k_891 : (Jvm.Cond.methodLink "ThrowReports$Guard" (67 : Nat) ({ cls := "ThrowReports$Ways", name := "bits", desc := "()I" } : Jvm.MethodName)) ∈ a_wt := a_wt_mem 891 (by decide +kernel) (by decide +kernel)
theorem k_892 : (Jvm.Cond.instanceMethod ({ cls := "ThrowReports$Ways", name := "bits", desc := "()I" } : Jvm.MethodName)) ∈ a_wt := a_wt_mem 892 (by decide +kernel) (by decide +kernel)
theorem k_893 : (Jvm.Cond.selects "ThrowReports$Ways" ({ cls := "ThrowReports$Ways", name := "bits", desc := "()I" } : Jvm.MethodName) ({ cls := "ThrowReports$Ways", name := "bits", desc := "()I" } : Jvm.MethodName)) ∈ a_wt := a_wt_mem 893 (by decide +kernel) (by decide +kernel)
theorem k_894 : (Jvm.Cond.code ({ cls := "ThrowReports$Ways", name := "bits", desc := "()I" } : Jvm.MethodName) prog_11_method_6_code (3 : Nat) (Option.some Jvm.ClassFile.FieldType.int)) ∈ a_wt := a_wt_mem 894 (by decide +kernel) (by decide +kernel)
theorem k_895 : (Jvm.Cond.methodLink "ThrowReports$Guard" (71 : Nat) ({ cls := "ThrowReports$Guard", name := "sortBodysWays", desc := "()V" } : Jvm.MethodName)) ∈ a_wt := a_wt_mem 895 (by decide +kernel) (by decide +kernel)
theorem k_897 : (Jvm.Cond.instanceMethod ({ cls := "ThrowReports$Guard", name := "sortBodysWays", desc := "()V" } : Jvm.MethodName)) ∈ a_wt := a_wt_mem 897 (by decide +kernel) (by decide +kernel)
theorem k_898 : (Jvm.Cond.code ({ cls := "ThrowReports$Guard", name := "sortBodysWays", desc := "()V" } : Jvm.MethodName) prog_5_method_5_code (3 : Nat) (Option.none : Option Jvm.ClassFile.FieldType)) ∈ a_wt := a_wt_mem 898 (by decide +kernel) (by decide +kernel)
theorem k_899 : (Jvm.Cond.methodLink "ThrowReports$Guard" (93 : Nat) ({ cls := "ThrowReports$Ways", name := "erase", desc := "()V" } : Jvm.MethodName)) ∈ a_wt := a_wt_mem 899 (by decide +kernel) (by decide +kernel)
theorem k_900 : (Jvm.Cond.methodLink "ThrowReports$Guard" (96 : Nat) ({ cls := "ThrowReports$State", name := "erase", desc := "()V" } : Jvm.MethodName)) ∈ a_wt := a_wt_mem 900 (by decide +kernel) (by decide +kernel)
theorem k_901 : (Jvm.Cond.methodLink "ThrowReports$Guard" (82 : Nat) ({ cls := "ThrowReports$Ways", name := "by", desc := "(I)LThrowReports$State;" } : Jvm.MethodName)) ∈ a_wt := a_wt_mem 901 (by decide +kernel) (by decide +kernel)
theorem k_902 : (Jvm.Cond.methodLink "ThrowReports$Guard" (86 : Nat) ({ cls := "ThrowReports$State", name := "join", desc := "(LThrowReports$State;)V" } : Jvm.MethodName)) ∈ a_wt := a_wt_mem 902 (by decide +kernel) (by decide +kernel)
theorem k_903 : (Jvm.Cond.methodLink "ThrowReports$Guard" (74 : Nat) ({ cls := "ThrowReports$State", name := "isThere", desc := "()Z" } : Jvm.MethodName)) ∈ a_wt := a_wt_mem 903 (by decide +kernel) (by decide +kernel)
theorem k_904 : (Jvm.Cond.methodLink "ThrowReports$Guard" (78 : Nat) ({ cls := "ThrowReports$Ways", name := "join", desc := "(LThrowReports$Ways;)V" } : Jvm.MethodName)) ∈ a_wt := a_wt_mem 904 (by decide +kernel) (by decide +kernel)
theorem k_905 : (Jvm.Cond.methodLink "ThrowReports$Guard" (89 : Nat) ({ cls := "ThrowReports$Guard", name := "goOnThroughLast", desc := "(LThrowReports$Node;)V" } : Jvm.MethodName)) ∈ a_wt := a_wt_mem 905 (by decide +kernel) (by decide +kernel)
theorem k_907 : (Jvm.Cond.instanceMethod ({ cls := "ThrowReports$Guard", name := "goOnThroughLast", desc := "(LThrowReports$Node;)V" } : Jvm.MethodName)) ∈ a_wt := a_wt_mem 907 (by decide +kernel) (by decide +kernel)
theorem k_908 : (Jvm.Cond.code ({ cls := "ThrowReports$Guard", name := "goOnThroughLast", desc := "(LThrowReports$Node;)V" } : Jvm.MethodName) prog_5_method_6_code (3 : Nat) (Option.none : Option Jvm.ClassFile.FieldType)) ∈ a_wt := a_wt_mem 908 (by decide +kernel) (by decide +kernel)
theorem k_909 : (Jvm.Cond.methodLink "ThrowReports$Guard" (97 : Nat) ({ cls := "ThrowReports$Ways", name := "joinFailures", desc := "(LThrowReports$Ways;)V" } : Jvm.MethodName)) ∈ a_wt := a_wt_mem 909 (by decide +kernel) (by decide +kernel)
theorem k_910 : (Jvm.Cond.methodLink "ThrowReports$Node" (43 : Nat) ({ cls := "ThrowReports$Ways", name := "bits", desc := "()I" } : Jvm.MethodName)) ∈ a_wt := a_wt_mem 910 (by decide +kernel) (by decide +kernel)
theorem k_911 : (Jvm.Cond.methodLink "ThrowReportsLaw" (80 : Nat) ({ cls := "ThrowReports", name := "reached", desc := "(I)I" } : Jvm.MethodName)) ∈ a_wt := a_wt_mem 911 (by decide +kernel) (by decide +kernel)
theorem k_912 : (Jvm.Cond.instanceMethod ({ cls := "ThrowReports", name := "reached", desc := "(I)I" } : Jvm.MethodName)) ∈ a_wt := a_wt_mem 912 (by decide +kernel) (by decide +kernel)
theorem k_913 : (Jvm.Cond.selects "ThrowReports" ({ cls := "ThrowReports", name := "reached", desc := "(I)I" } : Jvm.MethodName) ({ cls := "ThrowReports", name := "reached", desc := "(I)I" } : Jvm.MethodName)) ∈ a_wt := a_wt_mem 913 (by decide +kernel) (by decide +kernel)
theorem k_914 : (Jvm.Cond.code ({ cls := "ThrowReports", name := "reached", desc := "(I)I" } : Jvm.MethodName) prog_1_method_17_code (2 : Nat) (Option.some Jvm.ClassFile.FieldType.int)) ∈ a_wt := a_wt_mem 914 (by decide +kernel) (by decide +kernel)
theorem k_915 : (Jvm.Cond.methodLink "ThrowReports" (164 : Nat) ({ cls := "ThrowReports$Node", name := "isReached", desc := "()Z" } : Jvm.MethodName)) ∈ a_wt := a_wt_mem 915 (by decide +kernel) (by decide +kernel)
theorem k_916 : (Jvm.Cond.instanceMethod ({ cls := "ThrowReports$Node", name := "isReached", desc := "()Z" } : Jvm.MethodName)) ∈ a_wt := a_wt_mem 916 (by decide +kernel) (by decide +kernel)
theorem k_917 : (Jvm.Cond.sameMethod "ThrowReports$Node" "ThrowReports$Node" "isReached" "()Z") ∈ a_wt := a_wt_mem 917 (by decide +kernel) (by decide +kernel)
theorem k_918 : (Jvm.Cond.selects "ThrowReports$Act" ({ cls := "ThrowReports$Node", name := "isReached", desc := "()Z" } : Jvm.MethodName) ({ cls := "ThrowReports$Node", name := "isReached", desc := "()Z" } : Jvm.MethodName)) ∈ a_wt := a_wt_mem 918 (by decide +kernel) (by decide +kernel)
theorem k_919 : (Jvm.Cond.selects "ThrowReports$Both" ({ cls := "ThrowReports$Node", name := "isReached", desc := "()Z" } : Jvm.MethodName) ({ cls := "ThrowReports$Node", name := "isReached", desc := "()Z" } : Jvm.MethodName)) ∈ a_wt := a_wt_mem 919 (by decide +kernel) (by decide +kernel)
theorem k_920 : (Jvm.Cond.selects "ThrowReports$Choice" ({ cls := "ThrowReports$Node", name := "isReached", desc := "()Z" } : Jvm.MethodName) ({ cls := "ThrowReports$Node", name := "isReached", desc := "()Z" } : Jvm.MethodName)) ∈ a_wt := a_wt_mem 920 (by decide +kernel) (by decide +kernel)
theorem k_921 : (Jvm.Cond.selects "ThrowReports$Guard" ({ cls := "ThrowReports$Node", name := "isReached", desc := "()Z" } : Jvm.MethodName) ({ cls := "ThrowReports$Node", name := "isReached", desc := "()Z" } : Jvm.MethodName)) ∈ a_wt := a_wt_mem 921 (by decide +kernel) (by decide +kernel)
theorem k_922 : (Jvm.Cond.code ({ cls := "ThrowReports$Node", name := "isReached", desc := "()Z" } : Jvm.MethodName) prog_8_method_5_code (1 : Nat) (Option.some Jvm.ClassFile.FieldType.boolean)) ∈ a_wt := a_wt_mem 922 (by decide +kernel) (by decide +kernel)
theorem k_923 : (Jvm.Cond.methodLink "ThrowReports$Node" (47 : Nat) ({ cls := "ThrowReports$State", name := "isThere", desc := "()Z" } : Jvm.MethodName)) ∈ a_wt := a_wt_mem 923 (by decide +kernel) (by decide +kernel)
theorem k_924 : (Jvm.Cond.methodLink "ThrowReportsLaw" (84 : Nat) ({ cls := "ThrowReports", name := "may", desc := "(I)I" } : Jvm.MethodName)) ∈ a_wt := a_wt_mem 924 (by decide +kernel) (by decide +kernel)
theorem k_925 : (Jvm.Cond.instanceMethod ({ cls := "ThrowReports", name := "may", desc := "(I)I" } : Jvm.MethodName)) ∈ a_wt := a_wt_mem 925 (by decide +kernel) (by decide +kernel)
theorem k_926 : (Jvm.Cond.selects "ThrowReports" ({ cls := "ThrowReports", name := "may", desc := "(I)I" } : Jvm.MethodName) ({ cls := "ThrowReports", name := "may", desc := "(I)I" } : Jvm.MethodName)) ∈ a_wt := a_wt_mem 926 (by decide +kernel) (by decide +kernel)
theorem k_927 : (Jvm.Cond.code ({ cls := "ThrowReports", name := "may", desc := "(I)I" } : Jvm.MethodName) prog_1_method_18_code (2 : Nat) (Option.some Jvm.ClassFile.FieldType.int)) ∈ a_wt := a_wt_mem 927 (by decide +kernel) (by decide +kernel)
theorem k_928 : (Jvm.Cond.methodLink "ThrowReportsLaw" (88 : Nat) ({ cls := "ThrowReports", name := "ahead", desc := "(II)I" } : Jvm.MethodName)) ∈ a_wt := a_wt_mem 928 (by decide +kernel) (by decide +kernel)
theorem k_929 : (Jvm.Cond.instanceMethod ({ cls := "ThrowReports", name := "ahead", desc := "(II)I" } : Jvm.MethodName)) ∈ a_wt := a_wt_mem 929 (by decide +kernel) (by decide +kernel)
theorem k_930 : (Jvm.Cond.selects "ThrowReports" ({ cls := "ThrowReports", name := "ahead", desc := "(II)I" } : Jvm.MethodName) ({ cls := "ThrowReports", name := "ahead", desc := "(II)I" } : Jvm.MethodName)) ∈ a_wt := a_wt_mem 930 (by decide +kernel) (by decide +kernel)
theorem k_931 : (Jvm.Cond.code ({ cls := "ThrowReports", name := "ahead", desc := "(II)I" } : Jvm.MethodName) prog_1_method_19_code (3 : Nat) (Option.some Jvm.ClassFile.FieldType.int)) ∈ a_wt := a_wt_mem 931 (by decide +kernel) (by decide +kernel)
theorem k_932 : (Jvm.Cond.methodLink "ThrowReportsLaw" (92 : Nat) ({ cls := "ThrowReports", name := "guarded", desc := "(II)I" } : Jvm.MethodName)) ∈ a_wt := a_wt_mem 932 (by decide +kernel) (by decide +kernel)
theorem k_933 : (Jvm.Cond.instanceMethod ({ cls := "ThrowReports", name := "guarded", desc := "(II)I" } : Jvm.MethodName)) ∈ a_wt := a_wt_mem 933 (by decide +kernel) (by decide +kernel)
theorem k_934 : (Jvm.Cond.selects "ThrowReports" ({ cls := "ThrowReports", name := "guarded", desc := "(II)I" } : Jvm.MethodName) ({ cls := "ThrowReports", name := "guarded", desc := "(II)I" } : Jvm.MethodName)) ∈ a_wt := a_wt_mem 934 (by decide +kernel) (by decide +kernel)
theorem k_935 : (Jvm.Cond.code ({ cls := "ThrowReports", name := "guarded", desc := "(II)I" } : Jvm.MethodName) prog_1_method_20_code (5 : Nat) (Option.some Jvm.ClassFile.FieldType.int)) ∈ a_wt := a_wt_mem 935 (by decide +kernel) (by decide +kernel)
theorem k_936 : (Jvm.Cond.methodLink "ThrowReports" (171 : Nat) ({ cls := "ThrowReports$Guard", name := "vainFailures", desc := "()I" } : Jvm.MethodName)) ∈ a_wt := a_wt_mem 936 (by decide +kernel) (by decide +kernel)
theorem k_937 : (Jvm.Cond.instanceMethod ({ cls := "ThrowReports$Guard", name := "vainFailures", desc := "()I" } : Jvm.MethodName)) ∈ a_wt := a_wt_mem 937 (by decide +kernel) (by decide +kernel)
theorem k_938 : (Jvm.Cond.selects "ThrowReports$Guard" ({ cls := "ThrowReports$Guard", name := "vainFailures", desc := "()I" } : Jvm.MethodName) ({ cls := "ThrowReports$Guard", name := "vainFailures", desc := "()I" } : Jvm.MethodName)) ∈ a_wt := a_wt_mem 938 (by decide +kernel) (by decide +kernel)
theorem k_939 : (Jvm.Cond.code ({ cls := "ThrowReports$Guard", name := "vainFailures", desc := "()I" } : Jvm.MethodName) prog_5_method_7_code (1 : Nat) (Option.some Jvm.ClassFile.FieldType.int)) ∈ a_wt := a_wt_mem 939 (by decide +kernel) (by decide +kernel)
theorem k_940 : (Jvm.Cond.methodLink "ThrowReports$Guard" (103 : Nat) ({ cls := "ThrowReports$Guard", name := "isReached", desc := "()Z" } : Jvm.MethodName)) ∈ a_wt := a_wt_mem 940 (by decide +kernel) (by decide +kernel)
theorem k_941 : (Jvm.Cond.sameMethod "ThrowReports$Guard" "ThrowReports$Node" "isReached" "()Z") ∈ a_wt := a_wt_mem 941 (by decide +kernel) (by decide +kernel)
theorem k_943 : (Jvm.Cond.selects "ThrowReports$Guard" ({ cls := "ThrowReports$Guard", name := "isReached", desc := "()Z" } : Jvm.MethodName) ({ cls := "ThrowReports$Node", name := "isReached", desc := "()Z" } : Jvm.MethodName)) ∈ a_wt := a_wt_mem 943 (by decide +kernel) (by decide +kernel)
theorem k_944 : (Jvm.Cond.classLink "ThrowReportsLaw" (10 : Nat) "ThrowReportsModel") ∈ a_wt := a_wt_mem 944 (by decide +kernel) (by decide +kernel)
theorem k_945 : (Jvm.Cond.instantiable "ThrowReportsModel" (40 : Nat)) ∈ a_wt := a_wt_mem 945 (by decide +kernel) (by decide +kernel)
theorem k_946 : (Jvm.Cond.methodLink "ThrowReportsLaw" (12 : Nat) ({ cls := "ThrowReportsModel", name := "<init>", desc := "()V" } : Jvm.MethodName)) ∈ a_wt := a_wt_mem 946 (by decide +kernel) (by decide +kernel)
theorem k_947 : (Jvm.Cond.instanceMethod ({ cls := "ThrowReportsModel", name := "<init>", desc := "()V" } : Jvm.MethodName)) ∈ a_wt := a_wt_mem 947 (by decide +kernel) (by decide +kernel)
theorem k_948 : (Jvm.Cond.code ({ cls := "ThrowReportsModel", name := "<init>", desc := "()V" } : Jvm.MethodName) prog_13_method_1_code (1 : Nat) (Option.none : Option Jvm.ClassFile.FieldType)) ∈ a_wt := a_wt_mem 948 (by decide +kernel) (by decide +kernel)
theorem k_949 : (Jvm.Cond.methodLink "ThrowReportsModel" (1 : Nat) ({ cls := "java/lang/Object", name := "<init>", desc := "()V" } : Jvm.MethodName)) ∈ a_wt := a_wt_mem 949 (by decide +kernel) (by decide +kernel)
theorem k_950 : (Jvm.Cond.fieldLink "ThrowReportsModel" (111 : Nat) "ThrowReportsModel" "things" "I") ∈ a_wt := a_wt_mem 950 (by decide +kernel) (by decide +kernel)
theorem k_951 : (Jvm.Cond.fieldLink "ThrowReportsModel" (114 : Nat) "ThrowReportsModel" "items" "I") ∈ a_wt := a_wt_mem 951 (by decide +kernel) (by decide +kernel)
theorem k_952 : (Jvm.Cond.fieldLink "ThrowReportsModel" (7 : Nat) "ThrowReportsModel" "kind" "[I") ∈ a_wt := a_wt_mem 952 (by decide +kernel) (by decide +kernel)
theorem k_953 : (Jvm.Cond.fieldLink "ThrowReportsModel" (13 : Nat) "ThrowReportsModel" "begin" "[I") ∈ a_wt := a_wt_mem 953 (by decide +kernel) (by decide +kernel)
theorem k_954 : (Jvm.Cond.fieldLink "ThrowReportsModel" (16 : Nat) "ThrowReportsModel" "length" "[I") ∈ a_wt := a_wt_mem 954 (by decide +kernel) (by decide +kernel)
theorem k_955 : (Jvm.Cond.fieldLink "ThrowReportsModel" (19 : Nat) "ThrowReportsModel" "number" "[I") ∈ a_wt := a_wt_mem 955 (by decide +kernel) (by decide +kernel)
theorem k_956 : (Jvm.Cond.fieldLink "ThrowReportsModel" (22 : Nat) "ThrowReportsModel" "item" "[J") ∈ a_wt := a_wt_mem 956 (by decide +kernel) (by decide +kernel)
theorem k_957 : (Jvm.Cond.fieldLink "ThrowReportsModel" (26 : Nat) "ThrowReportsModel" "slots" "[I") ∈ a_wt := a_wt_mem 957 (by decide +kernel) (by decide +kernel)
theorem k_958 : (Jvm.Cond.fieldLink "ThrowReportsModel" (29 : Nat) "ThrowReportsModel" "registers" "[J") ∈ a_wt := a_wt_mem 958 (by decide +kernel) (by decide +kernel)
theorem k_959 : (Jvm.Cond.fieldLink "ThrowReportsModel" (121 : Nat) "ThrowReportsModel" "nodes" "I") ∈ a_wt := a_wt_mem 959 (by decide +kernel) (by decide +kernel)
theorem k_960 : (Jvm.Cond.fieldLink "ThrowReportsModel" (32 : Nat) "ThrowReportsModel" "sort" "[I") ∈ a_wt := a_wt_mem 960 (by decide +kernel) (by decide +kernel)
theorem k_961 : (Jvm.Cond.fieldLink "ThrowReportsModel" (35 : Nat) "ThrowReportsModel" "op" "[I") ∈ a_wt := a_wt_mem 961 (by decide +kernel) (by decide +kernel)
theorem k_962 : (Jvm.Cond.fieldLink "ThrowReportsModel" (38 : Nat) "ThrowReportsModel" "na" "[I") ∈ a_wt := a_wt_mem 962 (by decide +kernel) (by decide +kernel)
theorem k_963 : (Jvm.Cond.fieldLink "ThrowReportsModel" (41 : Nat) "ThrowReportsModel" "nb" "[I") ∈ a_wt := a_wt_mem 963 (by decide +kernel) (by decide +kernel)
theorem k_964 : (Jvm.Cond.fieldLink "ThrowReportsModel" (44 : Nat) "ThrowReportsModel" "nc" "[I") ∈ a_wt := a_wt_mem 964 (by decide +kernel) (by decide +kernel)
theorem k_965 : (Jvm.Cond.fieldLink "ThrowReportsModel" (47 : Nat) "ThrowReportsModel" "nd" "[I") ∈ a_wt := a_wt_mem 965 (by decide +kernel) (by decide +kernel)
theorem k_966 : (Jvm.Cond.fieldLink "ThrowReportsModel" (50 : Nat) "ThrowReportsModel" "cost" "[I") ∈ a_wt := a_wt_mem 966 (by decide +kernel) (by decide +kernel)
theorem k_967 : (Jvm.Cond.fieldLink "ThrowReportsModel" (235 : Nat) "ThrowReportsModel" "begun" "I") ∈ a_wt := a_wt_mem 967 (by decide +kernel) (by decide +kernel)
theorem k_968 : (Jvm.Cond.fieldLink "ThrowReportsModel" (241 : Nat) "ThrowReportsModel" "failed" "I") ∈ a_wt := a_wt_mem 968 (by decide +kernel) (by decide +kernel)
theorem k_969 : (Jvm.Cond.fieldLink "ThrowReportsModel" (177 : Nat) "ThrowReportsModel" "came" "I") ∈ a_wt := a_wt_mem 969 (by decide +kernel) (by decide +kernel)
theorem k_970 : (Jvm.Cond.fieldLink "ThrowReportsModel" (251 : Nat) "ThrowReportsModel" "lasts" "I") ∈ a_wt := a_wt_mem 970 (by decide +kernel) (by decide +kernel)
theorem k_971 : (Jvm.Cond.fieldLink "ThrowReportsModel" (248 : Nat) "ThrowReportsModel" "losts" "I") ∈ a_wt := a_wt_mem 971 (by decide +kernel) (by decide +kernel)
theorem k_972 : (Jvm.Cond.fieldLink "ThrowReportsModel" (53 : Nat) "ThrowReportsModel" "latest" "I") ∈ a_wt := a_wt_mem 972 (by decide +kernel) (by decide +kernel)
theorem k_973 : (Jvm.Cond.fieldLink "ThrowReportsModel" (57 : Nat) "ThrowReportsModel" "middle" "[J") ∈ a_wt := a_wt_mem 973 (by decide +kernel) (by decide +kernel)
theorem k_974 : (Jvm.Cond.fieldLink "ThrowReportsModel" (60 : Nat) "ThrowReportsModel" "stack" "[I") ∈ a_wt := a_wt_mem 974 (by decide +kernel) (by decide +kernel)
theorem k_975 : (Jvm.Cond.fieldLink "ThrowReportsModel" (63 : Nat) "ThrowReportsModel" "phase" "[I") ∈ a_wt := a_wt_mem 975 (by decide +kernel) (by decide +kernel)
theorem k_976 : (Jvm.Cond.fieldLink "ThrowReportsModel" (66 : Nat) "ThrowReportsModel" "held" "[I") ∈ a_wt := a_wt_mem 976 (by decide +kernel) (by decide +kernel)
theorem k_977 : (Jvm.Cond.fieldLink "ThrowReportsModel" (228 : Nat) "ThrowReportsModel" "top" "I") ∈ a_wt := a_wt_mem 977 (by decide +kernel) (by decide +kernel)
theorem k_978 : (Jvm.Cond.fieldLink "ThrowReportsModel" (142 : Nat) "ThrowReportsModel" "reports" "Z") ∈ a_wt := a_wt_mem 978 (by decide +kernel) (by decide +kernel)
theorem k_979 : (Jvm.Cond.fieldLink "ThrowReportsModel" (69 : Nat) "ThrowReportsModel" "start" "[I") ∈ a_wt := a_wt_mem 979 (by decide +kernel) (by decide +kernel)
theorem k_980 : (Jvm.Cond.fieldLink "ThrowReportsModel" (72 : Nat) "ThrowReportsModel" "startTold" "[Z") ∈ a_wt := a_wt_mem 980 (by decide +kernel) (by decide +kernel)
theorem k_981 : (Jvm.Cond.fieldLink "ThrowReportsModel" (76 : Nat) "ThrowReportsModel" "reached" "[Z") ∈ a_wt := a_wt_mem 981 (by decide +kernel) (by decide +kernel)
theorem k_982 : (Jvm.Cond.fieldLink "ThrowReportsModel" (79 : Nat) "ThrowReportsModel" "mays" "[I") ∈ a_wt := a_wt_mem 982 (by decide +kernel) (by decide +kernel)
theorem k_983 : (Jvm.Cond.fieldLink "ThrowReportsModel" (82 : Nat) "ThrowReportsModel" "aheads" "[I") ∈ a_wt := a_wt_mem 983 (by decide +kernel) (by decide +kernel)
theorem k_984 : (Jvm.Cond.fieldLink "ThrowReportsModel" (85 : Nat) "ThrowReportsModel" "bodies" "[I") ∈ a_wt := a_wt_mem 984 (by decide +kernel) (by decide +kernel)
theorem k_985 : (Jvm.Cond.fieldLink "ThrowReportsModel" (88 : Nat) "ThrowReportsModel" "lost" "[I") ∈ a_wt := a_wt_mem 985 (by decide +kernel) (by decide +kernel)
theorem k_986 : (Jvm.Cond.fieldLink "ThrowReportsModel" (91 : Nat) "ThrowReportsModel" "outs" "[I") ∈ a_wt := a_wt_mem 986 (by decide +kernel) (by decide +kernel)
theorem k_987 : (Jvm.Cond.fieldLink "ThrowReportsModel" (94 : Nat) "ThrowReportsModel" "ways" "[I") ∈ a_wt := a_wt_mem 987 (by decide +kernel) (by decide +kernel)
theorem k_988 : (Jvm.Cond.fieldLink "ThrowReportsModel" (97 : Nat) "ThrowReportsModel" "ins" "[I") ∈ a_wt := a_wt_mem 988 (by decide +kernel) (by decide +kernel)
theorem k_989 : (Jvm.Cond.fieldLink "ThrowReportsModel" (100 : Nat) "ThrowReportsModel" "now" "[I") ∈ a_wt := a_wt_mem 989 (by decide +kernel) (by decide +kernel)
theorem k_990 : (Jvm.Cond.lays "ThrowReportsModel" "ThrowReportsModel" "things" "I") ∈ a_wt := a_wt_mem 990 (by decide +kernel) (by decide +kernel)
theorem k_992 : (Jvm.Cond.lays "ThrowReportsModel" "ThrowReportsModel" "items" "I") ∈ a_wt := a_wt_mem 992 (by decide +kernel) (by decide +kernel)
theorem k_994 : (Jvm.Cond.laysFinal "ThrowReportsModel" "ThrowReportsModel" "kind" "[I") ∈ a_wt := a_wt_mem 994 (by decide +kernel) (by decide +kernel)
theorem k_996 : (Jvm.Cond.laysFinal "ThrowReportsModel" "ThrowReportsModel" "begin" "[I") ∈ a_wt := a_wt_mem 996 (by decide +kernel) (by decide +kernel)
theorem k_998 : (Jvm.Cond.laysFinal "ThrowReportsModel" "ThrowReportsModel" "length" "[I") ∈ a_wt := a_wt_mem 998 (by decide +kernel) (by decide +kernel)
theorem k_1000 : (Jvm.Cond.laysFinal "ThrowReportsModel" "ThrowReportsModel" "number" "[I") ∈ a_wt := a_wt_mem 1000 (by decide +kernel) (by decide +kernel)
theorem k_1002 : (Jvm.Cond.laysFinal "ThrowReportsModel" "ThrowReportsModel" "item" "[J") ∈ a_wt := a_wt_mem 1002 (by decide +kernel) (by decide +kernel)
theorem k_1004 : (Jvm.Cond.laysFinal "ThrowReportsModel" "ThrowReportsModel" "slots" "[I") ∈ a_wt := a_wt_mem 1004 (by decide +kernel) (by decide +kernel)
theorem k_1006 : (Jvm.Cond.laysFinal "ThrowReportsModel" "ThrowReportsModel" "registers" "[J") ∈ a_wt := a_wt_mem 1006 (by decide +kernel) (by decide +kernel)
theorem k_1008 : (Jvm.Cond.lays "ThrowReportsModel" "ThrowReportsModel" "nodes" "I") ∈ a_wt := a_wt_mem 1008 (by decide +kernel) (by decide +kernel)
theorem k_1010 : (Jvm.Cond.laysFinal "ThrowReportsModel" "ThrowReportsModel" "sort" "[I") ∈ a_wt := a_wt_mem 1010 (by decide +kernel) (by decide +kernel)
theorem k_1012 : (Jvm.Cond.laysFinal "ThrowReportsModel" "ThrowReportsModel" "op" "[I") ∈ a_wt := a_wt_mem 1012 (by decide +kernel) (by decide +kernel)
theorem k_1014 : (Jvm.Cond.laysFinal "ThrowReportsModel" "ThrowReportsModel" "na" "[I") ∈ a_wt := a_wt_mem 1014 (by decide +kernel) (by decide +kernel)
theorem k_1016 : (Jvm.Cond.laysFinal "ThrowReportsModel" "ThrowReportsModel" "nb" "[I") ∈ a_wt := a_wt_mem 1016 (by decide +kernel) (by decide +kernel)
theorem k_1018 : (Jvm.Cond.laysFinal "ThrowReportsModel" "ThrowReportsModel" "nc" "[I") ∈ a_wt := a_wt_mem 1018 (by decide +kernel) (by decide +kernel)
theorem k_1020 : (Jvm.Cond.laysFinal "ThrowReportsModel" "ThrowReportsModel" "nd" "[I") ∈ a_wt := a_wt_mem 1020 (by decide +kernel) (by decide +kernel)
theorem k_1022 : (Jvm.Cond.laysFinal "ThrowReportsModel" "ThrowReportsModel" "cost" "[I") ∈ a_wt := a_wt_mem 1022 (by decide +kernel) (by decide +kernel)
theorem k_1024 : (Jvm.Cond.lays "ThrowReportsModel" "ThrowReportsModel" "begun" "I") ∈ a_wt := a_wt_mem 1024 (by decide +kernel) (by decide +kernel)
theorem k_1026 : (Jvm.Cond.lays "ThrowReportsModel" "ThrowReportsModel" "failed" "I") ∈ a_wt := a_wt_mem 1026 (by decide +kernel) (by decide +kernel)
theorem k_1028 : (Jvm.Cond.lays "ThrowReportsModel" "ThrowReportsModel" "came" "I") ∈ a_wt := a_wt_mem 1028 (by decide +kernel) (by decide +kernel)
theorem k_1030 : (Jvm.Cond.lays "ThrowReportsModel" "ThrowReportsModel" "lasts" "I") ∈ a_wt := a_wt_mem 1030 (by decide +kernel) (by decide +kernel)
theorem k_1032 : (Jvm.Cond.lays "ThrowReportsModel" "ThrowReportsModel" "losts" "I") ∈ a_wt := a_wt_mem 1032 (by decide +kernel) (by decide +kernel)
theorem k_1034 : (Jvm.Cond.lays "ThrowReportsModel" "ThrowReportsModel" "latest" "I") ∈ a_wt := a_wt_mem 1034 (by decide +kernel) (by decide +kernel)
theorem k_1036 : (Jvm.Cond.laysFinal "ThrowReportsModel" "ThrowReportsModel" "middle" "[J") ∈ a_wt := a_wt_mem 1036 (by decide +kernel) (by decide +kernel)
theorem k_1038 : (Jvm.Cond.laysFinal "ThrowReportsModel" "ThrowReportsModel" "stack" "[I") ∈ a_wt := a_wt_mem 1038 (by decide +kernel) (by decide +kernel)
theorem k_1040 : (Jvm.Cond.laysFinal "ThrowReportsModel" "ThrowReportsModel" "phase" "[I") ∈ a_wt := a_wt_mem 1040 (by decide +kernel) (by decide +kernel)
theorem k_1042 : (Jvm.Cond.laysFinal "ThrowReportsModel" "ThrowReportsModel" "held" "[I") ∈ a_wt := a_wt_mem 1042 (by decide +kernel) (by decide +kernel)
theorem k_1044 : (Jvm.Cond.lays "ThrowReportsModel" "ThrowReportsModel" "top" "I") ∈ a_wt := a_wt_mem 1044 (by decide +kernel) (by decide +kernel)
theorem k_1046 : (Jvm.Cond.lays "ThrowReportsModel" "ThrowReportsModel" "reports" "Z") ∈ a_wt := a_wt_mem 1046 (by decide +kernel) (by decide +kernel)
theorem k_1048 : (Jvm.Cond.laysFinal "ThrowReportsModel" "ThrowReportsModel" "start" "[I") ∈ a_wt := a_wt_mem 1048 (by decide +kernel) (by decide +kernel)
theorem k_1050 : (Jvm.Cond.laysFinal "ThrowReportsModel" "ThrowReportsModel" "startTold" "[Z") ∈ a_wt := a_wt_mem 1050 (by decide +kernel) (by decide +kernel)
theorem k_1052 : (Jvm.Cond.laysFinal "ThrowReportsModel" "ThrowReportsModel" "reached" "[Z") ∈ a_wt := a_wt_mem 1052 (by decide +kernel) (by decide +kernel)
theorem k_1054 : (Jvm.Cond.laysFinal "ThrowReportsModel" "ThrowReportsModel" "mays" "[I") ∈ a_wt := a_wt_mem 1054 (by decide +kernel) (by decide +kernel)
theorem k_1056 : (Jvm.Cond.laysFinal "ThrowReportsModel" "ThrowReportsModel" "aheads" "[I") ∈ a_wt := a_wt_mem 1056 (by decide +kernel) (by decide +kernel)
theorem k_1058 : (Jvm.Cond.laysFinal "ThrowReportsModel" "ThrowReportsModel" "bodies" "[I") ∈ a_wt := a_wt_mem 1058 (by decide +kernel) (by decide +kernel)
theorem k_1060 : (Jvm.Cond.laysFinal "ThrowReportsModel" "ThrowReportsModel" "lost" "[I") ∈ a_wt := a_wt_mem 1060 (by decide +kernel) (by decide +kernel)
theorem k_1062 : (Jvm.Cond.laysFinal "ThrowReportsModel" "ThrowReportsModel" "outs" "[I") ∈ a_wt := a_wt_mem 1062 (by decide +kernel) (by decide +kernel)
theorem k_1064 : (Jvm.Cond.laysFinal "ThrowReportsModel" "ThrowReportsModel" "ways" "[I") ∈ a_wt := a_wt_mem 1064 (by decide +kernel) (by decide +kernel)
theorem k_1066 : (Jvm.Cond.laysFinal "ThrowReportsModel" "ThrowReportsModel" "ins" "[I") ∈ a_wt := a_wt_mem 1066 (by decide +kernel) (by decide +kernel)
theorem k_1068 : (Jvm.Cond.laysFinal "ThrowReportsModel" "ThrowReportsModel" "now" "[I") ∈ a_wt := a_wt_mem 1068 (by decide +kernel) (by decide +kernel)
theorem k_1070 : (Jvm.Cond.superclass "ThrowReportsModel" "java/lang/Object") ∈ a_wt := a_wt_mem 1070 (by decide +kernel) (by decide +kernel)
theorem k_1071 : (Jvm.Cond.arrayClass Jvm.ClassFile.FieldType.boolean) ∈ a_wt := a_wt_mem 1071 (by decide +kernel) (by decide +kernel)
theorem k_1072 : (Jvm.Cond.methodLink "ThrowReportsLaw" (17 : Nat) ({ cls := "ThrowReportsModel", name := "act", desc := "(IIIII)I" } : Jvm.MethodName)) ∈ a_wt := a_wt_mem 1072 (by decide +kernel) (by decide +kernel)
theorem k_1073 : (Jvm.Cond.instanceMethod ({ cls := "ThrowReportsModel", name := "act", desc := "(IIIII)I" } : Jvm.MethodName)) ∈ a_wt := a_wt_mem 1073 (by decide +kernel) (by decide +kernel)
theorem k_1074 : (Jvm.Cond.selects "ThrowReportsModel" ({ cls := "ThrowReportsModel", name := "act", desc := "(IIIII)I" } : Jvm.MethodName) ({ cls := "ThrowReportsModel", name := "act", desc := "(IIIII)I" } : Jvm.MethodName)) ∈ a_wt := a_wt_mem 1074 (by decide +kernel) (by decide +kernel)
theorem k_1075 : (Jvm.Cond.code ({ cls := "ThrowReportsModel", name := "act", desc := "(IIIII)I" } : Jvm.MethodName) prog_13_method_12_code (6 : Nat) (Option.some Jvm.ClassFile.FieldType.int)) ∈ a_wt := a_wt_mem 1075 (by decide +kernel) (by decide +kernel)
theorem k_1076 : (Jvm.Cond.methodLink "ThrowReportsModel" (131 : Nat) ({ cls := "ThrowReportsModel", name := "isAct", desc := "(IIIII)Z" } : Jvm.MethodName)) ∈ a_wt := a_wt_mem 1076 (by decide +kernel) (by decide +kernel)
theorem k_1077 : (Jvm.Cond.static ({ cls := "ThrowReportsModel", name := "isAct", desc := "(IIIII)Z" } : Jvm.MethodName)) ∈ a_wt := a_wt_mem 1077 (by decide +kernel) (by decide +kernel)
theorem k_1078 : (Jvm.Cond.code ({ cls := "ThrowReportsModel", name := "isAct", desc := "(IIIII)Z" } : Jvm.MethodName) prog_13_method_11_code (5 : Nat) (Option.some Jvm.ClassFile.FieldType.boolean)) ∈ a_wt := a_wt_mem 1078 (by decide +kernel) (by decide +kernel)
theorem k_1079 : (Jvm.Cond.methodLink "ThrowReportsModel" (124 : Nat) ({ cls := "ThrowReportsModel", name := "isSlot", desc := "(I)Z" } : Jvm.MethodName)) ∈ a_wt := a_wt_mem 1079 (by decide +kernel) (by decide +kernel)
theorem k_1080 : (Jvm.Cond.static ({ cls := "ThrowReportsModel", name := "isSlot", desc := "(I)Z" } : Jvm.MethodName)) ∈ a_wt := a_wt_mem 1080 (by decide +kernel) (by decide +kernel)
theorem k_1081 : (Jvm.Cond.code ({ cls := "ThrowReportsModel", name := "isSlot", desc := "(I)Z" } : Jvm.MethodName) prog_13_method_3_code (1 : Nat) (Option.some Jvm.ClassFile.FieldType.boolean)) ∈ a_wt := a_wt_mem 1081 (by decide +kernel) (by decide +kernel)
theorem k_1082 : (Jvm.Cond.methodLink "ThrowReportsModel" (103 : Nat) ({ cls := "ThrowReportsModel", name := "in", desc := "(III)Z" } : Jvm.MethodName)) ∈ a_wt := a_wt_mem 1082 (by decide +kernel) (by decide +kernel)
theorem k_1083 : (Jvm.Cond.static ({ cls := "ThrowReportsModel", name := "in", desc := "(III)Z" } : Jvm.MethodName)) ∈ a_wt := a_wt_mem 1083 (by decide +kernel) (by decide +kernel)
theorem k_1084 : (Jvm.Cond.code ({ cls := "ThrowReportsModel", name := "in", desc := "(III)Z" } : Jvm.MethodName) prog_13_method_2_code (3 : Nat) (Option.some Jvm.ClassFile.FieldType.boolean)) ∈ a_wt := a_wt_mem 1084 (by decide +kernel) (by decide +kernel)
theorem k_1085 : (Jvm.Cond.methodLink "ThrowReportsModel" (128 : Nat) ({ cls := "ThrowReportsModel", name := "isRegister", desc := "(I)Z" } : Jvm.MethodName)) ∈ a_wt := a_wt_mem 1085 (by decide +kernel) (by decide +kernel)
theorem k_1086 : (Jvm.Cond.static ({ cls := "ThrowReportsModel", name := "isRegister", desc := "(I)Z" } : Jvm.MethodName)) ∈ a_wt := a_wt_mem 1086 (by decide +kernel) (by decide +kernel)
theorem k_1087 : (Jvm.Cond.code ({ cls := "ThrowReportsModel", name := "isRegister", desc := "(I)Z" } : Jvm.MethodName) prog_13_method_4_code (1 : Nat) (Option.some Jvm.ClassFile.FieldType.boolean)) ∈ a_wt := a_wt_mem 1087 (by decide +kernel) (by decide +kernel)
theorem k_1088 : (Jvm.Cond.methodLink "ThrowReportsModel" (135 : Nat) ({ cls := "ThrowReportsModel", name := "node", desc := "(IIIIIII)I" } : Jvm.MethodName)) ∈ a_wt := a_wt_mem 1088 (by decide +kernel) (by decide +kernel)
theorem k_1090 : (Jvm.Cond.instanceMethod ({ cls := "ThrowReportsModel", name := "node", desc := "(IIIIIII)I" } : Jvm.MethodName)) ∈ a_wt := a_wt_mem 1090 (by decide +kernel) (by decide +kernel)
theorem k_1091 : (Jvm.Cond.code ({ cls := "ThrowReportsModel", name := "node", desc := "(IIIIIII)I" } : Jvm.MethodName) prog_13_method_10_code (8 : Nat) (Option.some Jvm.ClassFile.FieldType.int)) ∈ a_wt := a_wt_mem 1091 (by decide +kernel) (by decide +kernel)
theorem k_1092 : (Jvm.Cond.methodLink "ThrowReportsLaw" (22 : Nat) ({ cls := "ThrowReportsModel", name := "both", desc := "(II)I" } : Jvm.MethodName)) ∈ a_wt := a_wt_mem 1092 (by decide +kernel) (by decide +kernel)
theorem k_1093 : (Jvm.Cond.instanceMethod ({ cls := "ThrowReportsModel", name := "both", desc := "(II)I" } : Jvm.MethodName)) ∈ a_wt := a_wt_mem 1093 (by decide +kernel) (by decide +kernel)
theorem k_1094 : (Jvm.Cond.selects "ThrowReportsModel" ({ cls := "ThrowReportsModel", name := "both", desc := "(II)I" } : Jvm.MethodName) ({ cls := "ThrowReportsModel", name := "both", desc := "(II)I" } : Jvm.MethodName)) ∈ a_wt := a_wt_mem 1094 (by decide +kernel) (by decide +kernel)
theorem k_1095 : (Jvm.Cond.code ({ cls := "ThrowReportsModel", name := "both", desc := "(II)I" } : Jvm.MethodName) prog_13_method_13_code (3 : Nat) (Option.some Jvm.ClassFile.FieldType.int)) ∈ a_wt := a_wt_mem 1095 (by decide +kernel) (by decide +kernel)
theorem k_1096 : (Jvm.Cond.methodLink "ThrowReportsModel" (139 : Nat) ({ cls := "ThrowReportsModel", name := "isNode", desc := "(I)Z" } : Jvm.MethodName)) ∈ a_wt := a_wt_mem 1096 (by decide +kernel) (by decide +kernel)
theorem k_1098 : (Jvm.Cond.instanceMethod ({ cls := "ThrowReportsModel", name := "isNode", desc := "(I)Z" } : Jvm.MethodName)) ∈ a_wt := a_wt_mem 1098 (by decide +kernel) (by decide +kernel)
theorem k_1099 : (Jvm.Cond.code ({ cls := "ThrowReportsModel", name := "isNode", desc := "(I)Z" } : Jvm.MethodName) prog_13_method_9_code (2 : Nat) (Option.some Jvm.ClassFile.FieldType.boolean)) ∈ a_wt := a_wt_mem 1099 (by decide +kernel) (by decide +kernel)
theorem k_1100 : (Jvm.Cond.methodLink "ThrowReportsLaw" (27 : Nat) ({ cls := "ThrowReportsModel", name := "choice", desc := "(IIII)I" } : Jvm.MethodName)) ∈ a_wt := a_wt_mem 1100 (by decide +kernel) (by decide +kernel)
theorem k_1101 : (Jvm.Cond.instanceMethod ({ cls := "ThrowReportsModel", name := "choice", desc := "(IIII)I" } : Jvm.MethodName)) ∈ a_wt := a_wt_mem 1101 (by decide +kernel) (by decide +kernel)
theorem k_1102 : (Jvm.Cond.selects "ThrowReportsModel" ({ cls := "ThrowReportsModel", name := "choice", desc := "(IIII)I" } : Jvm.MethodName) ({ cls := "ThrowReportsModel", name := "choice", desc := "(IIII)I" } : Jvm.MethodName)) ∈ a_wt := a_wt_mem 1102 (by decide +kernel) (by decide +kernel)
theorem k_1103 : (Jvm.Cond.code ({ cls := "ThrowReportsModel", name := "choice", desc := "(IIII)I" } : Jvm.MethodName) prog_13_method_14_code (6 : Nat) (Option.some Jvm.ClassFile.FieldType.int)) ∈ a_wt := a_wt_mem 1103 (by decide +kernel) (by decide +kernel)
theorem k_1104 : (Jvm.Cond.methodLink "ThrowReportsLaw" (31 : Nat) ({ cls := "ThrowReportsModel", name := "guard", desc := "(IIII)I" } : Jvm.MethodName)) ∈ a_wt := a_wt_mem 1104 (by decide +kernel) (by decide +kernel)
theorem k_1105 : (Jvm.Cond.instanceMethod ({ cls := "ThrowReportsModel", name := "guard", desc := "(IIII)I" } : Jvm.MethodName)) ∈ a_wt := a_wt_mem 1105 (by decide +kernel) (by decide +kernel)
theorem k_1106 : (Jvm.Cond.selects "ThrowReportsModel" ({ cls := "ThrowReportsModel", name := "guard", desc := "(IIII)I" } : Jvm.MethodName) ({ cls := "ThrowReportsModel", name := "guard", desc := "(IIII)I" } : Jvm.MethodName)) ∈ a_wt := a_wt_mem 1106 (by decide +kernel) (by decide +kernel)
theorem k_1107 : (Jvm.Cond.code ({ cls := "ThrowReportsModel", name := "guard", desc := "(IIII)I" } : Jvm.MethodName) prog_13_method_15_code (7 : Nat) (Option.some Jvm.ClassFile.FieldType.int)) ∈ a_wt := a_wt_mem 1107 (by decide +kernel) (by decide +kernel)
theorem k_1108 : (Jvm.Cond.methodLink "ThrowReportsLaw" (36 : Nat) ({ cls := "ThrowReportsModel", name := "forget", desc := "()I" } : Jvm.MethodName)) ∈ a_wt := a_wt_mem 1108 (by decide +kernel) (by decide +kernel)
theorem k_1109 : (Jvm.Cond.instanceMethod ({ cls := "ThrowReportsModel", name := "forget", desc := "()I" } : Jvm.MethodName)) ∈ a_wt := a_wt_mem 1109 (by decide +kernel) (by decide +kernel)
theorem k_1110 : (Jvm.Cond.selects "ThrowReportsModel" ({ cls := "ThrowReportsModel", name := "forget", desc := "()I" } : Jvm.MethodName) ({ cls := "ThrowReportsModel", name := "forget", desc := "()I" } : Jvm.MethodName)) ∈ a_wt := a_wt_mem 1110 (by decide +kernel) (by decide +kernel)
theorem k_1111 : (Jvm.Cond.code ({ cls := "ThrowReportsModel", name := "forget", desc := "()I" } : Jvm.MethodName) prog_13_method_16_code (2 : Nat) (Option.some Jvm.ClassFile.FieldType.int)) ∈ a_wt := a_wt_mem 1111 (by decide +kernel) (by decide +kernel)
theorem k_1112 : (Jvm.Cond.methodLink "ThrowReportsLaw" (41 : Nat) ({ cls := "ThrowReportsModel", name := "run", desc := "(I)I" } : Jvm.MethodName)) ∈ a_wt := a_wt_mem 1112 (by decide +kernel) (by decide +kernel)
theorem k_1113 : (Jvm.Cond.instanceMethod ({ cls := "ThrowReportsModel", name := "run", desc := "(I)I" } : Jvm.MethodName)) ∈ a_wt := a_wt_mem 1113 (by decide +kernel) (by decide +kernel)
theorem k_1114 : (Jvm.Cond.selects "ThrowReportsModel" ({ cls := "ThrowReportsModel", name := "run", desc := "(I)I" } : Jvm.MethodName) ({ cls := "ThrowReportsModel", name := "run", desc := "(I)I" } : Jvm.MethodName)) ∈ a_wt := a_wt_mem 1114 (by decide +kernel) (by decide +kernel)
theorem k_1115 : (Jvm.Cond.code ({ cls := "ThrowReportsModel", name := "run", desc := "(I)I" } : Jvm.MethodName) prog_13_method_42_code (2 : Nat) (Option.some Jvm.ClassFile.FieldType.int)) ∈ a_wt := a_wt_mem 1115 (by decide +kernel) (by decide +kernel)
theorem k_1116 : (Jvm.Cond.methodLink "ThrowReportsModel" (263 : Nat) ({ cls := "ThrowReportsModel", name := "goes", desc := "(I)I" } : Jvm.MethodName)) ∈ a_wt := a_wt_mem 1116 (by decide +kernel) (by decide +kernel)
theorem k_1118 : (Jvm.Cond.instanceMethod ({ cls := "ThrowReportsModel", name := "goes", desc := "(I)I" } : Jvm.MethodName)) ∈ a_wt := a_wt_mem 1118 (by decide +kernel) (by decide +kernel)
theorem k_1119 : (Jvm.Cond.code ({ cls := "ThrowReportsModel", name := "goes", desc := "(I)I" } : Jvm.MethodName) prog_13_method_41_code (4 : Nat) (Option.some Jvm.ClassFile.FieldType.int)) ∈ a_wt := a_wt_mem 1119 (by decide +kernel) (by decide +kernel)
theorem k_1120 : (Jvm.Cond.methodLink "ThrowReportsModel" (231 : Nat) ({ cls := "ThrowReportsModel", name := "push", desc := "(I)V" } : Jvm.MethodName)) ∈ a_wt := a_wt_mem 1120 (by decide +kernel) (by decide +kernel)
theorem k_1122 : (Jvm.Cond.instanceMethod ({ cls := "ThrowReportsModel", name := "push", desc := "(I)V" } : Jvm.MethodName)) ∈ a_wt := a_wt_mem 1122 (by decide +kernel) (by decide +kernel)
theorem k_1123 : (Jvm.Cond.code ({ cls := "ThrowReportsModel", name := "push", desc := "(I)V" } : Jvm.MethodName) prog_13_method_36_code (2 : Nat) (Option.none : Option Jvm.ClassFile.FieldType)) ∈ a_wt := a_wt_mem 1123 (by decide +kernel) (by decide +kernel)
theorem k_1124 : (Jvm.Cond.methodLink "ThrowReportsModel" (254 : Nat) ({ cls := "ThrowReportsModel", name := "ofAct", desc := "(I)I" } : Jvm.MethodName)) ∈ a_wt := a_wt_mem 1124 (by decide +kernel) (by decide +kernel)
theorem k_1126 : (Jvm.Cond.instanceMethod ({ cls := "ThrowReportsModel", name := "ofAct", desc := "(I)I" } : Jvm.MethodName)) ∈ a_wt := a_wt_mem 1126 (by decide +kernel) (by decide +kernel)
theorem k_1127 : (Jvm.Cond.code ({ cls := "ThrowReportsModel", name := "ofAct", desc := "(I)I" } : Jvm.MethodName) prog_13_method_38_code (3 : Nat) (Option.some Jvm.ClassFile.FieldType.int)) ∈ a_wt := a_wt_mem 1127 (by decide +kernel) (by decide +kernel)
theorem k_1128 : (Jvm.Cond.methodLink "ThrowReportsModel" (238 : Nat) ({ cls := "ThrowReportsModel", name := "done", desc := "(I)I" } : Jvm.MethodName)) ∈ a_wt := a_wt_mem 1128 (by decide +kernel) (by decide +kernel)
theorem k_1130 : (Jvm.Cond.instanceMethod ({ cls := "ThrowReportsModel", name := "done", desc := "(I)I" } : Jvm.MethodName)) ∈ a_wt := a_wt_mem 1130 (by decide +kernel) (by decide +kernel)
theorem k_1131 : (Jvm.Cond.code ({ cls := "ThrowReportsModel", name := "done", desc := "(I)I" } : Jvm.MethodName) prog_13_method_35_code (6 : Nat) (Option.some Jvm.ClassFile.FieldType.int)) ∈ a_wt := a_wt_mem 1131 (by decide +kernel) (by decide +kernel)
theorem k_1132 : (Jvm.Cond.methodLink "ThrowReportsModel" (186 : Nat) ({ cls := "ThrowReportsModel", name := "make", desc := "(III)I" } : Jvm.MethodName)) ∈ a_wt := a_wt_mem 1132 (by decide +kernel) (by decide +kernel)
theorem k_1134 : (Jvm.Cond.instanceMethod ({ cls := "ThrowReportsModel", name := "make", desc := "(III)I" } : Jvm.MethodName)) ∈ a_wt := a_wt_mem 1134 (by decide +kernel) (by decide +kernel)
theorem k_1135 : (Jvm.Cond.code ({ cls := "ThrowReportsModel", name := "make", desc := "(III)I" } : Jvm.MethodName) prog_13_method_20_code (4 : Nat) (Option.some Jvm.ClassFile.FieldType.int)) ∈ a_wt := a_wt_mem 1135 (by decide +kernel) (by decide +kernel)
theorem k_1136 : (Jvm.Cond.methodLink "ThrowReportsModel" (157 : Nat) ({ cls := "ThrowReportsModel", name := "fits", desc := "(JJ)Z" } : Jvm.MethodName)) ∈ a_wt := a_wt_mem 1136 (by decide +kernel) (by decide +kernel)
theorem k_1138 : (Jvm.Cond.instanceMethod ({ cls := "ThrowReportsModel", name := "fits", desc := "(JJ)Z" } : Jvm.MethodName)) ∈ a_wt := a_wt_mem 1138 (by decide +kernel) (by decide +kernel)
theorem k_1139 : (Jvm.Cond.code ({ cls := "ThrowReportsModel", name := "fits", desc := "(JJ)Z" } : Jvm.MethodName) prog_13_method_8_code (5 : Nat) (Option.some Jvm.ClassFile.FieldType.boolean)) ∈ a_wt := a_wt_mem 1139 (by decide +kernel) (by decide +kernel)
theorem k_1140 : (Jvm.Cond.constantLong "ThrowReportsModel" (117 : Nat) (200 : Int64)) ∈ a_wt := a_wt_mem 1140 (by decide +kernel) (by decide +kernel)
theorem k_1141 : (Jvm.Cond.constantLong "ThrowReportsModel" (119 : Nat) (3000 : Int64)) ∈ a_wt := a_wt_mem 1141 (by decide +kernel) (by decide +kernel)
theorem k_1142 : (Jvm.Cond.methodLink "ThrowReportsModel" (161 : Nat) ({ cls := "ThrowReportsModel", name := "fresh", desc := "(II)I" } : Jvm.MethodName)) ∈ a_wt := a_wt_mem 1142 (by decide +kernel) (by decide +kernel)
theorem k_1144 : (Jvm.Cond.instanceMethod ({ cls := "ThrowReportsModel", name := "fresh", desc := "(II)I" } : Jvm.MethodName)) ∈ a_wt := a_wt_mem 1144 (by decide +kernel) (by decide +kernel)
theorem k_1145 : (Jvm.Cond.code ({ cls := "ThrowReportsModel", name := "fresh", desc := "(II)I" } : Jvm.MethodName) prog_13_method_7_code (4 : Nat) (Option.some Jvm.ClassFile.FieldType.int)) ∈ a_wt := a_wt_mem 1145 (by decide +kernel) (by decide +kernel)
theorem k_1146 : (Jvm.Cond.methodLink "ThrowReportsModel" (189 : Nat) ({ cls := "ThrowReportsModel", name := "deep", desc := "(III)I" } : Jvm.MethodName)) ∈ a_wt := a_wt_mem 1146 (by decide +kernel) (by decide +kernel)
theorem k_1148 : (Jvm.Cond.instanceMethod ({ cls := "ThrowReportsModel", name := "deep", desc := "(III)I" } : Jvm.MethodName)) ∈ a_wt := a_wt_mem 1148 (by decide +kernel) (by decide +kernel)
theorem k_1149 : (Jvm.Cond.code ({ cls := "ThrowReportsModel", name := "deep", desc := "(III)I" } : Jvm.MethodName) prog_13_method_21_code (6 : Nat) (Option.some Jvm.ClassFile.FieldType.int)) ∈ a_wt := a_wt_mem 1149 (by decide +kernel) (by decide +kernel)
theorem k_1150 : (Jvm.Cond.methodLink "ThrowReportsModel" (192 : Nat) ({ cls := "ThrowReportsModel", name := "figure", desc := "(III)I" } : Jvm.MethodName)) ∈ a_wt := a_wt_mem 1150 (by decide +kernel) (by decide +kernel)
theorem k_1152 : (Jvm.Cond.instanceMethod ({ cls := "ThrowReportsModel", name := "figure", desc := "(III)I" } : Jvm.MethodName)) ∈ a_wt := a_wt_mem 1152 (by decide +kernel) (by decide +kernel)
theorem k_1153 : (Jvm.Cond.code ({ cls := "ThrowReportsModel", name := "figure", desc := "(III)I" } : Jvm.MethodName) prog_13_method_22_code (4 : Nat) (Option.some Jvm.ClassFile.FieldType.int)) ∈ a_wt := a_wt_mem 1153 (by decide +kernel) (by decide +kernel)
theorem k_1154 : (Jvm.Cond.methodLink "ThrowReportsModel" (195 : Nat) ({ cls := "ThrowReportsModel", name := "move", desc := "(III)I" } : Jvm.MethodName)) ∈ a_wt := a_wt_mem 1154 (by decide +kernel) (by decide +kernel)
theorem k_1156 : (Jvm.Cond.instanceMethod ({ cls := "ThrowReportsModel", name := "move", desc := "(III)I" } : Jvm.MethodName)) ∈ a_wt := a_wt_mem 1156 (by decide +kernel) (by decide +kernel)
theorem k_1157 : (Jvm.Cond.code ({ cls := "ThrowReportsModel", name := "move", desc := "(III)I" } : Jvm.MethodName) prog_13_method_34_code (5 : Nat) (Option.some Jvm.ClassFile.FieldType.int)) ∈ a_wt := a_wt_mem 1157 (by decide +kernel) (by decide +kernel)
theorem k_1158 : (Jvm.Cond.methodLink "ThrowReportsModel" (150 : Nat) ({ cls := "ThrowReportsModel", name := "as", desc := "(II)I" } : Jvm.MethodName)) ∈ a_wt := a_wt_mem 1158 (by decide +kernel) (by decide +kernel)
theorem k_1160 : (Jvm.Cond.instanceMethod ({ cls := "ThrowReportsModel", name := "as", desc := "(II)I" } : Jvm.MethodName)) ∈ a_wt := a_wt_mem 1160 (by decide +kernel) (by decide +kernel)
theorem k_1161 : (Jvm.Cond.code ({ cls := "ThrowReportsModel", name := "as", desc := "(II)I" } : Jvm.MethodName) prog_13_method_17_code (3 : Nat) (Option.some Jvm.ClassFile.FieldType.int)) ∈ a_wt := a_wt_mem 1161 (by decide +kernel) (by decide +kernel)
theorem k_1162 : (Jvm.Cond.methodLink "ThrowReportsModel" (146 : Nat) ({ cls := "ThrowReportsModel", name := "is", desc := "(II)Z" } : Jvm.MethodName)) ∈ a_wt := a_wt_mem 1162 (by decide +kernel) (by decide +kernel)
theorem k_1164 : (Jvm.Cond.instanceMethod ({ cls := "ThrowReportsModel", name := "is", desc := "(II)Z" } : Jvm.MethodName)) ∈ a_wt := a_wt_mem 1164 (by decide +kernel) (by decide +kernel)
theorem k_1165 : (Jvm.Cond.code ({ cls := "ThrowReportsModel", name := "is", desc := "(II)Z" } : Jvm.MethodName) prog_13_method_6_code (3 : Nat) (Option.some Jvm.ClassFile.FieldType.boolean)) ∈ a_wt := a_wt_mem 1165 (by decide +kernel) (by decide +kernel)
theorem k_1166 : (Jvm.Cond.methodLink "ThrowReportsModel" (107 : Nat) ({ cls := "ThrowReportsModel", name := "mask", desc := "(I)I" } : Jvm.MethodName)) ∈ a_wt := a_wt_mem 1166 (by decide +kernel) (by decide +kernel)
theorem k_1167 : (Jvm.Cond.static ({ cls := "ThrowReportsModel", name := "mask", desc := "(I)I" } : Jvm.MethodName)) ∈ a_wt := a_wt_mem 1167 (by decide +kernel) (by decide +kernel)
theorem k_1168 : (Jvm.Cond.code ({ cls := "ThrowReportsModel", name := "mask", desc := "(I)I" } : Jvm.MethodName) prog_13_method_5_code (1 : Nat) (Option.some Jvm.ClassFile.FieldType.int)) ∈ a_wt := a_wt_mem 1168 (by decide +kernel) (by decide +kernel)
theorem k_1169 : (Jvm.Cond.methodLink "ThrowReportsModel" (198 : Nat) ({ cls := "ThrowReportsModel", name := "get", desc := "(IIII)I" } : Jvm.MethodName)) ∈ a_wt := a_wt_mem 1169 (by decide +kernel) (by decide +kernel)
theorem k_1171 : (Jvm.Cond.instanceMethod ({ cls := "ThrowReportsModel", name := "get", desc := "(IIII)I" } : Jvm.MethodName)) ∈ a_wt := a_wt_mem 1171 (by decide +kernel) (by decide +kernel)
theorem k_1172 : (Jvm.Cond.code ({ cls := "ThrowReportsModel", name := "get", desc := "(IIII)I" } : Jvm.MethodName) prog_13_method_29_code (6 : Nat) (Option.some Jvm.ClassFile.FieldType.int)) ∈ a_wt := a_wt_mem 1172 (by decide +kernel) (by decide +kernel)
theorem k_1173 : (Jvm.Cond.methodLink "ThrowReportsModel" (170 : Nat) ({ cls := "ThrowReportsModel", name := "itemOf", desc := "(III)I" } : Jvm.MethodName)) ∈ a_wt := a_wt_mem 1173 (by decide +kernel) (by decide +kernel)
theorem k_1175 : (Jvm.Cond.instanceMethod ({ cls := "ThrowReportsModel", name := "itemOf", desc := "(III)I" } : Jvm.MethodName)) ∈ a_wt := a_wt_mem 1175 (by decide +kernel) (by decide +kernel)
theorem k_1176 : (Jvm.Cond.code ({ cls := "ThrowReportsModel", name := "itemOf", desc := "(III)I" } : Jvm.MethodName) prog_13_method_19_code (5 : Nat) (Option.some Jvm.ClassFile.FieldType.int)) ∈ a_wt := a_wt_mem 1176 (by decide +kernel) (by decide +kernel)
theorem k_1177 : (Jvm.Cond.methodLink "ThrowReportsModel" (154 : Nat) ({ cls := "ThrowReportsModel", name := "row", desc := "(II)I" } : Jvm.MethodName)) ∈ a_wt := a_wt_mem 1177 (by decide +kernel) (by decide +kernel)
theorem k_1179 : (Jvm.Cond.instanceMethod ({ cls := "ThrowReportsModel", name := "row", desc := "(II)I" } : Jvm.MethodName)) ∈ a_wt := a_wt_mem 1179 (by decide +kernel) (by decide +kernel)
theorem k_1180 : (Jvm.Cond.code ({ cls := "ThrowReportsModel", name := "row", desc := "(II)I" } : Jvm.MethodName) prog_13_method_18_code (3 : Nat) (Option.some Jvm.ClassFile.FieldType.int)) ∈ a_wt := a_wt_mem 1180 (by decide +kernel) (by decide +kernel)
theorem k_1181 : (Jvm.Cond.methodLink "ThrowReportsModel" (202 : Nat) ({ cls := "ThrowReportsModel", name := "set", desc := "(IIII)I" } : Jvm.MethodName)) ∈ a_wt := a_wt_mem 1181 (by decide +kernel) (by decide +kernel)
theorem k_1183 : (Jvm.Cond.instanceMethod ({ cls := "ThrowReportsModel", name := "set", desc := "(IIII)I" } : Jvm.MethodName)) ∈ a_wt := a_wt_mem 1183 (by decide +kernel) (by decide +kernel)
theorem k_1184 : (Jvm.Cond.code ({ cls := "ThrowReportsModel", name := "set", desc := "(IIII)I" } : Jvm.MethodName) prog_13_method_30_code (6 : Nat) (Option.some Jvm.ClassFile.FieldType.int)) ∈ a_wt := a_wt_mem 1184 (by decide +kernel) (by decide +kernel)
theorem k_1185 : (Jvm.Cond.methodLink "ThrowReportsModel" (182 : Nat) ({ cls := "ThrowReportsModel", name := "told", desc := "(IJ)J" } : Jvm.MethodName)) ∈ a_wt := a_wt_mem 1185 (by decide +kernel) (by decide +kernel)
theorem k_1186 : (Jvm.Cond.static ({ cls := "ThrowReportsModel", name := "told", desc := "(IJ)J" } : Jvm.MethodName)) ∈ a_wt := a_wt_mem 1186 (by decide +kernel) (by decide +kernel)
theorem k_1187 : (Jvm.Cond.code ({ cls := "ThrowReportsModel", name := "told", desc := "(IJ)J" } : Jvm.MethodName) prog_13_method_23_code (4 : Nat) (Option.some Jvm.ClassFile.FieldType.long)) ∈ a_wt := a_wt_mem 1187 (by decide +kernel) (by decide +kernel)
theorem k_1188 : (Jvm.Cond.constantLong "ThrowReportsModel" (164 : Nat) (2047 : Int64)) ∈ a_wt := a_wt_mem 1188 (by decide +kernel) (by decide +kernel)
theorem k_1189 : (Jvm.Cond.constantLong "ThrowReportsModel" (166 : Nat) (4503599627370495 : Int64)) ∈ a_wt := a_wt_mem 1189 (by decide +kernel) (by decide +kernel)
theorem k_1190 : (Jvm.Cond.constantLong "ThrowReportsModel" (168 : Nat) (9221120237041090560 : Int64)) ∈ a_wt := a_wt_mem 1190 (by decide +kernel) (by decide +kernel)
theorem k_1191 : (Jvm.Cond.methodLink "ThrowReportsModel" (205 : Nat) ({ cls := "ThrowReportsModel", name := "take", desc := "(IIII)I" } : Jvm.MethodName)) ∈ a_wt := a_wt_mem 1191 (by decide +kernel) (by decide +kernel)
theorem k_1193 : (Jvm.Cond.instanceMethod ({ cls := "ThrowReportsModel", name := "take", desc := "(IIII)I" } : Jvm.MethodName)) ∈ a_wt := a_wt_mem 1193 (by decide +kernel) (by decide +kernel)
theorem k_1194 : (Jvm.Cond.code ({ cls := "ThrowReportsModel", name := "take", desc := "(IIII)I" } : Jvm.MethodName) prog_13_method_31_code (6 : Nat) (Option.some Jvm.ClassFile.FieldType.int)) ∈ a_wt := a_wt_mem 1194 (by decide +kernel) (by decide +kernel)
theorem k_1195 : (Jvm.Cond.methodLink "ThrowReportsModel" (208 : Nat) ({ cls := "ThrowReportsModel", name := "lay", desc := "(IIII)I" } : Jvm.MethodName)) ∈ a_wt := a_wt_mem 1195 (by decide +kernel) (by decide +kernel)
theorem k_1197 : (Jvm.Cond.instanceMethod ({ cls := "ThrowReportsModel", name := "lay", desc := "(IIII)I" } : Jvm.MethodName)) ∈ a_wt := a_wt_mem 1197 (by decide +kernel) (by decide +kernel)
theorem k_1198 : (Jvm.Cond.code ({ cls := "ThrowReportsModel", name := "lay", desc := "(IIII)I" } : Jvm.MethodName) prog_13_method_24_code (6 : Nat) (Option.some Jvm.ClassFile.FieldType.int)) ∈ a_wt := a_wt_mem 1198 (by decide +kernel) (by decide +kernel)
theorem k_1199 : (Jvm.Cond.methodLink "ThrowReportsModel" (211 : Nat) ({ cls := "ThrowReportsModel", name := "measure", desc := "(III)I" } : Jvm.MethodName)) ∈ a_wt := a_wt_mem 1199 (by decide +kernel) (by decide +kernel)
theorem k_1201 : (Jvm.Cond.instanceMethod ({ cls := "ThrowReportsModel", name := "measure", desc := "(III)I" } : Jvm.MethodName)) ∈ a_wt := a_wt_mem 1201 (by decide +kernel) (by decide +kernel)
theorem k_1202 : (Jvm.Cond.code ({ cls := "ThrowReportsModel", name := "measure", desc := "(III)I" } : Jvm.MethodName) prog_13_method_33_code (5 : Nat) (Option.some Jvm.ClassFile.FieldType.int)) ∈ a_wt := a_wt_mem 1202 (by decide +kernel) (by decide +kernel)
theorem k_1203 : (Jvm.Cond.methodLink "ThrowReportsModel" (214 : Nat) ({ cls := "ThrowReportsModel", name := "cloned", desc := "(II)I" } : Jvm.MethodName)) ∈ a_wt := a_wt_mem 1203 (by decide +kernel) (by decide +kernel)
theorem k_1205 : (Jvm.Cond.instanceMethod ({ cls := "ThrowReportsModel", name := "cloned", desc := "(II)I" } : Jvm.MethodName)) ∈ a_wt := a_wt_mem 1205 (by decide +kernel) (by decide +kernel)
theorem k_1206 : (Jvm.Cond.code ({ cls := "ThrowReportsModel", name := "cloned", desc := "(II)I" } : Jvm.MethodName) prog_13_method_32_code (7 : Nat) (Option.some Jvm.ClassFile.FieldType.int)) ∈ a_wt := a_wt_mem 1206 (by decide +kernel) (by decide +kernel)
theorem k_1207 : (Jvm.Cond.methodLink "ThrowReportsModel" (217 : Nat) ({ cls := "ThrowReportsModel", name := "tell", desc := "(II)I" } : Jvm.MethodName)) ∈ a_wt := a_wt_mem 1207 (by decide +kernel) (by decide +kernel)
theorem k_1209 : (Jvm.Cond.instanceMethod ({ cls := "ThrowReportsModel", name := "tell", desc := "(II)I" } : Jvm.MethodName)) ∈ a_wt := a_wt_mem 1209 (by decide +kernel) (by decide +kernel)
theorem k_1210 : (Jvm.Cond.code ({ cls := "ThrowReportsModel", name := "tell", desc := "(II)I" } : Jvm.MethodName) prog_13_method_28_code (5 : Nat) (Option.some Jvm.ClassFile.FieldType.int)) ∈ a_wt := a_wt_mem 1210 (by decide +kernel) (by decide +kernel)
theorem k_1211 : (Jvm.Cond.methodLink "ThrowReportsModel" (220 : Nat) ({ cls := "ThrowReportsModel", name := "copy", desc := "(IIIII)I" } : Jvm.MethodName)) ∈ a_wt := a_wt_mem 1211 (by decide +kernel) (by decide +kernel)
theorem k_1213 : (Jvm.Cond.instanceMethod ({ cls := "ThrowReportsModel", name := "copy", desc := "(IIIII)I" } : Jvm.MethodName)) ∈ a_wt := a_wt_mem 1213 (by decide +kernel) (by decide +kernel)
theorem k_1214 : (Jvm.Cond.code ({ cls := "ThrowReportsModel", name := "copy", desc := "(IIIII)I" } : Jvm.MethodName) prog_13_method_26_code (10 : Nat) (Option.some Jvm.ClassFile.FieldType.int)) ∈ a_wt := a_wt_mem 1214 (by decide +kernel) (by decide +kernel)
theorem k_1215 : (Jvm.Cond.methodLink "ThrowReportsModel" (174 : Nat) ({ cls := "ThrowReportsModel", name := "meet", desc := "(II)Z" } : Jvm.MethodName)) ∈ a_wt := a_wt_mem 1215 (by decide +kernel) (by decide +kernel)
theorem k_1216 : (Jvm.Cond.static ({ cls := "ThrowReportsModel", name := "meet", desc := "(II)Z" } : Jvm.MethodName)) ∈ a_wt := a_wt_mem 1216 (by decide +kernel) (by decide +kernel)
theorem k_1217 : (Jvm.Cond.code ({ cls := "ThrowReportsModel", name := "meet", desc := "(II)Z" } : Jvm.MethodName) prog_13_method_25_code (2 : Nat) (Option.some Jvm.ClassFile.FieldType.boolean)) ∈ a_wt := a_wt_mem 1217 (by decide +kernel) (by decide +kernel)
theorem k_1218 : (Jvm.Cond.methodLink "ThrowReportsModel" (224 : Nat) ({ cls := "ThrowReportsModel", name := "divide", desc := "(IIIZ)I" } : Jvm.MethodName)) ∈ a_wt := a_wt_mem 1218 (by decide +kernel) (by decide +kernel)
theorem k_1220 : (Jvm.Cond.instanceMethod ({ cls := "ThrowReportsModel", name := "divide", desc := "(IIIZ)I" } : Jvm.MethodName)) ∈ a_wt := a_wt_mem 1220 (by decide +kernel) (by decide +kernel)
theorem k_1221 : (Jvm.Cond.code ({ cls := "ThrowReportsModel", name := "divide", desc := "(IIIZ)I" } : Jvm.MethodName) prog_13_method_27_code (7 : Nat) (Option.some Jvm.ClassFile.FieldType.int)) ∈ a_wt := a_wt_mem 1221 (by decide +kernel) (by decide +kernel)
theorem k_1222 : (Jvm.Cond.constantLong "ThrowReportsModel" (180 : Nat) (-1 : Int64)) ∈ a_wt := a_wt_mem 1222 (by decide +kernel) (by decide +kernel)
theorem k_1223 : (Jvm.Cond.methodLink "ThrowReportsModel" (257 : Nat) ({ cls := "ThrowReportsModel", name := "ofGuard", desc := "(II)I" } : Jvm.MethodName)) ∈ a_wt := a_wt_mem 1223 (by decide +kernel) (by decide +kernel)
theorem k_1225 : (Jvm.Cond.instanceMethod ({ cls := "ThrowReportsModel", name := "ofGuard", desc := "(II)I" } : Jvm.MethodName)) ∈ a_wt := a_wt_mem 1225 (by decide +kernel) (by decide +kernel)
theorem k_1226 : (Jvm.Cond.code ({ cls := "ThrowReportsModel", name := "ofGuard", desc := "(II)I" } : Jvm.MethodName) prog_13_method_39_code (6 : Nat) (Option.some Jvm.ClassFile.FieldType.int)) ∈ a_wt := a_wt_mem 1226 (by decide +kernel) (by decide +kernel)
theorem k_1227 : (Jvm.Cond.methodLink "ThrowReportsModel" (244 : Nat) ({ cls := "ThrowReportsModel", name := "step", desc := "(II)V" } : Jvm.MethodName)) ∈ a_wt := a_wt_mem 1227 (by decide +kernel) (by decide +kernel)
theorem k_1229 : (Jvm.Cond.instanceMethod ({ cls := "ThrowReportsModel", name := "step", desc := "(II)V" } : Jvm.MethodName)) ∈ a_wt := a_wt_mem 1229 (by decide +kernel) (by decide +kernel)
theorem k_1230 : (Jvm.Cond.code ({ cls := "ThrowReportsModel", name := "step", desc := "(II)V" } : Jvm.MethodName) prog_13_method_37_code (3 : Nat) (Option.none : Option Jvm.ClassFile.FieldType)) ∈ a_wt := a_wt_mem 1230 (by decide +kernel) (by decide +kernel)
theorem k_1231 : (Jvm.Cond.methodLink "ThrowReportsModel" (260 : Nat) ({ cls := "ThrowReportsModel", name := "ofOther", desc := "(II)I" } : Jvm.MethodName)) ∈ a_wt := a_wt_mem 1231 (by decide +kernel) (by decide +kernel)
theorem k_1233 : (Jvm.Cond.instanceMethod ({ cls := "ThrowReportsModel", name := "ofOther", desc := "(II)I" } : Jvm.MethodName)) ∈ a_wt := a_wt_mem 1233 (by decide +kernel) (by decide +kernel)
theorem k_1234 : (Jvm.Cond.code ({ cls := "ThrowReportsModel", name := "ofOther", desc := "(II)I" } : Jvm.MethodName) prog_13_method_40_code (6 : Nat) (Option.some Jvm.ClassFile.FieldType.int)) ∈ a_wt := a_wt_mem 1234 (by decide +kernel) (by decide +kernel)
theorem k_1235 : (Jvm.Cond.methodLink "ThrowReportsLaw" (45 : Nat) ({ cls := "ThrowReportsModel", name := "ran", desc := "(I)I" } : Jvm.MethodName)) ∈ a_wt := a_wt_mem 1235 (by decide +kernel) (by decide +kernel)
theorem k_1236 : (Jvm.Cond.instanceMethod ({ cls := "ThrowReportsModel", name := "ran", desc := "(I)I" } : Jvm.MethodName)) ∈ a_wt := a_wt_mem 1236 (by decide +kernel) (by decide +kernel)
theorem k_1237 : (Jvm.Cond.selects "ThrowReportsModel" ({ cls := "ThrowReportsModel", name := "ran", desc := "(I)I" } : Jvm.MethodName) ({ cls := "ThrowReportsModel", name := "ran", desc := "(I)I" } : Jvm.MethodName)) ∈ a_wt := a_wt_mem 1237 (by decide +kernel) (by decide +kernel)
theorem k_1238 : (Jvm.Cond.code ({ cls := "ThrowReportsModel", name := "ran", desc := "(I)I" } : Jvm.MethodName) prog_13_method_43_code (2 : Nat) (Option.some Jvm.ClassFile.FieldType.int)) ∈ a_wt := a_wt_mem 1238 (by decide +kernel) (by decide +kernel)
theorem k_1239 : (Jvm.Cond.methodLink "ThrowReportsLaw" (49 : Nat) ({ cls := "ThrowReportsModel", name := "clear", desc := "()I" } : Jvm.MethodName)) ∈ a_wt := a_wt_mem 1239 (by decide +kernel) (by decide +kernel)
theorem k_1240 : (Jvm.Cond.instanceMethod ({ cls := "ThrowReportsModel", name := "clear", desc := "()I" } : Jvm.MethodName)) ∈ a_wt := a_wt_mem 1240 (by decide +kernel) (by decide +kernel)
theorem k_1241 : (Jvm.Cond.selects "ThrowReportsModel" ({ cls := "ThrowReportsModel", name := "clear", desc := "()I" } : Jvm.MethodName) ({ cls := "ThrowReportsModel", name := "clear", desc := "()I" } : Jvm.MethodName)) ∈ a_wt := a_wt_mem 1241 (by decide +kernel) (by decide +kernel)
theorem k_1242 : (Jvm.Cond.code ({ cls := "ThrowReportsModel", name := "clear", desc := "()I" } : Jvm.MethodName) prog_13_method_44_code (3 : Nat) (Option.some Jvm.ClassFile.FieldType.int)) ∈ a_wt := a_wt_mem 1242 (by decide +kernel) (by decide +kernel)
theorem k_1243 : (Jvm.Cond.methodLink "ThrowReportsLaw" (53 : Nat) ({ cls := "ThrowReportsModel", name := "count", desc := "(I)I" } : Jvm.MethodName)) ∈ a_wt := a_wt_mem 1243 (by decide +kernel) (by decide +kernel)
theorem k_1244 : (Jvm.Cond.instanceMethod ({ cls := "ThrowReportsModel", name := "count", desc := "(I)I" } : Jvm.MethodName)) ∈ a_wt := a_wt_mem 1244 (by decide +kernel) (by decide +kernel)
theorem k_1245 : (Jvm.Cond.selects "ThrowReportsModel" ({ cls := "ThrowReportsModel", name := "count", desc := "(I)I" } : Jvm.MethodName) ({ cls := "ThrowReportsModel", name := "count", desc := "(I)I" } : Jvm.MethodName)) ∈ a_wt := a_wt_mem 1245 (by decide +kernel) (by decide +kernel)
theorem k_1246 : (Jvm.Cond.code ({ cls := "ThrowReportsModel", name := "count", desc := "(I)I" } : Jvm.MethodName) prog_13_method_45_code (2 : Nat) (Option.some Jvm.ClassFile.FieldType.int)) ∈ a_wt := a_wt_mem 1246 (by decide +kernel) (by decide +kernel)
theorem k_1247 : (Jvm.Cond.methodLink "ThrowReportsLaw" (57 : Nat) ({ cls := "ThrowReportsModel", name := "slot", desc := "(II)I" } : Jvm.MethodName)) ∈ a_wt := a_wt_mem 1247 (by decide +kernel) (by decide +kernel)
theorem k_1248 : (Jvm.Cond.instanceMethod ({ cls := "ThrowReportsModel", name := "slot", desc := "(II)I" } : Jvm.MethodName)) ∈ a_wt := a_wt_mem 1248 (by decide +kernel) (by decide +kernel)
theorem k_1249 : (Jvm.Cond.selects "ThrowReportsModel" ({ cls := "ThrowReportsModel", name := "slot", desc := "(II)I" } : Jvm.MethodName) ({ cls := "ThrowReportsModel", name := "slot", desc := "(II)I" } : Jvm.MethodName)) ∈ a_wt := a_wt_mem 1249 (by decide +kernel) (by decide +kernel)
theorem k_1250 : (Jvm.Cond.code ({ cls := "ThrowReportsModel", name := "slot", desc := "(II)I" } : Jvm.MethodName) prog_13_method_46_code (4 : Nat) (Option.some Jvm.ClassFile.FieldType.int)) ∈ a_wt := a_wt_mem 1250 (by decide +kernel) (by decide +kernel)
theorem k_1251 : (Jvm.Cond.methodLink "ThrowReportsLaw" (62 : Nat) ({ cls := "ThrowReportsModel", name := "item", desc := "(II)J" } : Jvm.MethodName)) ∈ a_wt := a_wt_mem 1251 (by decide +kernel) (by decide +kernel)
theorem k_1252 : (Jvm.Cond.instanceMethod ({ cls := "ThrowReportsModel", name := "item", desc := "(II)J" } : Jvm.MethodName)) ∈ a_wt := a_wt_mem 1252 (by decide +kernel) (by decide +kernel)
theorem k_1253 : (Jvm.Cond.selects "ThrowReportsModel" ({ cls := "ThrowReportsModel", name := "item", desc := "(II)J" } : Jvm.MethodName) ({ cls := "ThrowReportsModel", name := "item", desc := "(II)J" } : Jvm.MethodName)) ∈ a_wt := a_wt_mem 1253 (by decide +kernel) (by decide +kernel)
theorem k_1254 : (Jvm.Cond.code ({ cls := "ThrowReportsModel", name := "item", desc := "(II)J" } : Jvm.MethodName) prog_13_method_47_code (4 : Nat) (Option.some Jvm.ClassFile.FieldType.long)) ∈ a_wt := a_wt_mem 1254 (by decide +kernel) (by decide +kernel)
theorem k_1255 : (Jvm.Cond.methodLink "ThrowReportsLaw" (67 : Nat) ({ cls := "ThrowReportsModel", name := "register", desc := "(I)J" } : Jvm.MethodName)) ∈ a_wt := a_wt_mem 1255 (by decide +kernel) (by decide +kernel)
theorem k_1256 : (Jvm.Cond.instanceMethod ({ cls := "ThrowReportsModel", name := "register", desc := "(I)J" } : Jvm.MethodName)) ∈ a_wt := a_wt_mem 1256 (by decide +kernel) (by decide +kernel)
theorem k_1257 : (Jvm.Cond.selects "ThrowReportsModel" ({ cls := "ThrowReportsModel", name := "register", desc := "(I)J" } : Jvm.MethodName) ({ cls := "ThrowReportsModel", name := "register", desc := "(I)J" } : Jvm.MethodName)) ∈ a_wt := a_wt_mem 1257 (by decide +kernel) (by decide +kernel)
theorem k_1258 : (Jvm.Cond.code ({ cls := "ThrowReportsModel", name := "register", desc := "(I)J" } : Jvm.MethodName) prog_13_method_48_code (2 : Nat) (Option.some Jvm.ClassFile.FieldType.long)) ∈ a_wt := a_wt_mem 1258 (by decide +kernel) (by decide +kernel)
theorem k_1259 : (Jvm.Cond.methodLink "ThrowReportsLaw" (71 : Nat) ({ cls := "ThrowReportsModel", name := "alike", desc := "(II)I" } : Jvm.MethodName)) ∈ a_wt := a_wt_mem 1259 (by decide +kernel) (by decide +kernel)
theorem k_1260 : (Jvm.Cond.instanceMethod ({ cls := "ThrowReportsModel", name := "alike", desc := "(II)I" } : Jvm.MethodName)) ∈ a_wt := a_wt_mem 1260 (by decide +kernel) (by decide +kernel)
theorem k_1261 : (Jvm.Cond.selects "ThrowReportsModel" ({ cls := "ThrowReportsModel", name := "alike", desc := "(II)I" } : Jvm.MethodName) ({ cls := "ThrowReportsModel", name := "alike", desc := "(II)I" } : Jvm.MethodName)) ∈ a_wt := a_wt_mem 1261 (by decide +kernel) (by decide +kernel)
theorem k_1262 : (Jvm.Cond.code ({ cls := "ThrowReportsModel", name := "alike", desc := "(II)I" } : Jvm.MethodName) prog_13_method_51_code (5 : Nat) (Option.some Jvm.ClassFile.FieldType.int)) ∈ a_wt := a_wt_mem 1262 (by decide +kernel) (by decide +kernel)
theorem k_1263 : (Jvm.Cond.methodLink "ThrowReportsModel" (269 : Nat) ({ cls := "ThrowReportsModel", name := "twins", desc := "(II)Z" } : Jvm.MethodName)) ∈ a_wt := a_wt_mem 1263 (by decide +kernel) (by decide +kernel)
theorem k_1265 : (Jvm.Cond.instanceMethod ({ cls := "ThrowReportsModel", name := "twins", desc := "(II)Z" } : Jvm.MethodName)) ∈ a_wt := a_wt_mem 1265 (by decide +kernel) (by decide +kernel)
theorem k_1266 : (Jvm.Cond.code ({ cls := "ThrowReportsModel", name := "twins", desc := "(II)Z" } : Jvm.MethodName) prog_13_method_50_code (7 : Nat) (Option.some Jvm.ClassFile.FieldType.boolean)) ∈ a_wt := a_wt_mem 1266 (by decide +kernel) (by decide +kernel)
theorem k_1267 : (Jvm.Cond.methodLink "ThrowReportsModel" (266 : Nat) ({ cls := "ThrowReportsModel", name := "plainTwins", desc := "(II)Z" } : Jvm.MethodName)) ∈ a_wt := a_wt_mem 1267 (by decide +kernel) (by decide +kernel)
theorem k_1269 : (Jvm.Cond.instanceMethod ({ cls := "ThrowReportsModel", name := "plainTwins", desc := "(II)Z" } : Jvm.MethodName)) ∈ a_wt := a_wt_mem 1269 (by decide +kernel) (by decide +kernel)
theorem k_1270 : (Jvm.Cond.code ({ cls := "ThrowReportsModel", name := "plainTwins", desc := "(II)Z" } : Jvm.MethodName) prog_13_method_49_code (5 : Nat) (Option.some Jvm.ClassFile.FieldType.boolean)) ∈ a_wt := a_wt_mem 1270 (by decide +kernel) (by decide +kernel)
theorem k_1271 : (Jvm.Cond.methodLink "ThrowReportsLaw" (75 : Nat) ({ cls := "ThrowReportsModel", name := "given", desc := "(II)I" } : Jvm.MethodName)) ∈ a_wt := a_wt_mem 1271 (by decide +kernel) (by decide +kernel)
theorem k_1272 : (Jvm.Cond.instanceMethod ({ cls := "ThrowReportsModel", name := "given", desc := "(II)I" } : Jvm.MethodName)) ∈ a_wt := a_wt_mem 1272 (by decide +kernel) (by decide +kernel)
theorem k_1273 : (Jvm.Cond.selects "ThrowReportsModel" ({ cls := "ThrowReportsModel", name := "given", desc := "(II)I" } : Jvm.MethodName) ({ cls := "ThrowReportsModel", name := "given", desc := "(II)I" } : Jvm.MethodName)) ∈ a_wt := a_wt_mem 1273 (by decide +kernel) (by decide +kernel)
theorem k_1274 : (Jvm.Cond.code ({ cls := "ThrowReportsModel", name := "given", desc := "(II)I" } : Jvm.MethodName) prog_13_method_53_code (4 : Nat) (Option.some Jvm.ClassFile.FieldType.int)) ∈ a_wt := a_wt_mem 1274 (by decide +kernel) (by decide +kernel)
theorem k_1275 : (Jvm.Cond.methodLink "ThrowReportsModel" (272 : Nat) ({ cls := "ThrowReportsModel", name := "startOf", desc := "(I)I" } : Jvm.MethodName)) ∈ a_wt := a_wt_mem 1275 (by decide +kernel) (by decide +kernel)
theorem k_1277 : (Jvm.Cond.instanceMethod ({ cls := "ThrowReportsModel", name := "startOf", desc := "(I)I" } : Jvm.MethodName)) ∈ a_wt := a_wt_mem 1277 (by decide +kernel) (by decide +kernel)
theorem k_1278 : (Jvm.Cond.code ({ cls := "ThrowReportsModel", name := "startOf", desc := "(I)I" } : Jvm.MethodName) prog_13_method_52_code (2 : Nat) (Option.some Jvm.ClassFile.FieldType.int)) ∈ a_wt := a_wt_mem 1278 (by decide +kernel) (by decide +kernel)
theorem k_1279 : (Jvm.Cond.methodLink "ThrowReportsLaw" (79 : Nat) ({ cls := "ThrowReportsModel", name := "report", desc := "(I)I" } : Jvm.MethodName)) ∈ a_wt := a_wt_mem 1279 (by decide +kernel) (by decide +kernel)
theorem k_1280 : (Jvm.Cond.instanceMethod ({ cls := "ThrowReportsModel", name := "report", desc := "(I)I" } : Jvm.MethodName)) ∈ a_wt := a_wt_mem 1280 (by decide +kernel) (by decide +kernel)
theorem k_1281 : (Jvm.Cond.selects "ThrowReportsModel" ({ cls := "ThrowReportsModel", name := "report", desc := "(I)I" } : Jvm.MethodName) ({ cls := "ThrowReportsModel", name := "report", desc := "(I)I" } : Jvm.MethodName)) ∈ a_wt := a_wt_mem 1281 (by decide +kernel) (by decide +kernel)
theorem k_1282 : (Jvm.Cond.code ({ cls := "ThrowReportsModel", name := "report", desc := "(I)I" } : Jvm.MethodName) prog_13_method_77_code (3 : Nat) (Option.some Jvm.ClassFile.FieldType.int)) ∈ a_wt := a_wt_mem 1282 (by decide +kernel) (by decide +kernel)
theorem k_1283 : (Jvm.Cond.methodLink "ThrowReportsModel" (309 : Nat) ({ cls := "ThrowReportsModel", name := "wipe", desc := "([III)V" } : Jvm.MethodName)) ∈ a_wt := a_wt_mem 1283 (by decide +kernel) (by decide +kernel)
theorem k_1284 : (Jvm.Cond.static ({ cls := "ThrowReportsModel", name := "wipe", desc := "([III)V" } : Jvm.MethodName)) ∈ a_wt := a_wt_mem 1284 (by decide +kernel) (by decide +kernel)
theorem k_1285 : (Jvm.Cond.code ({ cls := "ThrowReportsModel", name := "wipe", desc := "([III)V" } : Jvm.MethodName) prog_13_method_56_code (4 : Nat) (Option.none : Option Jvm.ClassFile.FieldType)) ∈ a_wt := a_wt_mem 1285 (by decide +kernel) (by decide +kernel)
theorem k_1286 : (Jvm.Cond.methodLink "ThrowReportsModel" (346 : Nat) ({ cls := "ThrowReportsModel", name := "through", desc := "(I)V" } : Jvm.MethodName)) ∈ a_wt := a_wt_mem 1286 (by decide +kernel) (by decide +kernel)
theorem k_1288 : (Jvm.Cond.instanceMethod ({ cls := "ThrowReportsModel", name := "through", desc := "(I)V" } : Jvm.MethodName)) ∈ a_wt := a_wt_mem 1288 (by decide +kernel) (by decide +kernel)
theorem k_1289 : (Jvm.Cond.code ({ cls := "ThrowReportsModel", name := "through", desc := "(I)V" } : Jvm.MethodName) prog_13_method_76_code (3 : Nat) (Option.none : Option Jvm.ClassFile.FieldType)) ∈ a_wt := a_wt_mem 1289 (by decide +kernel) (by decide +kernel)
theorem k_1290 : (Jvm.Cond.methodLink "ThrowReportsModel" (334 : Nat) ({ cls := "ThrowReportsModel", name := "throughAct", desc := "(II)V" } : Jvm.MethodName)) ∈ a_wt := a_wt_mem 1290 (by decide +kernel) (by decide +kernel)
theorem k_1292 : (Jvm.Cond.instanceMethod ({ cls := "ThrowReportsModel", name := "throughAct", desc := "(II)V" } : Jvm.MethodName)) ∈ a_wt := a_wt_mem 1292 (by decide +kernel) (by decide +kernel)
theorem k_1293 : (Jvm.Cond.code ({ cls := "ThrowReportsModel", name := "throughAct", desc := "(II)V" } : Jvm.MethodName) prog_13_method_70_code (3 : Nat) (Option.none : Option Jvm.ClassFile.FieldType)) ∈ a_wt := a_wt_mem 1293 (by decide +kernel) (by decide +kernel)
theorem k_1294 : (Jvm.Cond.methodLink "ThrowReportsModel" (313 : Nat) ({ cls := "ThrowReportsModel", name := "enter", desc := "(II)V" } : Jvm.MethodName)) ∈ a_wt := a_wt_mem 1294 (by decide +kernel) (by decide +kernel)
theorem k_1296 : (Jvm.Cond.instanceMethod ({ cls := "ThrowReportsModel", name := "enter", desc := "(II)V" } : Jvm.MethodName)) ∈ a_wt := a_wt_mem 1296 (by decide +kernel) (by decide +kernel)
theorem k_1297 : (Jvm.Cond.code ({ cls := "ThrowReportsModel", name := "enter", desc := "(II)V" } : Jvm.MethodName) prog_13_method_68_code (3 : Nat) (Option.none : Option Jvm.ClassFile.FieldType)) ∈ a_wt := a_wt_mem 1297 (by decide +kernel) (by decide +kernel)
theorem k_1298 : (Jvm.Cond.methodLink "ThrowReportsModel" (275 : Nat) ({ cls := "ThrowReportsModel", name := "join", desc := "([II[II)V" } : Jvm.MethodName)) ∈ a_wt := a_wt_mem 1298 (by decide +kernel) (by decide +kernel)
theorem k_1299 : (Jvm.Cond.static ({ cls := "ThrowReportsModel", name := "join", desc := "([II[II)V" } : Jvm.MethodName)) ∈ a_wt := a_wt_mem 1299 (by decide +kernel) (by decide +kernel)
theorem k_1300 : (Jvm.Cond.code ({ cls := "ThrowReportsModel", name := "join", desc := "([II[II)V" } : Jvm.MethodName) prog_13_method_54_code (5 : Nat) (Option.none : Option Jvm.ClassFile.FieldType)) ∈ a_wt := a_wt_mem 1300 (by decide +kernel) (by decide +kernel)
theorem k_1301 : (Jvm.Cond.methodLink "ThrowReportsModel" (316 : Nat) ({ cls := "ThrowReportsModel", name := "lay", desc := "([II[II)V" } : Jvm.MethodName)) ∈ a_wt := a_wt_mem 1301 (by decide +kernel) (by decide +kernel)
theorem k_1302 : (Jvm.Cond.static ({ cls := "ThrowReportsModel", name := "lay", desc := "([II[II)V" } : Jvm.MethodName)) ∈ a_wt := a_wt_mem 1302 (by decide +kernel) (by decide +kernel)
theorem k_1303 : (Jvm.Cond.code ({ cls := "ThrowReportsModel", name := "lay", desc := "([II[II)V" } : Jvm.MethodName) prog_13_method_55_code (5 : Nat) (Option.none : Option Jvm.ClassFile.FieldType)) ∈ a_wt := a_wt_mem 1303 (by decide +kernel) (by decide +kernel)
theorem k_1304 : (Jvm.Cond.methodLink "ThrowReportsModel" (318 : Nat) ({ cls := "ThrowReportsModel", name := "mayAct", desc := "(II)Z" } : Jvm.MethodName)) ∈ a_wt := a_wt_mem 1304 (by decide +kernel) (by decide +kernel)
theorem k_1306 : (Jvm.Cond.instanceMethod ({ cls := "ThrowReportsModel", name := "mayAct", desc := "(II)Z" } : Jvm.MethodName)) ∈ a_wt := a_wt_mem 1306 (by decide +kernel) (by decide +kernel)
theorem k_1307 : (Jvm.Cond.code ({ cls := "ThrowReportsModel", name := "mayAct", desc := "(II)Z" } : Jvm.MethodName) prog_13_method_66_code (7 : Nat) (Option.some Jvm.ClassFile.FieldType.boolean)) ∈ a_wt := a_wt_mem 1307 (by decide +kernel) (by decide +kernel)
theorem k_1308 : (Jvm.Cond.methodLink "ThrowReportsModel" (295 : Nat) ({ cls := "ThrowReportsModel", name := "mayNew", desc := "(IZII)Z" } : Jvm.MethodName)) ∈ a_wt := a_wt_mem 1308 (by decide +kernel) (by decide +kernel)
theorem k_1310 : (Jvm.Cond.instanceMethod ({ cls := "ThrowReportsModel", name := "mayNew", desc := "(IZII)Z" } : Jvm.MethodName)) ∈ a_wt := a_wt_mem 1310 (by decide +kernel) (by decide +kernel)
theorem k_1311 : (Jvm.Cond.code ({ cls := "ThrowReportsModel", name := "mayNew", desc := "(IZII)Z" } : Jvm.MethodName) prog_13_method_61_code (5 : Nat) (Option.some Jvm.ClassFile.FieldType.boolean)) ∈ a_wt := a_wt_mem 1311 (by decide +kernel) (by decide +kernel)
theorem k_1312 : (Jvm.Cond.methodLink "ThrowReportsModel" (279 : Nat) ({ cls := "ThrowReportsModel", name := "mayFail", desc := "(IIII)V" } : Jvm.MethodName)) ∈ a_wt := a_wt_mem 1312 (by decide +kernel) (by decide +kernel)
theorem k_1314 : (Jvm.Cond.instanceMethod ({ cls := "ThrowReportsModel", name := "mayFail", desc := "(IIII)V" } : Jvm.MethodName)) ∈ a_wt := a_wt_mem 1314 (by decide +kernel) (by decide +kernel)
theorem k_1315 : (Jvm.Cond.code ({ cls := "ThrowReportsModel", name := "mayFail", desc := "(IIII)V" } : Jvm.MethodName) prog_13_method_57_code (6 : Nat) (Option.none : Option Jvm.ClassFile.FieldType)) ∈ a_wt := a_wt_mem 1315 (by decide +kernel) (by decide +kernel)
theorem k_1316 : (Jvm.Cond.methodLink "ThrowReportsModel" (283 : Nat) ({ cls := "ThrowReportsModel", name := "mayAs", desc := "(III)Z" } : Jvm.MethodName)) ∈ a_wt := a_wt_mem 1316 (by decide +kernel) (by decide +kernel)
theorem k_1318 : (Jvm.Cond.instanceMethod ({ cls := "ThrowReportsModel", name := "mayAs", desc := "(III)Z" } : Jvm.MethodName)) ∈ a_wt := a_wt_mem 1318 (by decide +kernel) (by decide +kernel)
theorem k_1319 : (Jvm.Cond.code ({ cls := "ThrowReportsModel", name := "mayAs", desc := "(III)Z" } : Jvm.MethodName) prog_13_method_58_code (5 : Nat) (Option.some Jvm.ClassFile.FieldType.boolean)) ∈ a_wt := a_wt_mem 1319 (by decide +kernel) (by decide +kernel)
theorem k_1320 : (Jvm.Cond.methodLink "ThrowReportsModel" (292 : Nat) ({ cls := "ThrowReportsModel", name := "mayItem", desc := "(III)Z" } : Jvm.MethodName)) ∈ a_wt := a_wt_mem 1320 (by decide +kernel) (by decide +kernel)
theorem k_1322 : (Jvm.Cond.instanceMethod ({ cls := "ThrowReportsModel", name := "mayItem", desc := "(III)Z" } : Jvm.MethodName)) ∈ a_wt := a_wt_mem 1322 (by decide +kernel) (by decide +kernel)
theorem k_1323 : (Jvm.Cond.code ({ cls := "ThrowReportsModel", name := "mayItem", desc := "(III)Z" } : Jvm.MethodName) prog_13_method_60_code (5 : Nat) (Option.some Jvm.ClassFile.FieldType.boolean)) ∈ a_wt := a_wt_mem 1323 (by decide +kernel) (by decide +kernel)
theorem k_1324 : (Jvm.Cond.methodLink "ThrowReportsModel" (286 : Nat) ({ cls := "ThrowReportsModel", name := "mayRow", desc := "(II)Z" } : Jvm.MethodName)) ∈ a_wt := a_wt_mem 1324 (by decide +kernel) (by decide +kernel)
theorem k_1326 : (Jvm.Cond.instanceMethod ({ cls := "ThrowReportsModel", name := "mayRow", desc := "(II)Z" } : Jvm.MethodName)) ∈ a_wt := a_wt_mem 1326 (by decide +kernel) (by decide +kernel)
theorem k_1327 : (Jvm.Cond.code ({ cls := "ThrowReportsModel", name := "mayRow", desc := "(II)Z" } : Jvm.MethodName) prog_13_method_59_code (3 : Nat) (Option.some Jvm.ClassFile.FieldType.boolean)) ∈ a_wt := a_wt_mem 1327 (by decide +kernel) (by decide +kernel)
theorem k_1328 : (Jvm.Cond.methodLink "ThrowReportsModel" (299 : Nat) ({ cls := "ThrowReportsModel", name := "mayTake", desc := "(IIII)Z" } : Jvm.MethodName)) ∈ a_wt := a_wt_mem 1328 (by decide +kernel) (by decide +kernel)
theorem k_1330 : (Jvm.Cond.instanceMethod ({ cls := "ThrowReportsModel", name := "mayTake", desc := "(IIII)Z" } : Jvm.MethodName)) ∈ a_wt := a_wt_mem 1330 (by decide +kernel) (by decide +kernel)
theorem k_1331 : (Jvm.Cond.code ({ cls := "ThrowReportsModel", name := "mayTake", desc := "(IIII)Z" } : Jvm.MethodName) prog_13_method_65_code (7 : Nat) (Option.some Jvm.ClassFile.FieldType.boolean)) ∈ a_wt := a_wt_mem 1331 (by decide +kernel) (by decide +kernel)
theorem k_1332 : (Jvm.Cond.methodLink "ThrowReportsModel" (303 : Nat) ({ cls := "ThrowReportsModel", name := "mayLay", desc := "(IIII)Z" } : Jvm.MethodName)) ∈ a_wt := a_wt_mem 1332 (by decide +kernel) (by decide +kernel)
theorem k_1334 : (Jvm.Cond.instanceMethod ({ cls := "ThrowReportsModel", name := "mayLay", desc := "(IIII)Z" } : Jvm.MethodName)) ∈ a_wt := a_wt_mem 1334 (by decide +kernel) (by decide +kernel)
theorem k_1335 : (Jvm.Cond.code ({ cls := "ThrowReportsModel", name := "mayLay", desc := "(IIII)Z" } : Jvm.MethodName) prog_13_method_62_code (7 : Nat) (Option.some Jvm.ClassFile.FieldType.boolean)) ∈ a_wt := a_wt_mem 1335 (by decide +kernel) (by decide +kernel)
theorem k_1336 : (Jvm.Cond.methodLink "ThrowReportsModel" (306 : Nat) ({ cls := "ThrowReportsModel", name := "mayCopy", desc := "(III)Z" } : Jvm.MethodName)) ∈ a_wt := a_wt_mem 1336 (by decide +kernel) (by decide +kernel)
theorem k_1338 : (Jvm.Cond.instanceMethod ({ cls := "ThrowReportsModel", name := "mayCopy", desc := "(III)Z" } : Jvm.MethodName)) ∈ a_wt := a_wt_mem 1338 (by decide +kernel) (by decide +kernel)
theorem k_1339 : (Jvm.Cond.code ({ cls := "ThrowReportsModel", name := "mayCopy", desc := "(III)Z" } : Jvm.MethodName) prog_13_method_64_code (9 : Nat) (Option.some Jvm.ClassFile.FieldType.boolean)) ∈ a_wt := a_wt_mem 1339 (by decide +kernel) (by decide +kernel)
theorem k_1340 : (Jvm.Cond.methodLink "ThrowReportsModel" (289 : Nat) ({ cls := "ThrowReportsModel", name := "partly", desc := "(II)Z" } : Jvm.MethodName)) ∈ a_wt := a_wt_mem 1340 (by decide +kernel) (by decide +kernel)
theorem k_1341 : (Jvm.Cond.static ({ cls := "ThrowReportsModel", name := "partly", desc := "(II)Z" } : Jvm.MethodName)) ∈ a_wt := a_wt_mem 1341 (by decide +kernel) (by decide +kernel)
theorem k_1342 : (Jvm.Cond.code ({ cls := "ThrowReportsModel", name := "partly", desc := "(II)Z" } : Jvm.MethodName) prog_13_method_63_code (2 : Nat) (Option.some Jvm.ClassFile.FieldType.boolean)) ∈ a_wt := a_wt_mem 1342 (by decide +kernel) (by decide +kernel)
theorem k_1343 : (Jvm.Cond.methodLink "ThrowReportsModel" (321 : Nat) ({ cls := "ThrowReportsModel", name := "leave", desc := "(II)V" } : Jvm.MethodName)) ∈ a_wt := a_wt_mem 1343 (by decide +kernel) (by decide +kernel)
theorem k_1345 : (Jvm.Cond.instanceMethod ({ cls := "ThrowReportsModel", name := "leave", desc := "(II)V" } : Jvm.MethodName)) ∈ a_wt := a_wt_mem 1345 (by decide +kernel) (by decide +kernel)
theorem k_1346 : (Jvm.Cond.code ({ cls := "ThrowReportsModel", name := "leave", desc := "(II)V" } : Jvm.MethodName) prog_13_method_69_code (4 : Nat) (Option.none : Option Jvm.ClassFile.FieldType)) ∈ a_wt := a_wt_mem 1346 (by decide +kernel) (by decide +kernel)
theorem k_1347 : (Jvm.Cond.methodLink "ThrowReportsModel" (337 : Nat) ({ cls := "ThrowReportsModel", name := "throughBoth", desc := "(II)V" } : Jvm.MethodName)) ∈ a_wt := a_wt_mem 1347 (by decide +kernel) (by decide +kernel)
theorem k_1349 : (Jvm.Cond.instanceMethod ({ cls := "ThrowReportsModel", name := "throughBoth", desc := "(II)V" } : Jvm.MethodName)) ∈ a_wt := a_wt_mem 1349 (by decide +kernel) (by decide +kernel)
theorem k_1350 : (Jvm.Cond.code ({ cls := "ThrowReportsModel", name := "throughBoth", desc := "(II)V" } : Jvm.MethodName) prog_13_method_71_code (5 : Nat) (Option.none : Option Jvm.ClassFile.FieldType)) ∈ a_wt := a_wt_mem 1350 (by decide +kernel) (by decide +kernel)
theorem k_1351 : (Jvm.Cond.methodLink "ThrowReportsModel" (324 : Nat) ({ cls := "ThrowReportsModel", name := "put", desc := "(II)V" } : Jvm.MethodName)) ∈ a_wt := a_wt_mem 1351 (by decide +kernel) (by decide +kernel)
theorem k_1353 : (Jvm.Cond.instanceMethod ({ cls := "ThrowReportsModel", name := "put", desc := "(II)V" } : Jvm.MethodName)) ∈ a_wt := a_wt_mem 1353 (by decide +kernel) (by decide +kernel)
theorem k_1354 : (Jvm.Cond.code ({ cls := "ThrowReportsModel", name := "put", desc := "(II)V" } : Jvm.MethodName) prog_13_method_67_code (4 : Nat) (Option.none : Option Jvm.ClassFile.FieldType)) ∈ a_wt := a_wt_mem 1354 (by decide +kernel) (by decide +kernel)
theorem k_1355 : (Jvm.Cond.methodLink "ThrowReportsModel" (340 : Nat) ({ cls := "ThrowReportsModel", name := "throughChoice", desc := "(II)V" } : Jvm.MethodName)) ∈ a_wt := a_wt_mem 1355 (by decide +kernel) (by decide +kernel)
theorem k_1357 : (Jvm.Cond.instanceMethod ({ cls := "ThrowReportsModel", name := "throughChoice", desc := "(II)V" } : Jvm.MethodName)) ∈ a_wt := a_wt_mem 1357 (by decide +kernel) (by decide +kernel)
theorem k_1358 : (Jvm.Cond.code ({ cls := "ThrowReportsModel", name := "throughChoice", desc := "(II)V" } : Jvm.MethodName) prog_13_method_72_code (6 : Nat) (Option.none : Option Jvm.ClassFile.FieldType)) ∈ a_wt := a_wt_mem 1358 (by decide +kernel) (by decide +kernel)
theorem k_1359 : (Jvm.Cond.methodLink "ThrowReportsModel" (343 : Nat) ({ cls := "ThrowReportsModel", name := "throughGuard", desc := "(II)V" } : Jvm.MethodName)) ∈ a_wt := a_wt_mem 1359 (by decide +kernel) (by decide +kernel)
theorem k_1361 : (Jvm.Cond.instanceMethod ({ cls := "ThrowReportsModel", name := "throughGuard", desc := "(II)V" } : Jvm.MethodName)) ∈ a_wt := a_wt_mem 1361 (by decide +kernel) (by decide +kernel)
theorem k_1362 : (Jvm.Cond.code ({ cls := "ThrowReportsModel", name := "throughGuard", desc := "(II)V" } : Jvm.MethodName) prog_13_method_75_code (7 : Nat) (Option.none : Option Jvm.ClassFile.FieldType)) ∈ a_wt := a_wt_mem 1362 (by decide +kernel) (by decide +kernel)
theorem k_1363 : (Jvm.Cond.methodLink "ThrowReportsModel" (327 : Nat) ({ cls := "ThrowReportsModel", name := "part", desc := "(II)V" } : Jvm.MethodName)) ∈ a_wt := a_wt_mem 1363 (by decide +kernel) (by decide +kernel)
theorem k_1365 : (Jvm.Cond.instanceMethod ({ cls := "ThrowReportsModel", name := "part", desc := "(II)V" } : Jvm.MethodName)) ∈ a_wt := a_wt_mem 1365 (by decide +kernel) (by decide +kernel)
theorem k_1366 : (Jvm.Cond.code ({ cls := "ThrowReportsModel", name := "part", desc := "(II)V" } : Jvm.MethodName) prog_13_method_73_code (5 : Nat) (Option.none : Option Jvm.ClassFile.FieldType)) ∈ a_wt := a_wt_mem 1366 (by decide +kernel) (by decide +kernel)
theorem k_1367 : (Jvm.Cond.methodLink "ThrowReportsModel" (330 : Nat) ({ cls := "ThrowReportsModel", name := "last", desc := "(III)V" } : Jvm.MethodName)) ∈ a_wt := a_wt_mem 1367 (by decide +kernel) (by decide +kernel)
theorem k_1369 : (Jvm.Cond.instanceMethod ({ cls := "ThrowReportsModel", name := "last", desc := "(III)V" } : Jvm.MethodName)) ∈ a_wt := a_wt_mem 1369 (by decide +kernel) (by decide +kernel)
theorem k_1370 : (Jvm.Cond.code ({ cls := "ThrowReportsModel", name := "last", desc := "(III)V" } : Jvm.MethodName) prog_13_method_74_code (7 : Nat) (Option.none : Option Jvm.ClassFile.FieldType)) ∈ a_wt := a_wt_mem 1370 (by decide +kernel) (by decide +kernel)
theorem k_1371 : (Jvm.Cond.methodLink "ThrowReportsLaw" (83 : Nat) ({ cls := "ThrowReportsModel", name := "reached", desc := "(I)I" } : Jvm.MethodName)) ∈ a_wt := a_wt_mem 1371 (by decide +kernel) (by decide +kernel)
theorem k_1372 : (Jvm.Cond.instanceMethod ({ cls := "ThrowReportsModel", name := "reached", desc := "(I)I" } : Jvm.MethodName)) ∈ a_wt := a_wt_mem 1372 (by decide +kernel) (by decide +kernel)
theorem k_1373 : (Jvm.Cond.selects "ThrowReportsModel" ({ cls := "ThrowReportsModel", name := "reached", desc := "(I)I" } : Jvm.MethodName) ({ cls := "ThrowReportsModel", name := "reached", desc := "(I)I" } : Jvm.MethodName)) ∈ a_wt := a_wt_mem 1373 (by decide +kernel) (by decide +kernel)
theorem k_1374 : (Jvm.Cond.code ({ cls := "ThrowReportsModel", name := "reached", desc := "(I)I" } : Jvm.MethodName) prog_13_method_79_code (2 : Nat) (Option.some Jvm.ClassFile.FieldType.int)) ∈ a_wt := a_wt_mem 1374 (by decide +kernel) (by decide +kernel)
theorem k_1375 : (Jvm.Cond.methodLink "ThrowReportsModel" (349 : Nat) ({ cls := "ThrowReportsModel", name := "has", desc := "(I)Z" } : Jvm.MethodName)) ∈ a_wt := a_wt_mem 1375 (by decide +kernel) (by decide +kernel)
theorem k_1377 : (Jvm.Cond.instanceMethod ({ cls := "ThrowReportsModel", name := "has", desc := "(I)Z" } : Jvm.MethodName)) ∈ a_wt := a_wt_mem 1377 (by decide +kernel) (by decide +kernel)
theorem k_1378 : (Jvm.Cond.code ({ cls := "ThrowReportsModel", name := "has", desc := "(I)Z" } : Jvm.MethodName) prog_13_method_78_code (2 : Nat) (Option.some Jvm.ClassFile.FieldType.boolean)) ∈ a_wt := a_wt_mem 1378 (by decide +kernel) (by decide +kernel)
theorem k_1379 : (Jvm.Cond.methodLink "ThrowReportsLaw" (87 : Nat) ({ cls := "ThrowReportsModel", name := "may", desc := "(I)I" } : Jvm.MethodName)) ∈ a_wt := a_wt_mem 1379 (by decide +kernel) (by decide +kernel)
theorem k_1380 : (Jvm.Cond.instanceMethod ({ cls := "ThrowReportsModel", name := "may", desc := "(I)I" } : Jvm.MethodName)) ∈ a_wt := a_wt_mem 1380 (by decide +kernel) (by decide +kernel)
theorem k_1381 : (Jvm.Cond.selects "ThrowReportsModel" ({ cls := "ThrowReportsModel", name := "may", desc := "(I)I" } : Jvm.MethodName) ({ cls := "ThrowReportsModel", name := "may", desc := "(I)I" } : Jvm.MethodName)) ∈ a_wt := a_wt_mem 1381 (by decide +kernel) (by decide +kernel)
theorem k_1382 : (Jvm.Cond.code ({ cls := "ThrowReportsModel", name := "may", desc := "(I)I" } : Jvm.MethodName) prog_13_method_80_code (2 : Nat) (Option.some Jvm.ClassFile.FieldType.int)) ∈ a_wt := a_wt_mem 1382 (by decide +kernel) (by decide +kernel)
theorem k_1383 : (Jvm.Cond.methodLink "ThrowReportsLaw" (91 : Nat) ({ cls := "ThrowReportsModel", name := "ahead", desc := "(II)I" } : Jvm.MethodName)) ∈ a_wt := a_wt_mem 1383 (by decide +kernel) (by decide +kernel)
theorem k_1384 : (Jvm.Cond.instanceMethod ({ cls := "ThrowReportsModel", name := "ahead", desc := "(II)I" } : Jvm.MethodName)) ∈ a_wt := a_wt_mem 1384 (by decide +kernel) (by decide +kernel)
theorem k_1385 : (Jvm.Cond.selects "ThrowReportsModel" ({ cls := "ThrowReportsModel", name := "ahead", desc := "(II)I" } : Jvm.MethodName) ({ cls := "ThrowReportsModel", name := "ahead", desc := "(II)I" } : Jvm.MethodName)) ∈ a_wt := a_wt_mem 1385 (by decide +kernel) (by decide +kernel)
theorem k_1386 : (Jvm.Cond.code ({ cls := "ThrowReportsModel", name := "ahead", desc := "(II)I" } : Jvm.MethodName) prog_13_method_81_code (3 : Nat) (Option.some Jvm.ClassFile.FieldType.int)) ∈ a_wt := a_wt_mem 1386 (by decide +kernel) (by decide +kernel)
theorem k_1387 : (Jvm.Cond.methodLink "ThrowReportsLaw" (95 : Nat) ({ cls := "ThrowReportsModel", name := "guarded", desc := "(II)I" } : Jvm.MethodName)) ∈ a_wt := a_wt_mem 1387 (by decide +kernel) (by decide +kernel)
theorem k_1388 : (Jvm.Cond.instanceMethod ({ cls := "ThrowReportsModel", name := "guarded", desc := "(II)I" } : Jvm.MethodName)) ∈ a_wt := a_wt_mem 1388 (by decide +kernel) (by decide +kernel)
theorem k_1389 : (Jvm.Cond.selects "ThrowReportsModel" ({ cls := "ThrowReportsModel", name := "guarded", desc := "(II)I" } : Jvm.MethodName) ({ cls := "ThrowReportsModel", name := "guarded", desc := "(II)I" } : Jvm.MethodName)) ∈ a_wt := a_wt_mem 1389 (by decide +kernel) (by decide +kernel)
theorem k_1390 : (Jvm.Cond.code ({ cls := "ThrowReportsModel", name := "guarded", desc := "(II)I" } : Jvm.MethodName) prog_13_method_82_code (3 : Nat) (Option.some Jvm.ClassFile.FieldType.int)) ∈ a_wt := a_wt_mem 1390 (by decide +kernel) (by decide +kernel)
end
section
/-! ONE WORLD FOR ALL METHODS. The abstract heap: the next address, and the cells that were made since the law began. -/
abbrev aC : Type := (Nat × vp_A) ⊕ (Nat × List Value)
abbrev aH : Type := Nat × (Nat → Option aC)
/-- where the new cells begin; the classes' numbers and slots; the rows' classes by tag; tables: address, length, contents (0 .. 4 the statics, 5 the script) -/
abbrev aG : Type := Nat × va_G × (Nat → ClassId) × (Nat → Nat × Nat × (Nat → Int32))
/-- a method: its name, bytes, locals, result -/
abbrev aM : Type := MethodName × ByteArray × Nat × Option FieldType
def a_ty (t : Nat) : FieldType := match t with
  | 0 => .int
  | 1 => .long
  | 2 => .boolean
  | 3 => .object "ThrowReports$Node"
  | _ => .object "ThrowReports$State"
def a_tys (dA : Nat → ClassId) : List (ClassId × FieldType) := [(dA 0, a_ty 0), (dA 1, a_ty 1), (dA 2, a_ty 2), (dA 3, a_ty 3), (dA 4, a_ty 4)]
def a_E (dA : Nat → ClassId) (c : aC) : va_E := match c with
  | .inl x => .inl (dA x.1, x.2)
  | .inr o => .inr o
def a_A (G : aG) : Nat → Prop := fun q => G.1 ≤ q
def a_HP (G : aG) (h : aH) (H : Heap) : Prop := H.size = h.1 ∧ G.1 ≤ h.1 ∧ ∀ (a : Nat) (c : aC), h.2 a = some c → G.1 ≤ a ∧ va_at G.2.1 vwCl (a, a_E G.2.2.1 c) H
def a_up (h : aH) (a : Nat) (c : aC) : aH := (h.1, va_up h.2 a (some c))
def a_nw (h : aH) (c : aC) : aH := (h.1 + 1, va_up h.2 h.1 (some c))
theorem a_HP.lt {G : aG} {h : aH} {H : Heap} (P : a_HP G h H) {a : Nat} {c : aC} (hc : h.2 a = some c) : a < h.1 := by
  rw [← P.1]
  exact (P.2.2 a c hc).2.lt
theorem a_HP.set {G : aG} {h : aH} {H H1 : Heap} {a : Nat} {c0 c : aC} (P : a_HP G h H) (hc : h.2 a = some c0) (he : va_at G.2.1 vwCl (a, a_E G.2.2.1 c) H1) (hz : H1.size = H.size) (oq : ∀ q : Nat, q ≠ a → H1[q]? = H[q]?) : a_HP G (a_up h a c) H1 := by
  refine ⟨hz.trans P.1, P.2.1, fun b x hb => ?_⟩
  by_cases e : b = a
  · subst e
    simp [a_up, va_up] at hb
    subst hb
    exact ⟨(P.2.2 b c0 hc).1, he⟩
  · simp [a_up, va_up, e] at hb
    exact ⟨(P.2.2 b x hb).1, (P.2.2 b x hb).2.kept (oq b e)⟩
theorem a_HP.push {G : aG} {h : aH} {H H1 : Heap} {c : aC} (P : a_HP G h H) (he : va_at G.2.1 vwCl (H.size, a_E G.2.2.1 c) H1) (hz : H1.size = H.size + 1) (oq : ∀ q : Nat, q < H.size → H1[q]? = H[q]?) : a_HP G (a_nw h c) H1 := by
  refine ⟨by rw [hz, P.1]; rfl, Nat.le_succ_of_le P.2.1, fun b x hb => ?_⟩
  by_cases e : b = h.1
  · subst e
    simp [a_nw, va_up] at hb
    subst hb
    rw [← P.1]
    exact ⟨by rw [P.1]; exact P.2.1, he⟩
  · simp [a_nw, va_up, e] at hb
    exact ⟨(P.2.2 b x hb).1, (P.2.2 b x hb).2.kept (oq b (by rw [P.1]; exact P.lt hb))⟩
/-! what stays true of the tables -/
def a_nwk (w : Cond) : Bool := match w with
  | .fieldLinkNest _ _ _ _ _ _ => true
  | .methodLinkNest _ _ _ _ => true
  | .declares _ => true
  | .castable _ _ => true
  | _ => false
theorem a_nw_on {w : Cond} (h : a_nwk w = true) : w.onTables = true := by
  cases w <;> first | rfl | (simp [a_nwk] at h)
theorem a_nw_warm {w : Cond} (h : a_nwk w = true) {s U : State} (hW : s.WarmedH U.vm) (hZ : va_Nw w s) : va_Nw w U := by
  cases w <;> first | exact va_Nw.warmF hW hZ | exact va_Nw.warmM hW hZ | exact va_Nw.warmD hW hZ | exact va_Nw.warmC hW hZ | (simp [a_nwk] at h)
theorem a_nws_ok : ∀ w ∈ a_nws, a_nwk w = true := by decide +kernel
/-- the statics: class, name -/
def a_sn (i : Nat) : String × String := match i with
  | 0 => ("ThrowReports$Act", "FORMS")
  | 1 => ("ThrowReports$Kinds", "ARE")
  | 2 => ("ThrowReports$Kinds", "MEET")
  | 3 => ("ThrowReports$Kinds", "TAKE_ALL")
  | _ => ("ThrowReports$Kinds", "ITEMS")
def a_nc : List (String × String) := [(RX0, RX3), (RX1, RX3), (RX2, RX3)]
def a_KN (G : aG) (U : State) : Prop :=
  va_K G.2.1 vwCl (a_tys G.2.2.1) U ∧ (∀ w ∈ a_nws, va_Nw w U) ∧ (∀ i, i < 5 → va_Z (a_sn i).1 (a_sn i).2 "[I" (.ref (G.2.2.2 i).1) (a_A G) U U.heap) ∧ (∀ i, i < 6 → va_T .int (G.2.2.2 i).1 (G.2.2.2 i).2.1 (fun j => .int ((G.2.2.2 i).2.2 j)) (a_A G) U U.heap) ∧ (∀ q ∈ a_nc, va_Nc q.1 q.2 U) ∧ va_AO RX6 U ∧ va_AO RX7 U
theorem a_KN.mv {G : aG} {s U : State} (h : a_KN G s) (hW : s.WarmedH U.vm) (hq : ∀ a : Nat, a < s.heap.size → ¬ a_A G a → U.heap[a]? = s.heap[a]?) : a_KN G U := by
  obtain ⟨h1, h2, h3, h4, h5, h6, h7⟩ := h
  exact ⟨va_K.moved hW.alike h1, fun w hw => a_nw_warm (a_nws_ok w hw) hW (h2 w hw), fun i hi => ((h3 i hi).kept hq).moved hW.alike, fun i hi => ((h4 i hi).kept hq).moved hW.alike, fun q hm => (h5 q hm).moved hW.alike, h6.moved hW.alike, h7.moved hW.alike⟩
theorem a_KN.same {G : aG} {s U : State} (h : a_KN G s) (hv : s.vm = U.vm) (hh : U.heap = s.heap) : a_KN G U := by
  obtain ⟨h1, h2, h3, h4, h5, h6, h7⟩ := h
  have hA : s.vm.Alike U.vm := by rw [hv]; exact Vm.Alike.refl _
  exact ⟨va_K.moved hA h1, fun w hw => va_Nw.same (a_nw_on (a_nws_ok w hw)) hv (h2 w hw), fun i hi => by rw [hh]; exact (h3 i hi).moved hA, fun i hi => by rw [hh]; exact (h4 i hi).moved hA, fun q hm => (h5 q hm).moved hA, h6.moved hA, h7.moved hA⟩
/-! THE JUDGEMENT: from here the method comes to its end, with an answer and a heap that Q takes. d: levels of calls left; c, w: cells and slots left -/
def a_k : Nat := 40
def a_F (G : aG) (d : Nat) (M : aM) (p : Program) (R : Room) (s : State) (m : MethodId) (args : Array Value) (meth : Method) (cd : Code) : Prop :=
  p.tables.exec = Jvm.exec ∧ cd.code = M.2.1 ∧ meth.sig.returnType = M.2.2.2 ∧ cd.maxLocals = M.2.2.1 ∧ s.vm.findClass M.1.cls = some m.cls ∧ meth.name = M.1.name ∧ (∀ w ∈ a_wt, w.before args s = true) ∧ meth.locks = false ∧ a_KN G s ∧ d ≤ R.frames ∧ a_k * d ≤ R.locals
def a_S (G : aG) (c w : Nat) (h : aH) (R : Room) (s : State) (H : Heap) (locs : List Loc) (cells slots mc ms : Nat) : Prop :=
  cells + c ≤ mc ∧ slots + w ≤ ms ∧ mc ≤ R.cells ∧ ms ≤ R.slots ∧ a_HP G h H ∧ va_S (a_A G) s.heap H locs ∧ G.1 ≤ s.heap.size
def a_Q (G : aG) (Q : Option Value → aH → Prop) : Array Value → State → Outcome → State → Prop := fun _ st oc t => (∃ (v : Option Value) (h : aH), oc = .returned v ∧ Q v h ∧ a_HP G h t.heap) ∧ va_F (a_A G) st t
def AW (l : Launch) (G : aG) (d c w : Nat) (M : aM) (Q : Option Value → aH → Prop) (pc : Nat) (lv : List (Nat × Value)) (st : List Value) (h : aH) : Prop :=
  ∀ (p : Program) (e : Env) (R : Room) (s : State) (m : MethodId) (args : Array Value) (below : List Frame) (meth : Method) (cd : Code) (H : Heap) (locs : List Loc) (cells slots mc ms : Nat) (ls : Array Slot),
    a_F G d M p R s m args meth cd → a_S G c w h R s H locs cells slots mc ms → lv_has ls M.2.2.1 lv →
    W p l e R s m args below meth cd H locs cells slots (MQ below (a_Q G Q) args s mc ms (a_A G)) (F0 m pc ls st)
def a_ws (M : aM) : List Cond := .code M.1 M.2.1 M.2.2.1 M.2.2.2 :: a_wt
/-- a method's contract: called so, with this heap, it comes back with an answer and a heap that Q takes -/
def AC (l : Launch) (G : aG) (d c w : Nat) (M : aM) (av : List Value) (h : aH) (Q : Option Value → aH → Prop) : Prop :=
  Met l M.1 (a_ws M) ({ frames := d, cells := c, slots := w, locals := a_k * d }) (va_Pc av (fun U => a_KN G U ∧ a_HP G h U.heap)) (a_Q G Q) c w (a_A G)
theorem aw_iconst {l : Launch} {G : aG} {d c w : Nat} {M : aM} {Q : Option Value → aH → Prop} {pc : Nat} {lv : List (Nat × Value)} {st : List Value} {h : aH} {n : Int} {v : Int32} (hdg : decode M.2.1 pc = .ok (.iconst n, 1)) (hv : Int32.ofInt n = v) (k : AW l G d c w M Q (pc + 1) lv (.int v :: st) h) : AW l G d c w M Q pc lv (st) h :=
  fun p e R s m args below meth cd H locs cells slots mc ms ls F S hl => lv_iconst F.1 F.2.1 hdg hv (k p e R s m args below meth cd H locs cells slots mc ms ls F S hl)
theorem aw_bipush {l : Launch} {G : aG} {d c w : Nat} {M : aM} {Q : Option Value → aH → Prop} {pc : Nat} {lv : List (Nat × Value)} {st : List Value} {h : aH} {n : Int} {v : Int32} (hdg : decode M.2.1 pc = .ok (.bipush n, 2)) (hv : (Int8.ofInt n).toInt32 = v) (k : AW l G d c w M Q (pc + 2) lv (.int v :: st) h) : AW l G d c w M Q pc lv (st) h :=
  fun p e R s m args below meth cd H locs cells slots mc ms ls F S hl => lv_bipush F.1 F.2.1 hdg hv (k p e R s m args below meth cd H locs cells slots mc ms ls F S hl)
theorem aw_sipush {l : Launch} {G : aG} {d c w : Nat} {M : aM} {Q : Option Value → aH → Prop} {pc : Nat} {lv : List (Nat × Value)} {st : List Value} {h : aH} {n : Int} {v : Int32} (hdg : decode M.2.1 pc = .ok (.sipush n, 3)) (hv : (Int16.ofInt n).toInt32 = v) (k : AW l G d c w M Q (pc + 3) lv (.int v :: st) h) : AW l G d c w M Q pc lv (st) h :=
  fun p e R s m args below meth cd H locs cells slots mc ms ls F S hl => lv_sipush F.1 F.2.1 hdg hv (k p e R s m args below meth cd H locs cells slots mc ms ls F S hl)
theorem aw_lconst {l : Launch} {G : aG} {d c w : Nat} {M : aM} {Q : Option Value → aH → Prop} {pc : Nat} {lv : List (Nat × Value)} {st : List Value} {h : aH} {n : Fin 2} {v : Int64} (hdg : decode M.2.1 pc = .ok (.lconst n, 1)) (hv : Int64.ofNat (n : Nat) = v) (k : AW l G d c w M Q (pc + 1) lv (.long v :: st) h) : AW l G d c w M Q pc lv (st) h :=
  fun p e R s m args below meth cd H locs cells slots mc ms ls F S hl => lv_lconst F.1 F.2.1 hdg hv (k p e R s m args below meth cd H locs cells slots mc ms ls F S hl)
theorem aw_null {l : Launch} {G : aG} {d c w : Nat} {M : aM} {Q : Option Value → aH → Prop} {pc : Nat} {lv : List (Nat × Value)} {st : List Value} {h : aH}  (hdg : decode M.2.1 pc = .ok (.aconst_null, 1))  (k : AW l G d c w M Q (pc + 1) lv (.null :: st) h) : AW l G d c w M Q pc lv (st) h :=
  fun p e R s m args below meth cd H locs cells slots mc ms ls F S hl => lv_null F.1 F.2.1 hdg  (k p e R s m args below meth cd H locs cells slots mc ms ls F S hl)
theorem aw_iload_n {l : Launch} {G : aG} {d c w : Nat} {M : aM} {Q : Option Value → aH → Prop} {pc : Nat} {lv : List (Nat × Value)} {st : List Value} {h : aH} {n : Fin 4} {x : Int32} {i : Nat} (q : Nat) (hdg : decode M.2.1 pc = .ok (.iload_n n, 1)) (hi : (n : Nat) = i) (hq : lv[q]? = some (i, .int x)) (k : AW l G d c w M Q (pc + 1) lv (.int x :: st) h) : AW l G d c w M Q pc lv (st) h :=
  fun p e R s m args below meth cd H locs cells slots mc ms ls F S hl => lv_iload_n F.1 F.2.1 hdg hi (lv_at hl q hq) (k p e R s m args below meth cd H locs cells slots mc ms ls F S hl)
theorem aw_iload {l : Launch} {G : aG} {d c w : Nat} {M : aM} {Q : Option Value → aH → Prop} {pc : Nat} {lv : List (Nat × Value)} {st : List Value} {h : aH} {x : Int32} {i : Nat} (q : Nat) (hdg : decode M.2.1 pc = .ok (.iload i, 2)) (hq : lv[q]? = some (i, .int x)) (k : AW l G d c w M Q (pc + 2) lv (.int x :: st) h) : AW l G d c w M Q pc lv (st) h :=
  fun p e R s m args below meth cd H locs cells slots mc ms ls F S hl => lv_iload F.1 F.2.1 hdg (lv_at hl q hq) (k p e R s m args below meth cd H locs cells slots mc ms ls F S hl)
theorem aw_lload_n {l : Launch} {G : aG} {d c w : Nat} {M : aM} {Q : Option Value → aH → Prop} {pc : Nat} {lv : List (Nat × Value)} {st : List Value} {h : aH} {n : Fin 4} {x : Int64} {i : Nat} (q : Nat) (hdg : decode M.2.1 pc = .ok (.lload_n n, 1)) (hi : (n : Nat) = i) (hq : lv[q]? = some (i, .long x)) (k : AW l G d c w M Q (pc + 1) lv (.long x :: st) h) : AW l G d c w M Q pc lv (st) h :=
  fun p e R s m args below meth cd H locs cells slots mc ms ls F S hl => lv_lload_n F.1 F.2.1 hdg hi (lv_at hl q hq) (k p e R s m args below meth cd H locs cells slots mc ms ls F S hl)
theorem aw_lload {l : Launch} {G : aG} {d c w : Nat} {M : aM} {Q : Option Value → aH → Prop} {pc : Nat} {lv : List (Nat × Value)} {st : List Value} {h : aH} {x : Int64} {i : Nat} (q : Nat) (hdg : decode M.2.1 pc = .ok (.lload i, 2)) (hq : lv[q]? = some (i, .long x)) (k : AW l G d c w M Q (pc + 2) lv (.long x :: st) h) : AW l G d c w M Q pc lv (st) h :=
  fun p e R s m args below meth cd H locs cells slots mc ms ls F S hl => lv_lload F.1 F.2.1 hdg (lv_at hl q hq) (k p e R s m args below meth cd H locs cells slots mc ms ls F S hl)
theorem aw_aload_n {l : Launch} {G : aG} {d c w : Nat} {M : aM} {Q : Option Value → aH → Prop} {pc : Nat} {lv : List (Nat × Value)} {st : List Value} {h : aH} {n : Fin 4} {x : Nat} {i : Nat} (q : Nat) (hdg : decode M.2.1 pc = .ok (.aload_n n, 1)) (hi : (n : Nat) = i) (hq : lv[q]? = some (i, .ref x)) (k : AW l G d c w M Q (pc + 1) lv (.ref x :: st) h) : AW l G d c w M Q pc lv (st) h :=
  fun p e R s m args below meth cd H locs cells slots mc ms ls F S hl => lv_aload_n F.1 F.2.1 hdg hi (lv_at hl q hq) (k p e R s m args below meth cd H locs cells slots mc ms ls F S hl)
theorem aw_aload {l : Launch} {G : aG} {d c w : Nat} {M : aM} {Q : Option Value → aH → Prop} {pc : Nat} {lv : List (Nat × Value)} {st : List Value} {h : aH} {x : Nat} {i : Nat} (q : Nat) (hdg : decode M.2.1 pc = .ok (.aload i, 2)) (hq : lv[q]? = some (i, .ref x)) (k : AW l G d c w M Q (pc + 2) lv (.ref x :: st) h) : AW l G d c w M Q pc lv (st) h :=
  fun p e R s m args below meth cd H locs cells slots mc ms ls F S hl => lv_aload F.1 F.2.1 hdg (lv_at hl q hq) (k p e R s m args below meth cd H locs cells slots mc ms ls F S hl)
theorem aw_aload_nQ {l : Launch} {G : aG} {d c w : Nat} {M : aM} {Q : Option Value → aH → Prop} {pc : Nat} {lv : List (Nat × Value)} {st : List Value} {h : aH} {n : Fin 4} {r : Option Nat} {i : Nat} (q : Nat) (hdg : decode M.2.1 pc = .ok (.aload_n n, 1)) (hi : (n : Nat) = i) (hq : lv[q]? = some (i, va_rf r)) (k : AW l G d c w M Q (pc + 1) lv (va_rf r :: st) h) : AW l G d c w M Q pc lv st h := by
  cases r with
  | none => exact fun p e R s m args below meth cd H locs cells slots mc ms ls F S hl => lv_aload_nN F.1 F.2.1 hdg hi (lv_at hl q hq) (k p e R s m args below meth cd H locs cells slots mc ms ls F S hl)
  | some x => exact fun p e R s m args below meth cd H locs cells slots mc ms ls F S hl => lv_aload_n F.1 F.2.1 hdg hi (lv_at hl q hq) (k p e R s m args below meth cd H locs cells slots mc ms ls F S hl)
theorem aw_aloadQ {l : Launch} {G : aG} {d c w : Nat} {M : aM} {Q : Option Value → aH → Prop} {pc : Nat} {lv : List (Nat × Value)} {st : List Value} {h : aH} {r : Option Nat} {i : Nat} (q : Nat) (hdg : decode M.2.1 pc = .ok (.aload i, 2)) (hq : lv[q]? = some (i, va_rf r)) (k : AW l G d c w M Q (pc + 2) lv (va_rf r :: st) h) : AW l G d c w M Q pc lv st h := by
  cases r with
  | none => exact fun p e R s m args below meth cd H locs cells slots mc ms ls F S hl => lv_aloadN F.1 F.2.1 hdg (lv_at hl q hq) (k p e R s m args below meth cd H locs cells slots mc ms ls F S hl)
  | some x => exact fun p e R s m args below meth cd H locs cells slots mc ms ls F S hl => lv_aload F.1 F.2.1 hdg (lv_at hl q hq) (k p e R s m args below meth cd H locs cells slots mc ms ls F S hl)
theorem aw_istore_n {l : Launch} {G : aG} {d c w : Nat} {M : aM} {Q : Option Value → aH → Prop} {pc : Nat} {lv : List (Nat × Value)} {st : List Value} {h : aH} {n : Fin 4} {x : Int32} {i : Nat} {lv' : List (Nat × Value)} (hdg : decode M.2.1 pc = .ok (.istore_n n, 1)) (hi : (n : Nat) = i) (hn : i < M.2.2.1) (hv : (i, Value.int x) :: lv.filter (fun q => !(q.1 == i) && !(q.1 + 1 == i && q.2.category == 2)) = lv') (k : AW l G d c w M Q (pc + 1) lv' st h) : AW l G d c w M Q pc lv (.int x :: st) h :=
  fun p e R s m args below meth cd H locs cells slots mc ms ls F S hl => lv_istore_n F.1 F.2.1 hdg hi hl hn hv (fun ls hl => k p e R s m args below meth cd H locs cells slots mc ms ls F S hl)
theorem aw_istore {l : Launch} {G : aG} {d c w : Nat} {M : aM} {Q : Option Value → aH → Prop} {pc : Nat} {lv : List (Nat × Value)} {st : List Value} {h : aH} {x : Int32} {i : Nat} {lv' : List (Nat × Value)} (hdg : decode M.2.1 pc = .ok (.istore i, 2)) (hn : i < M.2.2.1) (hv : (i, Value.int x) :: lv.filter (fun q => !(q.1 == i) && !(q.1 + 1 == i && q.2.category == 2)) = lv') (k : AW l G d c w M Q (pc + 2) lv' st h) : AW l G d c w M Q pc lv (.int x :: st) h :=
  fun p e R s m args below meth cd H locs cells slots mc ms ls F S hl => lv_istore F.1 F.2.1 hdg hl hn hv (fun ls hl => k p e R s m args below meth cd H locs cells slots mc ms ls F S hl)
theorem aw_astore_n {l : Launch} {G : aG} {d c w : Nat} {M : aM} {Q : Option Value → aH → Prop} {pc : Nat} {lv : List (Nat × Value)} {st : List Value} {h : aH} {n : Fin 4} {x : Nat} {i : Nat} {lv' : List (Nat × Value)} (hdg : decode M.2.1 pc = .ok (.astore_n n, 1)) (hi : (n : Nat) = i) (hn : i < M.2.2.1) (hv : (i, Value.ref x) :: lv.filter (fun q => !(q.1 == i) && !(q.1 + 1 == i && q.2.category == 2)) = lv') (k : AW l G d c w M Q (pc + 1) lv' st h) : AW l G d c w M Q pc lv (.ref x :: st) h :=
  fun p e R s m args below meth cd H locs cells slots mc ms ls F S hl => lv_astore_n F.1 F.2.1 hdg hi hl hn hv (fun ls hl => k p e R s m args below meth cd H locs cells slots mc ms ls F S hl)
theorem aw_astore {l : Launch} {G : aG} {d c w : Nat} {M : aM} {Q : Option Value → aH → Prop} {pc : Nat} {lv : List (Nat × Value)} {st : List Value} {h : aH} {x : Nat} {i : Nat} {lv' : List (Nat × Value)} (hdg : decode M.2.1 pc = .ok (.astore i, 2)) (hn : i < M.2.2.1) (hv : (i, Value.ref x) :: lv.filter (fun q => !(q.1 == i) && !(q.1 + 1 == i && q.2.category == 2)) = lv') (k : AW l G d c w M Q (pc + 2) lv' st h) : AW l G d c w M Q pc lv (.ref x :: st) h :=
  fun p e R s m args below meth cd H locs cells slots mc ms ls F S hl => lv_astore F.1 F.2.1 hdg hl hn hv (fun ls hl => k p e R s m args below meth cd H locs cells slots mc ms ls F S hl)
theorem aw_lstore_n {l : Launch} {G : aG} {d c w : Nat} {M : aM} {Q : Option Value → aH → Prop} {pc : Nat} {lv : List (Nat × Value)} {st : List Value} {h : aH} {n : Fin 4} {x : Int64} {i : Nat} {lv' : List (Nat × Value)} (hdg : decode M.2.1 pc = .ok (.lstore_n n, 1)) (hi : (n : Nat) = i) (hn : i + 1 < M.2.2.1) (hv : (i, Value.long x) :: lv.filter (fun q => !(q.1 == i) && (!(q.1 == i + 1) && !(q.1 + 1 == i && q.2.category == 2))) = lv') (k : AW l G d c w M Q (pc + 1) lv' st h) : AW l G d c w M Q pc lv (.long x :: st) h :=
  fun p e R s m args below meth cd H locs cells slots mc ms ls F S hl => lv_lstore_n F.1 F.2.1 hdg hi hl hn hv (fun ls hl => k p e R s m args below meth cd H locs cells slots mc ms ls F S hl)
theorem aw_lstore {l : Launch} {G : aG} {d c w : Nat} {M : aM} {Q : Option Value → aH → Prop} {pc : Nat} {lv : List (Nat × Value)} {st : List Value} {h : aH} {x : Int64} {i : Nat} {lv' : List (Nat × Value)} (hdg : decode M.2.1 pc = .ok (.lstore i, 2)) (hn : i + 1 < M.2.2.1) (hv : (i, Value.long x) :: lv.filter (fun q => !(q.1 == i) && (!(q.1 == i + 1) && !(q.1 + 1 == i && q.2.category == 2))) = lv') (k : AW l G d c w M Q (pc + 2) lv' st h) : AW l G d c w M Q pc lv (.long x :: st) h :=
  fun p e R s m args below meth cd H locs cells slots mc ms ls F S hl => lv_lstore F.1 F.2.1 hdg hl hn hv (fun ls hl => k p e R s m args below meth cd H locs cells slots mc ms ls F S hl)
theorem aw_iinc {l : Launch} {G : aG} {d c w : Nat} {M : aM} {Q : Option Value → aH → Prop} {pc : Nat} {lv : List (Nat × Value)} {st : List Value} {h : aH} {x v : Int32} {n : Int} {i : Nat} {lv' : List (Nat × Value)} (q : Nat) (hdg : decode M.2.1 pc = .ok (.iinc i n, 3)) (hq : lv[q]? = some (i, .int x)) (hv : x + Int32.ofInt n = v) (hn : i < M.2.2.1) (he : (i, Value.int v) :: lv.filter (fun q => !(q.1 == i) && !(q.1 + 1 == i && q.2.category == 2)) = lv') (k : AW l G d c w M Q (pc + 3) lv' st h) : AW l G d c w M Q pc lv st h :=
  fun p e R s m args below meth cd H locs cells slots mc ms ls F S hl => lv_iinc F.1 F.2.1 hdg hl hq hv hn he (fun ls hl => k p e R s m args below meth cd H locs cells slots mc ms ls F S hl)
theorem aw_iadd {l : Launch} {G : aG} {d c w : Nat} {M : aM} {Q : Option Value → aH → Prop} {pc : Nat} {lv : List (Nat × Value)} {st : List Value} {h : aH} {x y : Int32} (hdg : decode M.2.1 pc = .ok (.iadd, 1))  (k : AW l G d c w M Q (pc + 1) lv (.int (x + y) :: st) h) : AW l G d c w M Q pc lv (.int y :: .int x :: st) h :=
  fun p e R s m args below meth cd H locs cells slots mc ms ls F S hl => lv_iadd F.1 F.2.1 hdg  (k p e R s m args below meth cd H locs cells slots mc ms ls F S hl)
theorem aw_isub {l : Launch} {G : aG} {d c w : Nat} {M : aM} {Q : Option Value → aH → Prop} {pc : Nat} {lv : List (Nat × Value)} {st : List Value} {h : aH} {x y : Int32} (hdg : decode M.2.1 pc = .ok (.isub, 1))  (k : AW l G d c w M Q (pc + 1) lv (.int (x - y) :: st) h) : AW l G d c w M Q pc lv (.int y :: .int x :: st) h :=
  fun p e R s m args below meth cd H locs cells slots mc ms ls F S hl => lv_isub F.1 F.2.1 hdg  (k p e R s m args below meth cd H locs cells slots mc ms ls F S hl)
theorem aw_imul {l : Launch} {G : aG} {d c w : Nat} {M : aM} {Q : Option Value → aH → Prop} {pc : Nat} {lv : List (Nat × Value)} {st : List Value} {h : aH} {x y : Int32} (hdg : decode M.2.1 pc = .ok (.imul, 1))  (k : AW l G d c w M Q (pc + 1) lv (.int (x * y) :: st) h) : AW l G d c w M Q pc lv (.int y :: .int x :: st) h :=
  fun p e R s m args below meth cd H locs cells slots mc ms ls F S hl => lv_imul F.1 F.2.1 hdg  (k p e R s m args below meth cd H locs cells slots mc ms ls F S hl)
theorem aw_iand {l : Launch} {G : aG} {d c w : Nat} {M : aM} {Q : Option Value → aH → Prop} {pc : Nat} {lv : List (Nat × Value)} {st : List Value} {h : aH} {x y : Int32} (hdg : decode M.2.1 pc = .ok (.iand, 1))  (k : AW l G d c w M Q (pc + 1) lv (.int (x &&& y) :: st) h) : AW l G d c w M Q pc lv (.int y :: .int x :: st) h :=
  fun p e R s m args below meth cd H locs cells slots mc ms ls F S hl => lv_iand F.1 F.2.1 hdg  (k p e R s m args below meth cd H locs cells slots mc ms ls F S hl)
theorem aw_ior {l : Launch} {G : aG} {d c w : Nat} {M : aM} {Q : Option Value → aH → Prop} {pc : Nat} {lv : List (Nat × Value)} {st : List Value} {h : aH} {x y : Int32} (hdg : decode M.2.1 pc = .ok (.ior, 1))  (k : AW l G d c w M Q (pc + 1) lv (.int (x ||| y) :: st) h) : AW l G d c w M Q pc lv (.int y :: .int x :: st) h :=
  fun p e R s m args below meth cd H locs cells slots mc ms ls F S hl => lv_ior F.1 F.2.1 hdg  (k p e R s m args below meth cd H locs cells slots mc ms ls F S hl)
theorem aw_ixor {l : Launch} {G : aG} {d c w : Nat} {M : aM} {Q : Option Value → aH → Prop} {pc : Nat} {lv : List (Nat × Value)} {st : List Value} {h : aH} {x y : Int32} (hdg : decode M.2.1 pc = .ok (.ixor, 1))  (k : AW l G d c w M Q (pc + 1) lv (.int (x ^^^ y) :: st) h) : AW l G d c w M Q pc lv (.int y :: .int x :: st) h :=
  fun p e R s m args below meth cd H locs cells slots mc ms ls F S hl => lv_ixor F.1 F.2.1 hdg  (k p e R s m args below meth cd H locs cells slots mc ms ls F S hl)
theorem aw_ladd {l : Launch} {G : aG} {d c w : Nat} {M : aM} {Q : Option Value → aH → Prop} {pc : Nat} {lv : List (Nat × Value)} {st : List Value} {h : aH} {x y : Int64} (hdg : decode M.2.1 pc = .ok (.ladd, 1))  (k : AW l G d c w M Q (pc + 1) lv (.long (x + y) :: st) h) : AW l G d c w M Q pc lv (.long y :: .long x :: st) h :=
  fun p e R s m args below meth cd H locs cells slots mc ms ls F S hl => lv_ladd F.1 F.2.1 hdg  (k p e R s m args below meth cd H locs cells slots mc ms ls F S hl)
theorem aw_lsub {l : Launch} {G : aG} {d c w : Nat} {M : aM} {Q : Option Value → aH → Prop} {pc : Nat} {lv : List (Nat × Value)} {st : List Value} {h : aH} {x y : Int64} (hdg : decode M.2.1 pc = .ok (.lsub, 1))  (k : AW l G d c w M Q (pc + 1) lv (.long (x - y) :: st) h) : AW l G d c w M Q pc lv (.long y :: .long x :: st) h :=
  fun p e R s m args below meth cd H locs cells slots mc ms ls F S hl => lv_lsub F.1 F.2.1 hdg  (k p e R s m args below meth cd H locs cells slots mc ms ls F S hl)
theorem aw_lmul {l : Launch} {G : aG} {d c w : Nat} {M : aM} {Q : Option Value → aH → Prop} {pc : Nat} {lv : List (Nat × Value)} {st : List Value} {h : aH} {x y : Int64} (hdg : decode M.2.1 pc = .ok (.lmul, 1))  (k : AW l G d c w M Q (pc + 1) lv (.long (x * y) :: st) h) : AW l G d c w M Q pc lv (.long y :: .long x :: st) h :=
  fun p e R s m args below meth cd H locs cells slots mc ms ls F S hl => lv_lmul F.1 F.2.1 hdg  (k p e R s m args below meth cd H locs cells slots mc ms ls F S hl)
theorem aw_land {l : Launch} {G : aG} {d c w : Nat} {M : aM} {Q : Option Value → aH → Prop} {pc : Nat} {lv : List (Nat × Value)} {st : List Value} {h : aH} {x y : Int64} (hdg : decode M.2.1 pc = .ok (.land, 1))  (k : AW l G d c w M Q (pc + 1) lv (.long (x &&& y) :: st) h) : AW l G d c w M Q pc lv (.long y :: .long x :: st) h :=
  fun p e R s m args below meth cd H locs cells slots mc ms ls F S hl => lv_land F.1 F.2.1 hdg  (k p e R s m args below meth cd H locs cells slots mc ms ls F S hl)
theorem aw_ldiv {l : Launch} {G : aG} {d c w : Nat} {M : aM} {Q : Option Value → aH → Prop} {pc : Nat} {lv : List (Nat × Value)} {st : List Value} {h : aH} {x y : Int64} (hdg : decode M.2.1 pc = .ok (.ldiv, 1)) (hne : ¬ y = 0) (k : AW l G d c w M Q (pc + 1) lv (.long (x / y) :: st) h) : AW l G d c w M Q pc lv (.long y :: .long x :: st) h :=
  fun p e R s m args below meth cd H locs cells slots mc ms ls F S hl => lv_ldiv F.1 F.2.1 hdg hne (k p e R s m args below meth cd H locs cells slots mc ms ls F S hl)
theorem aw_lrem {l : Launch} {G : aG} {d c w : Nat} {M : aM} {Q : Option Value → aH → Prop} {pc : Nat} {lv : List (Nat × Value)} {st : List Value} {h : aH} {x y : Int64} (hdg : decode M.2.1 pc = .ok (.lrem, 1)) (hne : ¬ y = 0) (k : AW l G d c w M Q (pc + 1) lv (.long (x - x / y * y) :: st) h) : AW l G d c w M Q pc lv (.long y :: .long x :: st) h :=
  fun p e R s m args below meth cd H locs cells slots mc ms ls F S hl => lv_lrem F.1 F.2.1 hdg hne (k p e R s m args below meth cd H locs cells slots mc ms ls F S hl)
theorem aw_lneg {l : Launch} {G : aG} {d c w : Nat} {M : aM} {Q : Option Value → aH → Prop} {pc : Nat} {lv : List (Nat × Value)} {st : List Value} {h : aH} {x : Int64} (hdg : decode M.2.1 pc = .ok (.lneg, 1))  (k : AW l G d c w M Q (pc + 1) lv (.long (-x) :: st) h) : AW l G d c w M Q pc lv (.long x :: st) h :=
  fun p e R s m args below meth cd H locs cells slots mc ms ls F S hl => lv_lneg F.1 F.2.1 hdg  (k p e R s m args below meth cd H locs cells slots mc ms ls F S hl)
theorem aw_ishl {l : Launch} {G : aG} {d c w : Nat} {M : aM} {Q : Option Value → aH → Prop} {pc : Nat} {lv : List (Nat × Value)} {st : List Value} {h : aH} {x y : Int32} (hdg : decode M.2.1 pc = .ok (.ishl, 1))  (k : AW l G d c w M Q (pc + 1) lv (.int (x <<< (y &&& 31)) :: st) h) : AW l G d c w M Q pc lv (.int y :: .int x :: st) h :=
  fun p e R s m args below meth cd H locs cells slots mc ms ls F S hl => lv_ishl F.1 F.2.1 hdg  (k p e R s m args below meth cd H locs cells slots mc ms ls F S hl)
theorem aw_ishr {l : Launch} {G : aG} {d c w : Nat} {M : aM} {Q : Option Value → aH → Prop} {pc : Nat} {lv : List (Nat × Value)} {st : List Value} {h : aH} {x y : Int32} (hdg : decode M.2.1 pc = .ok (.ishr, 1))  (k : AW l G d c w M Q (pc + 1) lv (.int (x >>> (y &&& 31)) :: st) h) : AW l G d c w M Q pc lv (.int y :: .int x :: st) h :=
  fun p e R s m args below meth cd H locs cells slots mc ms ls F S hl => lv_ishr F.1 F.2.1 hdg  (k p e R s m args below meth cd H locs cells slots mc ms ls F S hl)
theorem aw_lshr {l : Launch} {G : aG} {d c w : Nat} {M : aM} {Q : Option Value → aH → Prop} {pc : Nat} {lv : List (Nat × Value)} {st : List Value} {h : aH} {x : Int64} {y : Int32} (hdg : decode M.2.1 pc = .ok (.lshr, 1))  (k : AW l G d c w M Q (pc + 1) lv (.long (x >>> (y.toInt64 &&& 63)) :: st) h) : AW l G d c w M Q pc lv (.int y :: .long x :: st) h :=
  fun p e R s m args below meth cd H locs cells slots mc ms ls F S hl => lv_lshr F.1 F.2.1 hdg rfl (k p e R s m args below meth cd H locs cells slots mc ms ls F S hl)
theorem aw_i2l {l : Launch} {G : aG} {d c w : Nat} {M : aM} {Q : Option Value → aH → Prop} {pc : Nat} {lv : List (Nat × Value)} {st : List Value} {h : aH} {x : Int32} (hdg : decode M.2.1 pc = .ok (.i2l, 1))  (k : AW l G d c w M Q (pc + 1) lv (.long x.toInt64 :: st) h) : AW l G d c w M Q pc lv (.int x :: st) h :=
  fun p e R s m args below meth cd H locs cells slots mc ms ls F S hl => lv_i2l F.1 F.2.1 hdg rfl (k p e R s m args below meth cd H locs cells slots mc ms ls F S hl)
theorem aw_l2i {l : Launch} {G : aG} {d c w : Nat} {M : aM} {Q : Option Value → aH → Prop} {pc : Nat} {lv : List (Nat × Value)} {st : List Value} {h : aH} {x : Int64} (hdg : decode M.2.1 pc = .ok (.l2i, 1))  (k : AW l G d c w M Q (pc + 1) lv (.int x.toInt32 :: st) h) : AW l G d c w M Q pc lv (.long x :: st) h :=
  fun p e R s m args below meth cd H locs cells slots mc ms ls F S hl => lv_l2i F.1 F.2.1 hdg rfl (k p e R s m args below meth cd H locs cells slots mc ms ls F S hl)
theorem aw_i2b {l : Launch} {G : aG} {d c w : Nat} {M : aM} {Q : Option Value → aH → Prop} {pc : Nat} {lv : List (Nat × Value)} {st : List Value} {h : aH} {x : Int32} (hdg : decode M.2.1 pc = .ok (.i2b, 1))  (k : AW l G d c w M Q (pc + 1) lv (.int x.toInt8.toInt32 :: st) h) : AW l G d c w M Q pc lv (.int x :: st) h :=
  fun p e R s m args below meth cd H locs cells slots mc ms ls F S hl => lv_i2b F.1 F.2.1 hdg rfl (k p e R s m args below meth cd H locs cells slots mc ms ls F S hl)
theorem aw_lcmp {l : Launch} {G : aG} {d c w : Nat} {M : aM} {Q : Option Value → aH → Prop} {pc : Nat} {lv : List (Nat × Value)} {st : List Value} {h : aH} {x y : Int64} (hdg : decode M.2.1 pc = .ok (.lcmp, 1))  (k : AW l G d c w M Q (pc + 1) lv (.int (lg_cmp x y) :: st) h) : AW l G d c w M Q pc lv (.long y :: .long x :: st) h :=
  fun p e R s m args below meth cd H locs cells slots mc ms ls F S hl => W.lcmp F.1 F.2.1 hdg  (k p e R s m args below meth cd H locs cells slots mc ms ls F S hl)
theorem aw_dup {l : Launch} {G : aG} {d c w : Nat} {M : aM} {Q : Option Value → aH → Prop} {pc : Nat} {lv : List (Nat × Value)} {st : List Value} {h : aH} {v : Value} (hdg : decode M.2.1 pc = .ok (.dup, 1)) (hv : v.category = 1) (k : AW l G d c w M Q (pc + 1) lv (v :: v :: st) h) : AW l G d c w M Q pc lv (v :: st) h :=
  fun p e R s m args below meth cd H locs cells slots mc ms ls F S hl => lv_dup F.1 F.2.1 hdg hv (k p e R s m args below meth cd H locs cells slots mc ms ls F S hl)
theorem aw_pop {l : Launch} {G : aG} {d c w : Nat} {M : aM} {Q : Option Value → aH → Prop} {pc : Nat} {lv : List (Nat × Value)} {st : List Value} {h : aH} {v : Value} (hdg : decode M.2.1 pc = .ok (.pop, 1)) (hv : v.category = 1) (k : AW l G d c w M Q (pc + 1) lv (st) h) : AW l G d c w M Q pc lv (v :: st) h :=
  fun p e R s m args below meth cd H locs cells slots mc ms ls F S hl => lv_pop F.1 F.2.1 hdg hv (k p e R s m args below meth cd H locs cells slots mc ms ls F S hl)
theorem aw_dup2 {l : Launch} {G : aG} {d c w : Nat} {M : aM} {Q : Option Value → aH → Prop} {pc : Nat} {lv : List (Nat × Value)} {st : List Value} {h : aH} {v u : Value} (hdg : decode M.2.1 pc = .ok (.dup2, 1)) (hv : v.category = 1) (hu : u.category = 1) (k : AW l G d c w M Q (pc + 1) lv (v :: u :: v :: u :: st) h) : AW l G d c w M Q pc lv (v :: u :: st) h :=
  fun p e R s m args below meth cd H locs cells slots mc ms ls F S hl => lv_dup2_11 F.1 F.2.1 hdg hv hu (k p e R s m args below meth cd H locs cells slots mc ms ls F S hl)
theorem aw_if_eq {l : Launch} {G : aG} {d c w : Nat} {M : aM} {Q : Option Value → aH → Prop} {pc : Nat} {lv : List (Nat × Value)} {st : List Value} {h : aH} {x : Int32} {off : Int} {tgt : Nat} (hdg : decode M.2.1 pc = .ok (.ifCond .eq off, 3)) (ht : (pc : Int) + off = (tgt : Int)) (kt : x = 0 → AW l G d c w M Q tgt lv st h) (kf : ¬ x = 0 → AW l G d c w M Q (pc + 3) lv st h) : AW l G d c w M Q pc lv (.int x :: st) h :=
  fun p e R s m args below meth cd H locs cells slots mc ms ls F S hl => lv_if_eq F.1 F.2.1 hdg ht (fun z => kt z p e R s m args below meth cd H locs cells slots mc ms ls F S hl) (fun z => kf z p e R s m args below meth cd H locs cells slots mc ms ls F S hl)
theorem aw_icmp_eq {l : Launch} {G : aG} {d c w : Nat} {M : aM} {Q : Option Value → aH → Prop} {pc : Nat} {lv : List (Nat × Value)} {st : List Value} {h : aH} {x y : Int32} {off : Int} {tgt : Nat} (hdg : decode M.2.1 pc = .ok (.if_icmp .eq off, 3)) (ht : (pc : Int) + off = (tgt : Int)) (kt : x = y → AW l G d c w M Q tgt lv st h) (kf : ¬ x = y → AW l G d c w M Q (pc + 3) lv st h) : AW l G d c w M Q pc lv (.int y :: .int x :: st) h :=
  fun p e R s m args below meth cd H locs cells slots mc ms ls F S hl => lv_icmp_eq F.1 F.2.1 hdg ht (fun z => kt z p e R s m args below meth cd H locs cells slots mc ms ls F S hl) (fun z => kf z p e R s m args below meth cd H locs cells slots mc ms ls F S hl)
theorem aw_if_ne {l : Launch} {G : aG} {d c w : Nat} {M : aM} {Q : Option Value → aH → Prop} {pc : Nat} {lv : List (Nat × Value)} {st : List Value} {h : aH} {x : Int32} {off : Int} {tgt : Nat} (hdg : decode M.2.1 pc = .ok (.ifCond .ne off, 3)) (ht : (pc : Int) + off = (tgt : Int)) (kt : ¬ x = 0 → AW l G d c w M Q tgt lv st h) (kf : x = 0 → AW l G d c w M Q (pc + 3) lv st h) : AW l G d c w M Q pc lv (.int x :: st) h :=
  fun p e R s m args below meth cd H locs cells slots mc ms ls F S hl => lv_if_ne F.1 F.2.1 hdg ht (fun z => kt z p e R s m args below meth cd H locs cells slots mc ms ls F S hl) (fun z => kf z p e R s m args below meth cd H locs cells slots mc ms ls F S hl)
theorem aw_icmp_ne {l : Launch} {G : aG} {d c w : Nat} {M : aM} {Q : Option Value → aH → Prop} {pc : Nat} {lv : List (Nat × Value)} {st : List Value} {h : aH} {x y : Int32} {off : Int} {tgt : Nat} (hdg : decode M.2.1 pc = .ok (.if_icmp .ne off, 3)) (ht : (pc : Int) + off = (tgt : Int)) (kt : ¬ x = y → AW l G d c w M Q tgt lv st h) (kf : x = y → AW l G d c w M Q (pc + 3) lv st h) : AW l G d c w M Q pc lv (.int y :: .int x :: st) h :=
  fun p e R s m args below meth cd H locs cells slots mc ms ls F S hl => lv_icmp_ne F.1 F.2.1 hdg ht (fun z => kt z p e R s m args below meth cd H locs cells slots mc ms ls F S hl) (fun z => kf z p e R s m args below meth cd H locs cells slots mc ms ls F S hl)
theorem aw_if_lt {l : Launch} {G : aG} {d c w : Nat} {M : aM} {Q : Option Value → aH → Prop} {pc : Nat} {lv : List (Nat × Value)} {st : List Value} {h : aH} {x : Int32} {off : Int} {tgt : Nat} (hdg : decode M.2.1 pc = .ok (.ifCond .lt off, 3)) (ht : (pc : Int) + off = (tgt : Int)) (kt : x < 0 → AW l G d c w M Q tgt lv st h) (kf : ¬ x < 0 → AW l G d c w M Q (pc + 3) lv st h) : AW l G d c w M Q pc lv (.int x :: st) h :=
  fun p e R s m args below meth cd H locs cells slots mc ms ls F S hl => lv_if_lt F.1 F.2.1 hdg ht (fun z => kt z p e R s m args below meth cd H locs cells slots mc ms ls F S hl) (fun z => kf z p e R s m args below meth cd H locs cells slots mc ms ls F S hl)
theorem aw_icmp_lt {l : Launch} {G : aG} {d c w : Nat} {M : aM} {Q : Option Value → aH → Prop} {pc : Nat} {lv : List (Nat × Value)} {st : List Value} {h : aH} {x y : Int32} {off : Int} {tgt : Nat} (hdg : decode M.2.1 pc = .ok (.if_icmp .lt off, 3)) (ht : (pc : Int) + off = (tgt : Int)) (kt : x < y → AW l G d c w M Q tgt lv st h) (kf : ¬ x < y → AW l G d c w M Q (pc + 3) lv st h) : AW l G d c w M Q pc lv (.int y :: .int x :: st) h :=
  fun p e R s m args below meth cd H locs cells slots mc ms ls F S hl => lv_icmp_lt F.1 F.2.1 hdg ht (fun z => kt z p e R s m args below meth cd H locs cells slots mc ms ls F S hl) (fun z => kf z p e R s m args below meth cd H locs cells slots mc ms ls F S hl)
theorem aw_if_ge {l : Launch} {G : aG} {d c w : Nat} {M : aM} {Q : Option Value → aH → Prop} {pc : Nat} {lv : List (Nat × Value)} {st : List Value} {h : aH} {x : Int32} {off : Int} {tgt : Nat} (hdg : decode M.2.1 pc = .ok (.ifCond .ge off, 3)) (ht : (pc : Int) + off = (tgt : Int)) (kt : 0 ≤ x → AW l G d c w M Q tgt lv st h) (kf : ¬ 0 ≤ x → AW l G d c w M Q (pc + 3) lv st h) : AW l G d c w M Q pc lv (.int x :: st) h :=
  fun p e R s m args below meth cd H locs cells slots mc ms ls F S hl => lv_if_ge F.1 F.2.1 hdg ht (fun z => kt z p e R s m args below meth cd H locs cells slots mc ms ls F S hl) (fun z => kf z p e R s m args below meth cd H locs cells slots mc ms ls F S hl)
theorem aw_icmp_ge {l : Launch} {G : aG} {d c w : Nat} {M : aM} {Q : Option Value → aH → Prop} {pc : Nat} {lv : List (Nat × Value)} {st : List Value} {h : aH} {x y : Int32} {off : Int} {tgt : Nat} (hdg : decode M.2.1 pc = .ok (.if_icmp .ge off, 3)) (ht : (pc : Int) + off = (tgt : Int)) (kt : y ≤ x → AW l G d c w M Q tgt lv st h) (kf : ¬ y ≤ x → AW l G d c w M Q (pc + 3) lv st h) : AW l G d c w M Q pc lv (.int y :: .int x :: st) h :=
  fun p e R s m args below meth cd H locs cells slots mc ms ls F S hl => lv_icmp_ge F.1 F.2.1 hdg ht (fun z => kt z p e R s m args below meth cd H locs cells slots mc ms ls F S hl) (fun z => kf z p e R s m args below meth cd H locs cells slots mc ms ls F S hl)
theorem aw_if_gt {l : Launch} {G : aG} {d c w : Nat} {M : aM} {Q : Option Value → aH → Prop} {pc : Nat} {lv : List (Nat × Value)} {st : List Value} {h : aH} {x : Int32} {off : Int} {tgt : Nat} (hdg : decode M.2.1 pc = .ok (.ifCond .gt off, 3)) (ht : (pc : Int) + off = (tgt : Int)) (kt : 0 < x → AW l G d c w M Q tgt lv st h) (kf : ¬ 0 < x → AW l G d c w M Q (pc + 3) lv st h) : AW l G d c w M Q pc lv (.int x :: st) h :=
  fun p e R s m args below meth cd H locs cells slots mc ms ls F S hl => lv_if_gt F.1 F.2.1 hdg ht (fun z => kt z p e R s m args below meth cd H locs cells slots mc ms ls F S hl) (fun z => kf z p e R s m args below meth cd H locs cells slots mc ms ls F S hl)
theorem aw_icmp_gt {l : Launch} {G : aG} {d c w : Nat} {M : aM} {Q : Option Value → aH → Prop} {pc : Nat} {lv : List (Nat × Value)} {st : List Value} {h : aH} {x y : Int32} {off : Int} {tgt : Nat} (hdg : decode M.2.1 pc = .ok (.if_icmp .gt off, 3)) (ht : (pc : Int) + off = (tgt : Int)) (kt : y < x → AW l G d c w M Q tgt lv st h) (kf : ¬ y < x → AW l G d c w M Q (pc + 3) lv st h) : AW l G d c w M Q pc lv (.int y :: .int x :: st) h :=
  fun p e R s m args below meth cd H locs cells slots mc ms ls F S hl => lv_icmp_gt F.1 F.2.1 hdg ht (fun z => kt z p e R s m args below meth cd H locs cells slots mc ms ls F S hl) (fun z => kf z p e R s m args below meth cd H locs cells slots mc ms ls F S hl)
theorem aw_if_le {l : Launch} {G : aG} {d c w : Nat} {M : aM} {Q : Option Value → aH → Prop} {pc : Nat} {lv : List (Nat × Value)} {st : List Value} {h : aH} {x : Int32} {off : Int} {tgt : Nat} (hdg : decode M.2.1 pc = .ok (.ifCond .le off, 3)) (ht : (pc : Int) + off = (tgt : Int)) (kt : x ≤ 0 → AW l G d c w M Q tgt lv st h) (kf : ¬ x ≤ 0 → AW l G d c w M Q (pc + 3) lv st h) : AW l G d c w M Q pc lv (.int x :: st) h :=
  fun p e R s m args below meth cd H locs cells slots mc ms ls F S hl => lv_if_le F.1 F.2.1 hdg ht (fun z => kt z p e R s m args below meth cd H locs cells slots mc ms ls F S hl) (fun z => kf z p e R s m args below meth cd H locs cells slots mc ms ls F S hl)
theorem aw_icmp_le {l : Launch} {G : aG} {d c w : Nat} {M : aM} {Q : Option Value → aH → Prop} {pc : Nat} {lv : List (Nat × Value)} {st : List Value} {h : aH} {x y : Int32} {off : Int} {tgt : Nat} (hdg : decode M.2.1 pc = .ok (.if_icmp .le off, 3)) (ht : (pc : Int) + off = (tgt : Int)) (kt : x ≤ y → AW l G d c w M Q tgt lv st h) (kf : ¬ x ≤ y → AW l G d c w M Q (pc + 3) lv st h) : AW l G d c w M Q pc lv (.int y :: .int x :: st) h :=
  fun p e R s m args below meth cd H locs cells slots mc ms ls F S hl => lv_icmp_le F.1 F.2.1 hdg ht (fun z => kt z p e R s m args below meth cd H locs cells slots mc ms ls F S hl) (fun z => kf z p e R s m args below meth cd H locs cells slots mc ms ls F S hl)
theorem aw_goto {l : Launch} {G : aG} {d c w : Nat} {M : aM} {Q : Option Value → aH → Prop} {pc : Nat} {lv : List (Nat × Value)} {st : List Value} {h : aH} {off : Int} {tgt : Nat} (hdg : decode M.2.1 pc = .ok (.goto off, 3)) (ht : (pc : Int) + off = (tgt : Int)) (k : AW l G d c w M Q tgt lv st h) : AW l G d c w M Q pc lv st h :=
  fun p e R s m args below meth cd H locs cells slots mc ms ls F S hl => lv_goto F.1 F.2.1 hdg ht (k p e R s m args below meth cd H locs cells slots mc ms ls F S hl)
theorem aw_ifnull {l : Launch} {G : aG} {d c w : Nat} {M : aM} {Q : Option Value → aH → Prop} {pc : Nat} {lv : List (Nat × Value)} {st : List Value} {h : aH} {r : Option Nat} {off : Int} {tgt : Nat} (hdg : decode M.2.1 pc = .ok (.ifnull off, 3)) (ht : (pc : Int) + off = (tgt : Int)) (kt : r = none → AW l G d c w M Q tgt lv st h) (kf : ∀ x, r = some x → AW l G d c w M Q (pc + 3) lv st h) : AW l G d c w M Q pc lv (va_rf r :: st) h := by
  cases r with
  | none => exact fun p e R s m args below meth cd H locs cells slots mc ms ls F S hl => lv_ifnullN F.1 F.2.1 hdg ht (kt rfl p e R s m args below meth cd H locs cells slots mc ms ls F S hl)
  | some x => exact fun p e R s m args below meth cd H locs cells slots mc ms ls F S hl => lv_ifnull F.1 F.2.1 hdg (kf x rfl p e R s m args below meth cd H locs cells slots mc ms ls F S hl)
theorem aw_ifnonnull {l : Launch} {G : aG} {d c w : Nat} {M : aM} {Q : Option Value → aH → Prop} {pc : Nat} {lv : List (Nat × Value)} {st : List Value} {h : aH} {r : Option Nat} {off : Int} {tgt : Nat} (hdg : decode M.2.1 pc = .ok (.ifnonnull off, 3)) (ht : (pc : Int) + off = (tgt : Int)) (kt : ∀ x, r = some x → AW l G d c w M Q tgt lv st h) (kf : r = none → AW l G d c w M Q (pc + 3) lv st h) : AW l G d c w M Q pc lv (va_rf r :: st) h := by
  cases r with
  | none => exact fun p e R s m args below meth cd H locs cells slots mc ms ls F S hl => lv_ifnonnullN F.1 F.2.1 hdg (kf rfl p e R s m args below meth cd H locs cells slots mc ms ls F S hl)
  | some x => exact fun p e R s m args below meth cd H locs cells slots mc ms ls F S hl => lv_ifnonnull F.1 F.2.1 hdg ht (kt x rfl p e R s m args below meth cd H locs cells slots mc ms ls F S hl)
theorem aw_tableOut {l : Launch} {G : aG} {d c w : Nat} {M : aM} {Q : Option Value → aH → Prop} {pc : Nat} {lv : List (Nat × Value)} {st : List Value} {h : aH} {dflt lo hi : Int} {offs : Array Int} {len : Nat} {x : Int32} {tgt : Nat} (hdg : decode M.2.1 pc = .ok (.tableswitch dflt lo hi offs, len)) (hx : x.toInt < lo ∨ hi < x.toInt) (ht : (pc : Int) + dflt = (tgt : Int)) (k : AW l G d c w M Q tgt lv st h) : AW l G d c w M Q pc lv (.int x :: st) h :=
  fun p e R s m args below meth cd H locs cells slots mc ms ls F S hl => lv_tableOut F.1 F.2.1 hdg hx ht (k p e R s m args below meth cd H locs cells slots mc ms ls F S hl)
theorem aw_tableIn {l : Launch} {G : aG} {d c w : Nat} {M : aM} {Q : Option Value → aH → Prop} {pc : Nat} {lv : List (Nat × Value)} {st : List Value} {h : aH} {dflt lo hi : Int} {offs : Array Int} {len : Nat} {x : Int32} {off : Int} {tgt : Nat} (hdg : decode M.2.1 pc = .ok (.tableswitch dflt lo hi offs, len)) (h1 : ¬ x.toInt < lo) (h2 : ¬ hi < x.toInt) (ho : offs[(x.toInt - lo).toNat]? = some off) (ht : (pc : Int) + off = (tgt : Int)) (k : AW l G d c w M Q tgt lv st h) : AW l G d c w M Q pc lv (.int x :: st) h :=
  fun p e R s m args below meth cd H locs cells slots mc ms ls F S hl => lv_tableIn F.1 F.2.1 hdg h1 h2 ho ht (k p e R s m args below meth cd H locs cells slots mc ms ls F S hl)
theorem aw_ldc {l : Launch} {G : aG} {d c w : Nat} {M : aM} {Q : Option Value → aH → Prop} {pc : Nat} {lv : List (Nat × Value)} {st : List Value} {h : aH} {index : Nat} {v : Int32} (hdg : decode M.2.1 pc = .ok (.ldc index, 2)) (hw : Cond.constant M.1.cls index v ∈ a_wt) (k : AW l G d c w M Q (pc + 2) lv (.int v :: st) h) : AW l G d c w M Q pc lv st h :=
  fun p e R s m args below meth cd H locs cells slots mc ms ls F S hl => lv_ldc F.1 F.2.1 F.2.2.2.2.1 (F.2.2.2.2.2.2.1 _ hw) hdg (k p e R s m args below meth cd H locs cells slots mc ms ls F S hl)
theorem aw_ldc2 {l : Launch} {G : aG} {d c w : Nat} {M : aM} {Q : Option Value → aH → Prop} {pc : Nat} {lv : List (Nat × Value)} {st : List Value} {h : aH} {index : Nat} {v : Int64} (hdg : decode M.2.1 pc = .ok (.ldc2_w index, 3)) (hw : Cond.constantLong M.1.cls index v ∈ a_wt) (k : AW l G d c w M Q (pc + 3) lv (.long v :: st) h) : AW l G d c w M Q pc lv st h :=
  fun p e R s m args below meth cd H locs cells slots mc ms ls F S hl => lv_ldc2 F.1 F.2.1 F.2.2.2.2.1 (F.2.2.2.2.2.2.1 _ hw) hdg (k p e R s m args below meth cd H locs cells slots mc ms ls F S hl)
end
section
theorem a_HP.one {G : aG} {h : aH} {H : Heap} (P : a_HP G h H) {a : Nat} {c : aC} (hc : h.2 a = some c) : va_P G.2.1 vwCl [(a, a_E G.2.2.1 c)] H := by
  intro k q hk
  have hz : k < 1 := (List.getElem?_eq_some_iff.mp hk).1
  rw [show k = 0 by omega] at hk
  cases hk
  exact (P.2.2 a c hc).2
theorem a_sm {s : State} {args : Array Value} {ref : String} {T : u_T} {k : Nat} (hts : ∀ w ∈ a_wt, w.before args s = true) (hsm : ref = (T k).1 ∨ Cond.sameField ref (T k).1 (T k).2.1 (T k).2.2.1 ∈ a_wt) : ∀ x, s.fieldFound? (T k).1 (T k).2.1 (T k).2.2.1 = some x → s.fieldFound? ref (T k).2.1 (T k).2.2.1 = some x := by
  rcases hsm with h | h
  · rw [h]; exact fun x q => q
  · exact fun x q => u_same (hts _ h) x q
/-- what is known of a class of objects: its row, its words, its types, its names -/
def a_cl (ci : Nat) (C : String) (T : u_T) (N : Nat) (ty0 : Nat → FieldType) : Prop := vwCl[ci]? = some (C, T, N) ∧ (∀ w ∈ u_ws C T N, w ∈ a_wt) ∧ (∀ k, k < N → parseFieldDescriptor (T k).2.2.1 = some (ty0 k)) ∧ (∀ a, a < N → ∀ b, b < N → a ≠ b → (T a).2.1 ≠ (T b).2.1)
section AWH
variable {l : Launch} {G : aG} {d c w : Nat} {M : aM} {Q : Option Value → aH → Prop} {pc : Nat} {lv : List (Nat × Value)} {st : List Value} {h : aH}
theorem aw_getf {a ci k index N : Nat} {fs : List Value} {v : Value} {C ref : String} {T : u_T} {ty0 : Nat → FieldType} (hdg : decode M.2.1 pc = .ok (.getfield index, 3)) (hc : a_cl ci C T N ty0) (hk : k < N) (hw : Cond.fieldLink M.1.cls index ref (T k).2.1 (T k).2.2.1 ∈ a_wt) (hsm : ref = (T k).1 ∨ Cond.sameField ref (T k).1 (T k).2.1 (T k).2.2.1 ∈ a_wt) (hf : h.2 a = some (.inr (ci, fs))) (hv : fs[k]? = some v) (kk : AW l G d c w M Q (pc + 3) lv (v :: st) h) : AW l G d c w M Q pc lv (.ref a :: st) h := by
  intro p e R s m args below meth cd H locs cells slots mc ms ls F S hl
  obtain ⟨F1, F2, F3, F4, F5, F6, F7, F8, F9, F10, F11⟩ := id F
  have P := S.2.2.2.2.1
  exact va_get F1 F2 F7 hc.2.1 F5 F9.1 (P.one hf) 0 rfl hc.1 k hk (F7 _ hw) (a_sm F7 hsm) hv hdg (kk p e R s m args below meth cd H locs cells slots mc ms ls F S hl)
theorem aw_getfN {a ci k index N : Nat} {fs : List Value} {v : Value} {C ref host : String} {T : u_T} {ty0 : Nat → FieldType} (hdg : decode M.2.1 pc = .ok (.getfield index, 3)) (hc : a_cl ci C T N ty0) (hk : k < N) (hw : Cond.fieldLinkNest M.1.cls index ref (T k).2.1 (T k).2.2.1 host ∈ a_nws) (hsm : ref = (T k).1 ∨ Cond.sameField ref (T k).1 (T k).2.1 (T k).2.2.1 ∈ a_wt) (hf : h.2 a = some (.inr (ci, fs))) (hv : fs[k]? = some v) (kk : AW l G d c w M Q (pc + 3) lv (v :: st) h) : AW l G d c w M Q pc lv (.ref a :: st) h := by
  intro p e R s m args below meth cd H locs cells slots mc ms ls F S hl
  obtain ⟨F1, F2, F3, F4, F5, F6, F7, F8, F9, F10, F11⟩ := id F
  have P := S.2.2.2.2.1
  exact va_getN F1 F2 F7 hc.2.1 F5 F9.1 (P.one hf) 0 rfl hc.1 k hk (va_Nw.use rfl (F9.2.1 _ hw)) (a_sm F7 hsm) hv hdg (kk p e R s m args below meth cd H locs cells slots mc ms ls F S hl)
theorem aw_putf {a ci k index N : Nat} {fs : List Value} {v : Value} {C ref : String} {T : u_T} {ty0 : Nat → FieldType} (hdg : decode M.2.1 pc = .ok (.putfield index, 3)) (hc : a_cl ci C T N ty0) (hk : k < N) (hw : Cond.fieldLink M.1.cls index ref (T k).2.1 (T k).2.2.1 ∈ a_wt) (hsm : ref = (T k).1 ∨ Cond.sameField ref (T k).1 (T k).2.1 (T k).2.2.1 ∈ a_wt) (hfin : (T k).2.2.2 = false) (hn : narrow (ty0 k) v = v) (hfit : fits (ty0 k) v = true) (hf : h.2 a = some (.inr (ci, fs))) (hlen : k < fs.length) (kk : AW l G d c w M Q (pc + 3) lv st (a_up h a (.inr (ci, fs.set k v)))) : AW l G d c w M Q pc lv (v :: .ref a :: st) h := by
  intro p e R s m args below meth cd H locs cells slots mc ms ls F S hl
  obtain ⟨F1, F2, F3, F4, F5, F6, F7, F8, F9, F10, F11⟩ := id F
  obtain ⟨S1, S2, S3, S4, P, S6, S7⟩ := id S
  obtain ⟨hc1, hin, hty, hnm⟩ := hc
  have hK := F9.1
  have hap := va_apart (own := M.1.cls) F7 hin ty0 hty hnm hK hc1
  obtain ⟨hb, r, h1, cell, q1, q2, q3, q4⟩ := P.2.2 a _ hf
  have hr : r = (C, T, N) := Option.some.inj (h1.symm.trans hc1)
  subst hr
  obtain ⟨hS, hfc, kC, hkC, hkind⟩ := hK.1 ci _ hc1
  obtain ⟨cf, kf, fi, f, hi, hsl⟩ := hS k hk
  have hlay := F7 _ (hin _ (u_in_lay hk))
  unfold u_lay at hlay
  rw [if_neg (by rw [hfin]; decide)] at hlay
  have hst := (u_facts hfc hkC (u_lays F7 hin hk) hi).1
  have h6 := u_store hfc hkC hkind hlay hi (hty k hk) hn hfit
  refine W.putK F1 F2 (f := f) ⟨F5, F7 _ hw, ⟨_, _, _, a_sm F7 hsm _ hi⟩, hst⟩ (by rw [q2]; exact h6) q1 q3 (by rw [hsl]; exact k2_hasslot (q4 k hk)) rfl rfl hdg fun H' e1 e2 e3 => ?_
  rw [hsl] at e1 ⊢
  exact kk p e R s m args below meth cd H' _ cells slots mc ms ls F ⟨S1, S2, S3, S4, P.set hf ⟨_, hc1, t_OB.to (V := updV (vp_V fs) k v) ⟨_, e1, q2, q3, t_set q4 hap hk v⟩ (fun j _ => vp_updV_set hlen v j)⟩ e2 e3, S6.put e2 e3 hb, S7⟩ hl
theorem aw_putF {a ci k index N : Nat} {fs : List Value} {v : Value} {C ref : String} {T : u_T} {ty0 : Nat → FieldType} (hdg : decode M.2.1 pc = .ok (.putfield index, 3)) (hc : a_cl ci C T N ty0) (hk : k < N) (hw : Cond.fieldLink M.1.cls index ref (T k).2.1 (T k).2.2.1 ∈ a_wt) (hsm : ref = (T k).1 ∨ Cond.sameField ref (T k).1 (T k).2.1 (T k).2.2.1 ∈ a_wt) (hfin : (T k).2.2.2 = true) (hi2 : M.1.name = "<init>") (hdecl : (T k).1 = M.1.cls) (hn : narrow (ty0 k) v = v) (hfit : fits (ty0 k) v = true) (hf : h.2 a = some (.inr (ci, fs))) (hlen : k < fs.length) (kk : AW l G d c w M Q (pc + 3) lv st (a_up h a (.inr (ci, fs.set k v)))) : AW l G d c w M Q pc lv (v :: .ref a :: st) h := by
  intro p e R s m args below meth cd H locs cells slots mc ms ls F S hl
  obtain ⟨F1, F2, F3, F4, F5, F6, F7, F8, F9, F10, F11⟩ := id F
  obtain ⟨S1, S2, S3, S4, P, S6, S7⟩ := id S
  obtain ⟨hc1, hin, hty, hnm⟩ := hc
  have hK := F9.1
  have hap := va_apart (own := M.1.cls) F7 hin ty0 hty hnm hK hc1
  obtain ⟨hb, r, h1, cell, q1, q2, q3, q4⟩ := P.2.2 a _ hf
  have hr : r = (C, T, N) := Option.some.inj (h1.symm.trans hc1)
  subst hr
  obtain ⟨hS, hfc, kC, hkC, hkind⟩ := hK.1 ci _ hc1
  obtain ⟨cf, kf, fi, f, hi, hsl⟩ := hS k hk
  have hlay := F7 _ (hin _ (u_in_lay hk))
  unfold u_lay at hlay
  rw [if_pos hfin] at hlay
  have hst := (u_facts hfc hkC (u_lays F7 hin hk) hi).1
  have hcf : m.cls = cf := by
    obtain ⟨_, _, c', _, _, _, -, -, hf', -, -, -, hown2, -⟩ := Cond.laysFinal_spec hlay
    have e1 : c' = cf := by have := hi.symm.trans hf'; simp at this; exact this.1.symm
    rw [hdecl] at hown2
    rw [← e1]; exact Option.some.inj (F5.symm.trans hown2)
  have h6 := u_fits hfc hkC hkind (Or.inr hlay) hi (hty k hk) hn hfit
  refine W.putFinK F1 F2 F5 (F7 _ hw) (a_sm F7 hsm _ hi) hst hcf (F6.trans hi2) (by rw [q2]; exact h6) q1 q3 (by rw [hsl]; exact k2_hasslot (q4 k hk)) rfl rfl hdg fun H' e1 e2 e3 => ?_
  rw [hsl] at e1 ⊢
  exact kk p e R s m args below meth cd H' _ cells slots mc ms ls F ⟨S1, S2, S3, S4, P.set hf ⟨_, hc1, t_OB.to (V := updV (vp_V fs) k v) ⟨_, e1, q2, q3, t_set q4 hap hk v⟩ (fun j _ => vp_updV_set hlen v j)⟩ e2 e3, S6.put e2 e3 hb, S7⟩ hl
/-! rows of numbers -/
theorem aw_iald {a n : Nat} {u : Nat → Int32} {i : Int32} (hdg : decode M.2.1 pc = .ok (.iaload, 1)) (hf : h.2 a = some (.inl (0, n, .inl u))) (hin : vp_in i n) (kk : AW l G d c w M Q (pc + 1) lv (.int (u i.toNatClampNeg) :: st) h) : AW l G d c w M Q pc lv (.int i :: .ref a :: st) h := by
  intro p e R s m args below meth cd H locs cells slots mc ms ls F S hl
  exact va_iald F.1 F.2.1 F.2.2.2.2.2.2.2.2.1.1 (S.2.2.2.2.1.one hf) 0 0 rfl rfl hin hdg (kk p e R s m args below meth cd H locs cells slots mc ms ls F S hl)
theorem aw_lald {a n : Nat} {u : Nat → Int64} {i : Int32} (hdg : decode M.2.1 pc = .ok (.laload, 1)) (hf : h.2 a = some (.inl (1, n, .inr (.inl u)))) (hin : vp_in i n) (kk : AW l G d c w M Q (pc + 1) lv (.long (u i.toNatClampNeg) :: st) h) : AW l G d c w M Q pc lv (.int i :: .ref a :: st) h := by
  intro p e R s m args below meth cd H locs cells slots mc ms ls F S hl
  exact va_lald F.1 F.2.1 F.2.2.2.2.2.2.2.2.1.1 (S.2.2.2.2.1.one hf) 0 1 rfl rfl hin hdg (kk p e R s m args below meth cd H locs cells slots mc ms ls F S hl)
theorem aw_zald {a n : Nat} {u : Nat → Int32} {i : Int32} (hdg : decode M.2.1 pc = .ok (.baload, 1)) (hf : h.2 a = some (.inl (2, n, .inl u))) (hin : vp_in i n) (kk : AW l G d c w M Q (pc + 1) lv (.int (u i.toNatClampNeg) :: st) h) : AW l G d c w M Q pc lv (.int i :: .ref a :: st) h := by
  intro p e R s m args below meth cd H locs cells slots mc ms ls F S hl
  exact va_zald F.1 F.2.1 F.2.2.2.2.2.2.2.2.1.1 (S.2.2.2.2.1.one hf) 0 2 rfl rfl hin hdg (kk p e R s m args below meth cd H locs cells slots mc ms ls F S hl)
theorem aw_alen {a t : Nat} {x : vp_A} (hdg : decode M.2.1 pc = .ok (.arraylength, 1)) (ht : t < 5) (hf : h.2 a = some (.inl (t, x))) (kk : AW l G d c w M Q (pc + 1) lv (.int (Int32.ofNat x.1) :: st) h) : AW l G d c w M Q pc lv (.ref a :: st) h := by
  intro p e R s m args below meth cd H locs cells slots mc ms ls F S hl
  rcases (show t = 0 ∨ t = 1 ∨ t = 2 ∨ t = 3 ∨ t = 4 by omega) with rfl | rfl | rfl | rfl | rfl
  · exact va_alen F.1 F.2.1 F.2.2.2.2.2.2.2.2.1.1 (S.2.2.2.2.1.one hf) 0 0 rfl rfl rfl hdg (kk p e R s m args below meth cd H locs cells slots mc ms ls F S hl)
  · exact va_alen F.1 F.2.1 F.2.2.2.2.2.2.2.2.1.1 (S.2.2.2.2.1.one hf) 0 1 rfl rfl rfl hdg (kk p e R s m args below meth cd H locs cells slots mc ms ls F S hl)
  · exact va_alen F.1 F.2.1 F.2.2.2.2.2.2.2.2.1.1 (S.2.2.2.2.1.one hf) 0 2 rfl rfl rfl hdg (kk p e R s m args below meth cd H locs cells slots mc ms ls F S hl)
  · exact va_alen F.1 F.2.1 F.2.2.2.2.2.2.2.2.1.1 (S.2.2.2.2.1.one hf) 0 3 rfl rfl rfl hdg (kk p e R s m args below meth cd H locs cells slots mc ms ls F S hl)
  · exact va_alen F.1 F.2.1 F.2.2.2.2.2.2.2.2.1.1 (S.2.2.2.2.1.one hf) 0 4 rfl rfl rfl hdg (kk p e R s m args below meth cd H locs cells slots mc ms ls F S hl)
theorem aw_aald {a n t : Nat} {u : Nat → Option Nat} {i : Int32} (hdg : decode M.2.1 pc = .ok (.aaload, 1)) (ht : t = 3 ∨ t = 4) (hf : h.2 a = some (.inl (t, n, .inr (.inr (.inr (.inr u)))))) (hin : vp_in i n) (kk : AW l G d c w M Q (pc + 1) lv (va_rf (u i.toNatClampNeg) :: st) h) : AW l G d c w M Q pc lv (.int i :: .ref a :: st) h := by
  intro p e R s m args below meth cd H locs cells slots mc ms ls F S hl
  rcases ht with rfl | rfl
  · exact va_aldq F.1 F.2.1 F.2.2.2.2.2.2.2.2.1.1 (S.2.2.2.2.1.one hf) 0 3 rfl rfl hin hdg (kk p e R s m args below meth cd H locs cells slots mc ms ls F S hl)
  · exact va_aldq F.1 F.2.1 F.2.2.2.2.2.2.2.2.1.1 (S.2.2.2.2.1.one hf) 0 4 rfl rfl hin hdg (kk p e R s m args below meth cd H locs cells slots mc ms ls F S hl)
theorem aw_iast {a n : Nat} {u : Nat → Int32} {i x : Int32} (hdg : decode M.2.1 pc = .ok (.iastore, 1)) (hf : h.2 a = some (.inl (0, n, .inl u))) (hin : vp_in i n) (kk : AW l G d c w M Q (pc + 1) lv st (a_up h a (.inl (0, n, .inl (upd u i.toNatClampNeg x))))) : AW l G d c w M Q pc lv (.int x :: .int i :: .ref a :: st) h := by
  intro p e R s m args below meth cd H locs cells slots mc ms ls F S hl
  obtain ⟨S1, S2, S3, S4, P, S6, S7⟩ := id S
  have hK := F.2.2.2.2.2.2.2.2.1.1
  obtain ⟨hb, ha⟩ := P.2.2 a _ hf
  refine W.iast F.1 F.2.1 ha ((hK.2 0 _ rfl).1 n (fun j => .int (u j))) (fun q => by cases q) (by show ¬ (i < 0 ∨ (arrV _ _ _).slots.size ≤ _); rw [arrV_size]; exact hin) rfl rfl hdg fun H1 e1 z oq => ?_
  refine kk p e R s m args below meth cd H1 _ cells slots mc ms ls F ⟨S1, S2, S3, S4, P.set hf ?_ z oq, S6.put z oq hb, S7⟩ hl
  show H1[a]? = some (vp_cell _ _)
  rw [e1]
  show some (Cell.setSlot (vp_cell _ _) _ _) = _
  rw [vp_cell_i, vp_cell_i, arrV_store]
  congr 2
  funext q
  by_cases hq : q = i.toNatClampNeg
  · subst hq
    simp [updV, upd]
  · simp [updV, upd, hq]
theorem aw_last {a n : Nat} {u : Nat → Int64} {i : Int32} {x : Int64} (hdg : decode M.2.1 pc = .ok (.lastore, 1)) (hf : h.2 a = some (.inl (1, n, .inr (.inl u)))) (hin : vp_in i n) (kk : AW l G d c w M Q (pc + 1) lv st (a_up h a (.inl (1, n, .inr (.inl (vp_updL u i.toNatClampNeg x)))))) : AW l G d c w M Q pc lv (.long x :: .int i :: .ref a :: st) h := by
  intro p e R s m args below meth cd H locs cells slots mc ms ls F S hl
  obtain ⟨S1, S2, S3, S4, P, S6, S7⟩ := id S
  have hK := F.2.2.2.2.2.2.2.2.1.1
  obtain ⟨hb, ha⟩ := P.2.2 a _ hf
  refine W.last F.1 F.2.1 ha ((hK.2 1 _ rfl).1 n (fun j => .long (u j))) (fun q => by cases q) (by show ¬ (i < 0 ∨ (arrV _ _ _).slots.size ≤ _); rw [arrV_size]; exact hin) rfl rfl hdg fun H1 e1 z oq => ?_
  refine kk p e R s m args below meth cd H1 _ cells slots mc ms ls F ⟨S1, S2, S3, S4, P.set hf ?_ z oq, S6.put z oq hb, S7⟩ hl
  show H1[a]? = some (vp_cell _ _)
  rw [e1]
  show some (Cell.setSlot (vp_cell _ _) _ _) = _
  rw [vp_cell_l, vp_cell_l, arrV_store]
  congr 2
  funext q
  by_cases hq : q = i.toNatClampNeg
  · subst hq
    simp [updV, vp_updL]
  · simp [updV, vp_updL, hq]
theorem aw_zast {a n : Nat} {u : Nat → Int32} {i x : Int32} (hdg : decode M.2.1 pc = .ok (.bastore, 1)) (hf : h.2 a = some (.inl (2, n, .inl u))) (hin : vp_in i n) (kk : AW l G d c w M Q (pc + 1) lv st (a_up h a (.inl (2, n, .inl (upd u i.toNatClampNeg (vp_nar .boolean x)))))) : AW l G d c w M Q pc lv (.int x :: .int i :: .ref a :: st) h := by
  intro p e R s m args below meth cd H locs cells slots mc ms ls F S hl
  obtain ⟨S1, S2, S3, S4, P, S6, S7⟩ := id S
  have hK := F.2.2.2.2.2.2.2.2.1.1
  obtain ⟨hb, ha⟩ := P.2.2 a _ hf
  refine W.zast F.1 F.2.1 ha ((hK.2 2 _ rfl).1 n (fun j => .int (u j))) (fun q => by cases q) (by show ¬ (i < 0 ∨ (arrV _ _ _).slots.size ≤ _); rw [arrV_size]; exact hin) rfl rfl hdg fun H1 e1 z oq => ?_
  refine kk p e R s m args below meth cd H1 _ cells slots mc ms ls F ⟨S1, S2, S3, S4, P.set hf ?_ z oq, S6.put z oq hb, S7⟩ hl
  show H1[a]? = some (vp_cell _ _)
  rw [e1]
  show some (Cell.setSlot (vp_cell _ _) _ _) = _
  rw [vp_cell_i, vp_cell_i, arrV_store]
  congr 2
  funext q
  by_cases hq : q = i.toNatClampNeg
  · subst hq
    simp [updV, upd, vp_nar]
    try rfl
  · simp [updV, upd, hq]
/-! the statics' rows and the script -/
theorem aw_gets {index : Nat} {ref : String} (i : Nat) (hi : i < 5) (hdg : decode M.2.1 pc = .ok (.getstatic index, 3)) (hr : ref = (a_sn i).1) (hw : Cond.fieldLink M.1.cls index ref (a_sn i).2 "[I" ∈ a_wt) (kk : AW l G d c w M Q (pc + 3) lv (.ref (G.2.2.2 i).1 :: st) h) : AW l G d c w M Q pc lv st h := by
  subst hr
  intro p e R s m args below meth cd H locs cells slots mc ms ls F S hl
  obtain ⟨F1, F2, F3, F4, F5, F6, F7, F8, F9, F10, F11⟩ := id F
  exact va_gets F1 F2 (F9.2.2.1 i hi) S.2.2.2.2.2.1 F5 (F7 _ hw) (fun x q => q) hdg (kk p e R s m args below meth cd H locs cells slots mc ms ls F S hl)
theorem aw_tab (i : Nat) (hi : i < 6) {j : Int32} (hdg : decode M.2.1 pc = .ok (.iaload, 1)) (hin : vp_in j (G.2.2.2 i).2.1) (kk : AW l G d c w M Q (pc + 1) lv (.int ((G.2.2.2 i).2.2 j.toNatClampNeg) :: st) h) : AW l G d c w M Q pc lv (.int j :: .ref (G.2.2.2 i).1 :: st) h := by
  intro p e R s m args below meth cd H locs cells slots mc ms ls F S hl
  obtain ⟨F1, F2, F3, F4, F5, F6, F7, F8, F9, F10, F11⟩ := id F
  exact va_ti F1 F2 (F9.2.2.2.1 i hi) S.2.2.2.2.2.1 hin rfl hdg (kk p e R s m args below meth cd H locs cells slots mc ms ls F S hl)
theorem aw_tlen (i : Nat) (hi : i < 6) (hdg : decode M.2.1 pc = .ok (.arraylength, 1)) (kk : AW l G d c w M Q (pc + 1) lv (.int (Int32.ofNat (G.2.2.2 i).2.1) :: st) h) : AW l G d c w M Q pc lv (.ref (G.2.2.2 i).1 :: st) h := by
  intro p e R s m args below meth cd H locs cells slots mc ms ls F S hl
  obtain ⟨F1, F2, F3, F4, F5, F6, F7, F8, F9, F10, F11⟩ := id F
  exact va_tlen F1 F2 (F9.2.2.2.1 i hi) S.2.2.2.2.2.1 rfl hdg (kk p e R s m args below meth cd H locs cells slots mc ms ls F S hl)
/-! ends -/
theorem a_fin {s t : State} {H : Heap} {locs : List Loc} {R : Room} {cells slots mc ms : Nat} {args : Array Value} {v : Option Value} (S : a_S G c w h R s H locs cells slots mc ms) (hq : Q v h) (ht : t.heap = H) : a_Q G Q args s (.returned v) t := ⟨⟨v, h, rfl, hq, by rw [ht]; exact S.2.2.2.2.1⟩, S.2.2.2.2.2.1.F ht⟩
theorem aw_iret {x : Int32} {ty : FieldType} (hdg : decode M.2.1 pc = .ok (.ireturn, 1)) (hr : M.2.2.2 = some ty) (hn : narrow ty (.int x) = .int x) (hq : Q (some (.int x)) h) : AW l G d c w M Q pc lv [.int x] h := by
  intro p e R s m args below meth cd H locs cells slots mc ms ls F S hl
  refine W.widen (k := mc) (n := ms) (Nat.le_trans (Nat.le_add_right _ _) S.1) (Nat.le_trans (Nat.le_add_right _ _) S.2.1) ?_
  exact W.zret F.1 F.2.1 (F.2.2.1.trans hr) hn (fun t ht _ => a_fin S hq ht) S.2.2.2.2.2.1.2.2 hdg F.2.2.2.2.2.2.2.1
theorem aw_lret {x : Int64} (hdg : decode M.2.1 pc = .ok (.lreturn, 1)) (hr : M.2.2.2 = some .long) (hq : Q (some (.long x)) h) : AW l G d c w M Q pc lv [.long x] h := by
  intro p e R s m args below meth cd H locs cells slots mc ms ls F S hl
  refine W.widen (k := mc) (n := ms) (Nat.le_trans (Nat.le_add_right _ _) S.1) (Nat.le_trans (Nat.le_add_right _ _) S.2.1) ?_
  exact W.lret F.1 F.2.1 (F.2.2.1.trans hr) (fun t ht _ => a_fin S hq ht) S.2.2.2.2.2.1.2.2 hdg F.2.2.2.2.2.2.2.1
theorem aw_vret (hdg : decode M.2.1 pc = .ok (.return_, 1)) (hr : M.2.2.2 = none) (hq : Q none h) : AW l G d c w M Q pc lv [] h := by
  intro p e R s m args below meth cd H locs cells slots mc ms ls F S hl
  refine W.widen (k := mc) (n := ms) (Nat.le_trans (Nat.le_add_right _ _) S.1) (Nat.le_trans (Nat.le_add_right _ _) S.2.1) ?_
  exact W.vret F.1 F.2.1 (F.2.2.1.trans hr) (fun t ht _ => a_fin S hq ht) S.2.2.2.2.2.1.2.2 hdg F.2.2.2.2.2.2.2.1
theorem aw_aret {r : Option Nat} {C : String} (hdg : decode M.2.1 pc = .ok (.areturn, 1)) (hr : M.2.2.2 = some (.object C)) (hq : Q (some (va_rf r)) h) : AW l G d c w M Q pc lv [va_rf r] h := by
  intro p e R s m args below meth cd H locs cells slots mc ms ls F S hl
  refine W.widen (k := mc) (n := ms) (Nat.le_trans (Nat.le_add_right _ _) S.1) (Nat.le_trans (Nat.le_add_right _ _) S.2.1) ?_
  exact W.aret F.1 F.2.1 (F.2.2.1.trans hr) (Or.inl ⟨C, rfl⟩) (by cases r with | none => exact Or.inl rfl | some a => exact Or.inr ⟨a, rfl⟩) (fun t ht _ => a_fin S hq ht) S.2.2.2.2.2.1.2.2 hdg F.2.2.2.2.2.2.2.1
end AWH
end
section
/-- what every call of a method asks: n its parameters -/
def a_mi (M : aM) (n : Nat) : Prop := Cond.code M.1 M.2.1 M.2.2.1 M.2.2.2 ∈ a_wt ∧ Cond.initialized M.1.cls ∈ a_wt ∧ (M.1.cls ≠ "java/lang/invoke/MethodHandle" ∧ M.1.cls ≠ "java/lang/invoke/VarHandle") ∧ (parseMethodDescriptor M.1.desc).map (fun d => d.parameters.length) = some n ∧ M.2.2.1 + 19 ≤ a_k ∧ plainName M.1.cls = true
theorem a_ws_good {M : aM} {n : Nat} (hm : a_mi M n) : GoodIn a_wt (a_ws M) := by
  intro w hw
  rcases List.mem_cons.mp hw with h | h
  · subst h
    exact ⟨hm.1, (a_wt_good _ hm.1).2⟩
  · exact ⟨h, (a_wt_good _ h).2⟩
theorem a_blind {G : aG} {av : List Value} {h : aH} : FrameBlind (va_Pc av (fun U => a_KN G U ∧ a_HP G h U.heap)) := fun a U g mk q => ⟨q.1, q.2.1.same (U := U.calling g mk a) rfl rfl, q.2.2⟩
theorem a_params {n : Nat} {x : MethodName} (h : (parseMethodDescriptor x.desc).map (fun d => d.parameters.length) = some n) : ∀ sig, parseMethodDescriptor x.desc = some sig → n = sig.parameters.length := by
  intro sig hs
  rw [hs] at h
  exact (Option.some.inj h).symm
section AWC
variable {l : Launch} {G : aG} {d c w : Nat} {M : aM} {Q : Option Value → aH → Prop} {pc : Nat} {lv : List (Nat × Value)} {st : List Value} {h : aH}
/-- the entry -/
theorem ac_of {n : Nat} (hm : a_mi M n) {av : List Value} (hsz : (lg_sl av).length ≤ M.2.2.1) (k : AW l G d c w M Q 0 (lv_args 0 av) [] h) : AC l G d c w M av h Q := by
  refine Met.ofW (cc := M.2.1) (maxL := M.2.2.1) (ret := M.2.2.2) hm.2.2.2.2.2 rfl ?_
  intro p e s m args below meth cd s₁ B hml hv
  obtain ⟨ha, hKN, hP⟩ := hv
  subst ha
  have hl := lv_entry av (n := M.2.2.1) hsz
  have hts : ∀ w ∈ a_wt, w.before av.toArray s = true := fun w hw => atoms_spec (ws := a_ws M) B.pre w (List.mem_cons_of_mem _ hw)
  rw [lg_entry_eq]
  exact k p e _ s m _ below meth cd s.heap [] 0 0 c w _ ⟨B.exec, B.bytes, B.returns, hml, findClass_of_methodNamed B.named, (name_of_methodNamed B.named B.method).1, hts, B.notSynchronized, hKN, Nat.le_refl _, Nat.le_refl _⟩ ⟨by omega, by omega, Nat.le_refl _, Nat.le_refl _, hP, va_S.rf, by rw [hP.1]; exact hP.2.1⟩ hl
/-- behind a call -/
theorem a_after {p : Program} {e : Env} {R : Room} {s : State} {m : MethodId} {args : Array Value} {below : List Frame} {meth : Method} {cd : Code} {H : Heap} {locs : List Loc} {cells slots mc ms c1 w1 : Nat} {ls : Array Slot} {rest st0 : List Value} {a : Array Value} {Q1 : Option Value → aH → Prop} (F : a_F G d M p R s m args meth cd) (S : a_S G c w h R s H locs cells slots mc ms) (hl : lv_has ls M.2.2.1 lv) (hc : c1 ≤ c) (hw : w1 ≤ w)
    (hr : va_Run p l e R s m args below meth cd H locs cells slots c1 w1 (F0 m pc ls st0) rest (a_Q G Q1 a) (a_A G)) (kk : ∀ (v : Option Value) (h1 : aH), Q1 v h1 → AW l G d (c - c1) (w - w1) M Q (pc + 3) lv (v.toList ++ rest) h1) : W p l e R s m args below meth cd H locs cells slots (MQ below (a_Q G Q) args s mc ms (a_A G)) (F0 m pc ls st0) := by
  intro T hT X
  obtain ⟨S1, S2, S3, S4, P, S6, S7⟩ := id S
  obtain ⟨v, st₀, t, T', L, h0, X', hL, e1, e2, ⟨⟨v', h1, hv, hq, hp⟩, hz, hk⟩, step⟩ := hr T hT X
  cases hv
  rw [h0] at hz hk
  have hS' : va_S (a_A G) s.heap T'.heap (locs ++ L) := ⟨Nat.le_trans S6.1 (by rw [e1]; exact hz), fun q g1 g2 => by rw [e1, hk q (Nat.lt_of_lt_of_le g1 S6.1) g2]; exact S6.2.1 q g1 g2, fun q hq => by
      rcases List.mem_append.mp hq with z | z
      · exact S6.2.2 q z
      · exact hL q z⟩
  obtain ⟨t2, a1, b1⟩ := kk v h1 hq p e R s m args below meth cd T'.heap (locs ++ L) (cells + c1) (slots + w1) mc ms ls F ⟨by omega, by omega, S3, S4, by rw [e1]; exact hp, hS', S7⟩ hl T' rfl X'
  exact ⟨t2, step t2 a1, b1⟩
theorem a_pre {R : Room} {s : State} {H : Heap} {locs : List Loc} {cells slots mc ms : Nat} (hKN : a_KN G s) (S : a_S G c w h R s H locs cells slots mc ms) {av : List Value} : ∀ U : State, U.heap = H → s.WarmedH U.vm → va_Pc av (fun U => a_KN G U ∧ a_HP G h U.heap) av.toArray U := fun U hU hW => ⟨rfl, hKN.mv hW (fun q g1 g2 => by rw [hU]; exact S.2.2.2.2.2.1.2.1 q g1 g2), by rw [hU]; exact S.2.2.2.2.1⟩
theorem a_back {R : Room} {s : State} {args : Array Value} {N : aM} {n d1 c1 w1 : Nat} (hts : ∀ w ∈ a_wt, w.before args s = true) (hm : a_mi N n) (hd : d1 + 1 ≤ d) (hf : d ≤ R.frames) (hlo : a_k * d ≤ R.locals) : ({ frames := d1, cells := c1, slots := w1, locals := a_k * d1 } : Room).cells = c1 ∧ ({ frames := d1, cells := c1, slots := w1, locals := a_k * d1 } : Room).slots = w1 ∧ ({ frames := d1, cells := c1, slots := w1, locals := a_k * d1 } : Room).frames + 1 ≤ R.frames ∧ 8 + (N.2.2.1 + 11) + ({ frames := d1, cells := c1, slots := w1, locals := a_k * d1 } : Room).locals ≤ R.locals ∧ (∀ w ∈ a_ws N, ∀ (a' : Array Value) (U : State), s.WarmedH U.vm → w.before a' U = true) ∧ Cond.code N.1 N.2.1 N.2.2.1 N.2.2.2 ∈ a_ws N := by
  refine ⟨rfl, rfl, Nat.le_trans hd hf, ?_, pay_in hts (a_ws_good hm), List.mem_cons_self⟩
  have h1 : a_k * (d1 + 1) ≤ a_k * d := Nat.mul_le_mul_left _ hd
  have h2 := hm.2.2.2.2.1
  have h3 : a_k * (d1 + 1) = a_k * d1 + a_k := Nat.mul_succ _ _
  show 8 + (N.2.2.1 + 11) + a_k * d1 ≤ R.locals
  omega
/-- invokestatic -/
theorem aw_static {N : aM} {n d1 c1 w1 index : Nat} {As rest : List Value} {Q1 : Option Value → aH → Prop} (hdg : decode M.2.1 pc = .ok (.invokestatic index, 3)) (hC : AC l G d1 c1 w1 N As h Q1) (hm : a_mi N n) (hn : As.length = n) (hL : Cond.methodLink M.1.cls index N.1 ∈ a_wt) (hst : Cond.static N.1 ∈ a_wt) (hd : d1 + 1 ≤ d) (hc : c1 ≤ c) (hw : w1 ≤ w) (he : st = As.reverse ++ rest) (hr : (rest.map fun v => v.category).sum ≤ 8) (kk : ∀ (v : Option Value) (h1 : aH), Q1 v h1 → AW l G d (c - c1) (w - w1) M Q (pc + 3) lv (v.toList ++ rest) h1) : AW l G d c w M Q pc lv st h := by
  intro p e R s m args below meth cd H locs cells slots mc ms ls F S hl
  obtain ⟨F1, F2, F3, F4, F5, F6, F7, F8, F9, F10, F11⟩ := id F
  subst he
  refine a_after F S hl hc hw (va_runS (As := As) (rest := rest) (ret := N.2.2.2) (bytes := N.2.1) (maxL := N.2.2.1) ⟨F1, F2, F4, F5, F7⟩ hC ⟨?_, F7 _ hst⟩ ⟨a_blind, a_pre F9 S⟩ rfl hn hl.1 rfl (lv_room hr) hdg ⟨by have := S.1; have := S.2.2.1; omega, by have := S.2.1; have := S.2.2.2.1; omega⟩) kk
  obtain ⟨b1, b2, b3, b4, b5, b6⟩ := a_back (c1 := c1) (w1 := w1) F7 hm hd F10 F11
  exact ⟨b1, b2, b3, b4, b5, b6, F7 _ hm.1, F7 _ hm.2.1, hm.2.2.1, a_params hm.2.2.2.1, F7 _ hL⟩
/-- the object that is called -/
theorem a_recv {s : State} {H : Heap} {a ci : Nat} {fs : List Value} {q : vw_C} (hKN : a_KN G s) (P : a_HP G h H) (hc : vwCl[ci]? = some q) (hf : h.2 a = some (.inr (ci, fs))) : ∃ cell : Cell, H[a]? = some cell ∧ cell.vm.isStatics = false ∧ s.vm.findClass q.1 = some cell.cls := va_recv hKN.1 (P.one hf) hc (q0 := 0) rfl
/-- invokevirtual of the object's own class's method -/
theorem aw_virt {N : aM} {n d1 c1 w1 index a ci : Nat} {fs : List Value} {q : vw_C} {As rest : List Value} {Q1 : Option Value → aH → Prop} (hdg : decode M.2.1 pc = .ok (.invokevirtual index, 3)) (hC : AC l G d1 c1 w1 N (.ref a :: As) h Q1) (hm : a_mi N n) (hn : As.length = n) (hL : Cond.methodLink M.1.cls index N.1 ∈ a_wt) (hin : Cond.instanceMethod N.1 ∈ a_wt) (hsel : Cond.selects q.1 N.1 N.1 ∈ a_wt) (hq : vwCl[ci]? = some q) (hf : h.2 a = some (.inr (ci, fs))) (hd : d1 + 1 ≤ d) (hc : c1 ≤ c) (hw : w1 ≤ w) (he : st = As.reverse ++ .ref a :: rest) (hr : (rest.map fun v => v.category).sum ≤ 8) (kk : ∀ (v : Option Value) (h1 : aH), Q1 v h1 → AW l G d (c - c1) (w - w1) M Q (pc + 3) lv (v.toList ++ rest) h1) : AW l G d c w M Q pc lv st h := by
  intro p e R s m args below meth cd H locs cells slots mc ms ls F S hl
  obtain ⟨F1, F2, F3, F4, F5, F6, F7, F8, F9, F10, F11⟩ := id F
  subst he
  refine a_after F S hl hc hw (va_runV (As := As) (rest := rest) (C := q.1) (ret := N.2.2.2) (bytes := N.2.1) (maxL := N.2.2.1) ⟨F1, F2, F4, F5, F7⟩ hC ⟨?_, F7 _ hin, F7 _ hsel⟩ ⟨a_blind, a_recv F9 S.2.2.2.2.1 hq hf, a_pre F9 S⟩ rfl hn hl.1 rfl (lv_room hr) hdg ⟨by have := S.1; have := S.2.2.1; omega, by have := S.2.1; have := S.2.2.2.1; omega⟩) kk
  obtain ⟨b1, b2, b3, b4, b5, b6⟩ := a_back (c1 := c1) (w1 := w1) F7 hm hd F10 F11
  exact ⟨b1, b2, b3, b4, b5, b6, F7 _ hm.1, F7 _ hm.2.1, hm.2.2.1, a_params hm.2.2.2.1, F7 _ hL⟩
/-- invokevirtual of an inherited, overriding or abstract method: x is named, N is what the object's class selects -/
theorem aw_virtU {N : aM} {x : MethodName} {n d1 c1 w1 index a ci : Nat} {fs : List Value} {q : vw_C} {As rest : List Value} {Q1 : Option Value → aH → Prop} (hdg : decode M.2.1 pc = .ok (.invokevirtual index, 3)) (hC : AC l G d1 c1 w1 N (.ref a :: As) h Q1) (hm : a_mi N n) (hn : As.length = n) (hL : Cond.methodLink M.1.cls index x ∈ a_wt) (hsame : Cond.sameMethod x.cls x.cls x.name x.desc ∈ a_wt) (hx : x.cls ≠ "java/lang/invoke/MethodHandle" ∧ x.cls ≠ "java/lang/invoke/VarHandle") (hxd : x.desc = N.1.desc) (hdec : Cond.declares x ∈ a_nws ∨ (Cond.instanceMethod x ∈ a_wt ∧ ∃ b m r, Cond.code x b m r ∈ a_wt)) (hin : Cond.instanceMethod N.1 ∈ a_wt) (hsel : Cond.selects q.1 x N.1 ∈ a_wt) (hq : vwCl[ci]? = some q) (hf : h.2 a = some (.inr (ci, fs))) (hd : d1 + 1 ≤ d) (hc : c1 ≤ c) (hw : w1 ≤ w) (he : st = As.reverse ++ .ref a :: rest) (hr : (rest.map fun v => v.category).sum ≤ 8) (kk : ∀ (v : Option Value) (h1 : aH), Q1 v h1 → AW l G d (c - c1) (w - w1) M Q (pc + 3) lv (v.toList ++ rest) h1) : AW l G d c w M Q pc lv st h := by
  intro p e R s m args below meth cd H locs cells slots mc ms ls F S hl
  obtain ⟨F1, F2, F3, F4, F5, F6, F7, F8, F9, F10, F11⟩ := id F
  subst he
  have hD : va_Decl s ⟨x.cls, x.name, x.desc⟩ := by
    rcases hdec with z | ⟨z1, b, m0, r0, z2⟩
    · exact va_Decl.abs (F9.2.1 _ z)
    · exact va_Decl.of (F7 _ z1) (F7 _ z2)
  refine a_after F S hl hc hw (va_runU (As := As) (rest := rest) (C := q.1) (owner := x.cls) (x := x) (ret := N.2.2.2) (bytes := N.2.1) (maxL := N.2.2.1) ⟨F1, F2, F4, F5, F7⟩ hC ?_ ⟨a_blind, a_recv F9 S.2.2.2.2.1 hq hf, a_pre F9 S⟩ rfl hn hl.1 rfl (lv_room hr) hdg ⟨by have := S.1; have := S.2.2.1; omega, by have := S.2.1; have := S.2.2.2.1; omega⟩) kk
  exact ⟨a_back (c1 := c1) (w1 := w1) F7 hm hd F10 F11, F7 _ hm.1, F7 _ hm.2.1, hx, a_params (by rw [hxd]; exact hm.2.2.2.1), F7 _ hL, F7 _ hsame, hD, F7 _ hsel, F7 _ hin⟩
/-- invokespecial of a constructor -/
theorem aw_init {N : aM} {n d1 c1 w1 index a : Nat} {As rest : List Value} {Q1 : Option Value → aH → Prop} (hdg : decode M.2.1 pc = .ok (.invokespecial index, 3)) (hC : AC l G d1 c1 w1 N (.ref a :: As) h Q1) (hm : a_mi N n) (hn : As.length = n) (hni : N.1.name = "<init>") (hnr : N.2.2.2 = none) (hL : Cond.methodLink M.1.cls index N.1 ∈ a_wt) (hin : Cond.instanceMethod N.1 ∈ a_wt) (hd : d1 + 1 ≤ d) (hc : c1 ≤ c) (hw : w1 ≤ w) (he : st = As.reverse ++ .ref a :: rest) (hr : (rest.map fun v => v.category).sum ≤ 8) (kk : ∀ (v : Option Value) (h1 : aH), Q1 v h1 → AW l G d (c - c1) (w - w1) M Q (pc + 3) lv (v.toList ++ rest) h1) : AW l G d c w M Q pc lv st h := by
  intro p e R s m args below meth cd H locs cells slots mc ms ls F S hl
  obtain ⟨F1, F2, F3, F4, F5, F6, F7, F8, F9, F10, F11⟩ := id F
  subst he
  refine a_after F S hl hc hw (va_runI (As := As) (rest := rest) (bytes := N.2.1) (maxL := N.2.2.1) ⟨F1, F2, F4, F5, F7⟩ hC ⟨?_, hni, F7 _ hin⟩ ⟨a_blind, a_pre F9 S⟩ rfl hn hl.1 rfl (lv_room hr) hdg ⟨by have := S.1; have := S.2.2.1; omega, by have := S.2.1; have := S.2.2.2.1; omega⟩) kk
  obtain ⟨b1, b2, b3, b4, b5, b6⟩ := a_back (c1 := c1) (w1 := w1) F7 hm hd F10 F11
  have h7 := hm.1
  rw [hnr] at b6 h7
  exact ⟨b1, b2, b3, b4, b5, b6, F7 _ h7, F7 _ hm.2.1, hm.2.2.1, a_params hm.2.2.2.1, F7 _ hL⟩
/-- the same, of a nest mate's private one -/
theorem aw_initN {N : aM} {n d1 c1 w1 index a : Nat} {host : String} {As rest : List Value} {Q1 : Option Value → aH → Prop} (hdg : decode M.2.1 pc = .ok (.invokespecial index, 3)) (hC : AC l G d1 c1 w1 N (.ref a :: As) h Q1) (hm : a_mi N n) (hn : As.length = n) (hni : N.1.name = "<init>") (hnr : N.2.2.2 = none) (hL : Cond.methodLinkNest M.1.cls index N.1 host ∈ a_nws) (hin : Cond.instanceMethod N.1 ∈ a_wt) (hd : d1 + 1 ≤ d) (hc : c1 ≤ c) (hw : w1 ≤ w) (he : st = As.reverse ++ .ref a :: rest) (hr : (rest.map fun v => v.category).sum ≤ 8) (kk : ∀ (v : Option Value) (h1 : aH), Q1 v h1 → AW l G d (c - c1) (w - w1) M Q (pc + 3) lv (v.toList ++ rest) h1) : AW l G d c w M Q pc lv st h := by
  intro p e R s m args below meth cd H locs cells slots mc ms ls F S hl
  obtain ⟨F1, F2, F3, F4, F5, F6, F7, F8, F9, F10, F11⟩ := id F
  subst he
  refine a_after F S hl hc hw (va_runIN (host := host) (As := As) (rest := rest) (bytes := N.2.1) (maxL := N.2.2.1) ⟨F1, F2, F4, F5, F7⟩ hC ⟨?_, hni, F7 _ hin⟩ ⟨a_blind, a_pre F9 S⟩ rfl hn hl.1 rfl (lv_room hr) hdg ⟨by have := S.1; have := S.2.2.1; omega, by have := S.2.1; have := S.2.2.2.1; omega⟩) kk
  obtain ⟨b1, b2, b3, b4, b5, b6⟩ := a_back (c1 := c1) (w1 := w1) F7 hm hd F10 F11
  have h7 := hm.1
  rw [hnr] at b6 h7
  exact ⟨⟨b1, b2, b3, b4, b5, b6⟩, F7 _ h7, F7 _ hm.2.1, hm.2.2.1, a_params hm.2.2.2.1, va_Nw.use rfl (F9.2.1 _ hL)⟩
/-- super.m(..) -/
theorem aw_super {N : aM} {n d1 c1 w1 index a ci : Nat} {fs : List Value} {q : vw_C} {As rest : List Value} {Q1 : Option Value → aH → Prop} (hdg : decode M.2.1 pc = .ok (.invokespecial index, 3)) (hC : AC l G d1 c1 w1 N (.ref a :: As) h Q1) (hm : a_mi N n) (hn : As.length = n) (hni : N.1.name ≠ "<init>") (hL : Cond.methodLink M.1.cls index N.1 ∈ a_wt) (hsame : Cond.sameMethod N.1.cls N.1.cls N.1.name N.1.desc ∈ a_wt) (hsup : Cond.superclass M.1.cls N.1.cls ∈ a_wt) (hin : Cond.instanceMethod N.1 ∈ a_wt) (hq : vwCl[ci]? = some q) (hf : h.2 a = some (.inr (ci, fs))) (hd : d1 + 1 ≤ d) (hc : c1 ≤ c) (hw : w1 ≤ w) (he : st = As.reverse ++ .ref a :: rest) (hr : (rest.map fun v => v.category).sum ≤ 8) (kk : ∀ (v : Option Value) (h1 : aH), Q1 v h1 → AW l G d (c - c1) (w - w1) M Q (pc + 3) lv (v.toList ++ rest) h1) : AW l G d c w M Q pc lv st h := by
  intro p e R s m args below meth cd H locs cells slots mc ms ls F S hl
  obtain ⟨F1, F2, F3, F4, F5, F6, F7, F8, F9, F10, F11⟩ := id F
  subst he
  refine a_after F S hl hc hw (va_runSU (As := As) (rest := rest) (C := q.1) (ret := N.2.2.2) (bytes := N.2.1) (maxL := N.2.2.1) (F9.1.1 ci q hq).2 ⟨F1, F2, F4, F5, F7⟩ hC ?_ ⟨a_blind, a_recv F9 S.2.2.2.2.1 hq hf, a_pre F9 S⟩ rfl hn hl.1 rfl (lv_room hr) hdg ⟨by have := S.1; have := S.2.2.1; omega, by have := S.2.1; have := S.2.2.2.1; omega⟩) kk
  exact ⟨a_back (c1 := c1) (w1 := w1) F7 hm hd F10 F11, F7 _ hL, F7 _ hsame, F7 _ hsup, F7 _ hin, F7 _ hm.2.1, F7 _ hm.1, hni, a_params hm.2.2.2.1⟩
/-- Object's constructor -/
theorem aw_obj {index a : Nat} {rest : List Value} (hdg : decode M.2.1 pc = .ok (.invokespecial index, 3)) (hL : Cond.methodLink M.1.cls index objectInit ∈ a_wt) (hin : Cond.instanceMethod objectInit ∈ a_wt) (hcd : Cond.code objectInit ⟨#[0xb1]⟩ 1 none ∈ a_wt) (hd : 1 ≤ d) (hr : (rest.map fun v => v.category).sum ≤ 8) (kk : AW l G d c w M Q (pc + 3) lv rest h) : AW l G d c w M Q pc lv (.ref a :: rest) h := by
  intro p e R s m args below meth cd H locs cells slots mc ms ls F S hl
  obtain ⟨F1, F2, F3, F4, F5, F6, F7, F8, F9, F10, F11⟩ := id F
  have h1 : a_k * 1 ≤ a_k * d := Nat.mul_le_mul_left _ hd
  have h2 := lv_room (m := m) (pc := pc) (ls := ls) (rest := .ref a :: rest) hr
  have h3 : a_k * 1 = 40 := rfl
  exact W.objInit F1 F2 F5 (F7 _ hL) (F7 _ hin) (F7 _ hcd) rfl (hl.1.trans F4.symm) rfl hdg (Nat.le_trans hd F10) (by omega) (kk p e R s m args below meth cd H locs cells slots mc ms ls F S hl)
/-- new -/
theorem aw_new {ci index N : Nat} {fs : List Value} {C : String} {T : u_T} {ty0 : Nat → FieldType} (hdg : decode M.2.1 pc = .ok (.new index, 3)) (hc : a_cl ci C T N ty0) (hL : Cond.classLink M.1.cls index C ∈ a_wt) (hi : Cond.instantiable C N ∈ a_wt) (hini : Cond.initialized C ∈ a_wt) (hfs : ∀ j, j < N → defaultValue (ty0 j) = vp_V fs j) (hcc : 1 ≤ c) (hww : N ≤ w) (kk : AW l G d (c - 1) (w - N) M Q (pc + 3) lv (.ref h.1 :: st) (a_nw h (.inr (ci, fs)))) : AW l G d c w M Q pc lv st h := by
  intro p e R s m args below meth cd H locs cells slots mc ms ls F S hl
  obtain ⟨F1, F2, F3, F4, F5, F6, F7, F8, F9, F10, F11⟩ := id F
  obtain ⟨S1, S2, S3, S4, P, S6, S7⟩ := id S
  obtain ⟨hc1, hin, hty, hnm⟩ := hc
  have hKn := F9.1.1 ci _ hc1
  refine W.newcK F1 F2 F5 (F7 _ hL) (F7 _ hi) (F7 _ hini) rfl hdg (by omega) (by omega) hKn.2.1 rfl fun H1 kC hkC e1 z1 o1 => ?_
  rw [P.1]
  refine kk p e R s m args below meth cd H1 locs (cells + 1) (slots + N) mc ms ls F ⟨by omega, by omega, S3, S4, P.push ⟨_, hc1, (u_born ty0 F7 hin hKn hkC e1 hty).to hfs⟩ z1 o1, ⟨Nat.le_trans S6.1 (by omega), fun x h1 h2 => (o1 x (Nat.lt_of_lt_of_le h1 S6.1)).trans (S6.2.1 x h1 h2), S6.2.2⟩, S7⟩ hl
end AWC
section AWD
variable {l : Launch} {G : aG} {d c w : Nat} {M : aM} {Q : Option Value → aH → Prop} {pc : Nat} {lv : List (Nat × Value)} {st : List Value} {h : aH}
/-- new rows of numbers -/
theorem aw_newa {atype : ArrayType} (t : Nat) (ht : t < 3) {n : Int32} {N : Nat} {a0 : vp_A} (hdg : decode M.2.1 pc = .ok (.newarray atype, 2)) (hty : newarray.typeOf atype = a_ty t) (hL : Cond.arrayClass (newarray.typeOf atype) ∈ a_wt) (ha : ∀ cA : ClassId, vp_cell cA a0 = arrV cA N (fun _ => defaultValue (a_ty t))) (hn : ¬ n < 0) (hN : n.toNatClampNeg = N) (hb : N ≤ 60000) (hcc : 1 ≤ c) (hww : N ≤ w) (kk : AW l G d (c - 1) (w - N) M Q (pc + 2) lv (.ref h.1 :: st) (a_nw h (.inl (t, a0)))) : AW l G d c w M Q pc lv (.int n :: st) h := by
  intro p e R s m args below meth cd H locs cells slots mc ms ls F S hl
  obtain ⟨F1, F2, F3, F4, F5, F6, F7, F8, F9, F10, F11⟩ := id F
  obtain ⟨S1, S2, S3, S4, P, S6, S7⟩ := id S
  have hby : N * componentBytes (newarray.typeOf atype) ≤ 536870912 := by
    have : componentBytes (newarray.typeOf atype) ≤ 8 := by cases atype <;> decide
    calc N * componentBytes (newarray.typeOf atype) ≤ 60000 * 8 := Nat.mul_le_mul hb this
      _ ≤ 536870912 := by decide
  refine va_newaK F1 F2 (F7 _ hL) rfl hdg rfl hn hN hby (by omega) (by omega) P.1 fun H1 cA e1 z1 o1 hAr hNm => ?_
  have hcA : cA = G.2.2.1 t := by
    have h2 := (F9.1.2 t (G.2.2.1 t, a_ty t) (by rcases (show t = 0 ∨ t = 1 ∨ t = 2 by omega) with rfl | rfl | rfl <;> rfl)).2
    rw [hty] at hNm
    have h3 : s.vm.findClass ("[" ++ (a_ty t).toString) = some (G.2.2.1 t) := by
      rcases (show t = 0 ∨ t = 1 ∨ t = 2 by omega) with rfl | rfl | rfl <;> exact h2
    exact Option.some.inj (hNm.symm.trans h3)
  subst hcA
  rw [← P.1] at e1 z1 o1
  refine kk p e R s m args below meth cd H1 locs (cells + 1) (slots + N) mc ms ls F ⟨by omega, by omega, S3, S4, P.push (show H1[H.size]? = some (vp_cell _ _) by rw [ha, e1, hty]) z1 o1, ⟨Nat.le_trans S6.1 (by omega), fun x h1 h2 => (o1 x (Nat.lt_of_lt_of_le h1 S6.1)).trans (S6.2.1 x h1 h2), S6.2.2⟩, S7⟩ hl
/-- new rows of references -/
theorem aw_newq (t : Nat) (ht : t = 3 ∨ t = 4) {index N : Nat} {n : Int32} {C : String} (hdg : decode M.2.1 pc = .ok (.anewarray index, 3)) (hty : a_ty t = .object C) (hL : Cond.classLink M.1.cls index C ∈ a_wt) (hn : ¬ n < 0) (hN : n.toNatClampNeg = N) (hb : N ≤ 60000) (hcc : 1 ≤ c) (hww : N ≤ w) (kk : AW l G d (c - 1) (w - N) M Q (pc + 3) lv (.ref h.1 :: st) (a_nw h (.inl (t, N, .inr (.inr (.inr (.inr (fun _ => none)))))))) : AW l G d c w M Q pc lv (.int n :: st) h := by
  intro p e R s m args below meth cd H locs cells slots mc ms ls F S hl
  obtain ⟨F1, F2, F3, F4, F5, F6, F7, F8, F9, F10, F11⟩ := id F
  obtain ⟨S1, S2, S3, S4, P, S6, S7⟩ := id S
  have hover : va_AO C s := by
    rcases ht with rfl | rfl
    · cases hty; exact F9.2.2.2.2.2.1
    · cases hty; exact F9.2.2.2.2.2.2
  subst hN
  refine W.anew F1 F2 F5 (F7 _ hL) (va_AO.use hover) rfl hdg rfl hn (by omega) (by omega) (by omega) fun cA kA comp f1 f2 f3 f4 => ?_
  have hcA : cA = G.2.2.1 t := by
    rcases ht with rfl | rfl
    · cases hty
      obtain ⟨_, _, _, _, _, g⟩ := (F9.1.2 3 (G.2.2.1 3, a_ty 3) rfl).2
      exact Option.some.inj (f1.symm.trans g)
    · cases hty
      obtain ⟨_, _, _, _, _, g⟩ := (F9.1.2 4 (G.2.2.1 4, a_ty 4) rfl).2
      exact Option.some.inj (f1.symm.trans g)
  subst hcA
  generalize hH1 : H.push ({ cls := G.2.2.1 t, slots := Array.replicate n.toNatClampNeg .null, vm := .none } : Cell) = H1
  have z1 : H1.size = H.size + 1 := by rw [← hH1, Array.size_push]
  have e1 : H1[H.size]? = some (arrV (G.2.2.1 t) n.toNatClampNeg (fun _ => .null)) := by rw [← hH1, Array.getElem?_push_size, ← arrV_new]
  have o1 : ∀ q : Nat, q < H.size → H1[q]? = H[q]? := fun q hq => by rw [← hH1, Array.getElem?_push, if_neg (Nat.ne_of_lt hq)]
  show W p l e R s m args below meth cd H1 locs (cells + 1) (slots + n.toNatClampNeg) _ (F0 m (pc + 3) ls (.ref H.size :: st))
  rw [P.1]
  refine kk p e R s m args below meth cd H1 locs (cells + 1) (slots + n.toNatClampNeg) mc ms ls F ⟨by omega, by omega, S3, S4, P.push (show H1[H.size]? = some (vp_cell _ _) by rw [vp_cell_q]; exact e1) z1 o1, ⟨Nat.le_trans S6.1 (by omega), fun x h1 h2 => (o1 x (Nat.lt_of_lt_of_le h1 S6.1)).trans (S6.2.1 x h1 h2), S6.2.2⟩, S7⟩ hl
theorem a_upq {cI : ClassId} {n k : Nat} {u : Nat → Option Nat} {r : Option Nat} : (vp_cell cI (n, .inr (.inr (.inr (.inr u))))).setSlot k (va_rf r) = vp_cell cI (n, .inr (.inr (.inr (.inr (va_up u k r))))) := by
  rw [vp_cell_q, vp_cell_q, arrV_store]
  congr 1
  funext q
  by_cases hq : q = k
  · subst hq
    simp [updV, va_up]
  · simp [updV, va_up, hq]
/-- an object into a row of references: its class is the row's, or castable to it -/
theorem aw_aast (t : Nat) (ht : t = 3 ∨ t = 4) {a n v ci : Nat} {u : Nat → Option Nat} {fs : List Value} {q : vw_C} {i : Int32} {E : String} (hdg : decode M.2.1 pc = .ok (.aastore, 1)) (hE : a_ty t = .object E) (hf : h.2 a = some (.inl (t, n, .inr (.inr (.inr (.inr u)))))) (hv : h.2 v = some (.inr (ci, fs))) (hq : vwCl[ci]? = some q) (hcast : q.1 = E ∨ Cond.castable q.1 E ∈ a_nws) (hin : vp_in i n) (kk : AW l G d c w M Q (pc + 1) lv st (a_up h a (.inl (t, n, .inr (.inr (.inr (.inr (va_up u i.toNatClampNeg (some v))))))))) : AW l G d c w M Q pc lv (.ref v :: .int i :: .ref a :: st) h := by
  intro p e R s m args below meth cd H locs cells slots mc ms ls F S hl
  obtain ⟨F1, F2, F3, F4, F5, F6, F7, F8, F9, F10, F11⟩ := id F
  obtain ⟨S1, S2, S3, S4, P, S6, S7⟩ := id S
  have hlt : i.toNatClampNeg < n := Nat.not_le.mp fun q => hin (Or.inr q)
  have h0 : ¬ i < 0 := fun q => hin (Or.inl q)
  obtain ⟨cellV, g1, g3, g4⟩ := a_recv F9 P hq hv
  obtain ⟨kC, hkC, -⟩ := Vm.findClass_spec g4
  have hKA : va_RA s (G.2.2.1 t) (.object E) := by
    rcases ht with rfl | rfl
    · cases hE; exact (F9.1.2 3 (G.2.2.1 3, a_ty 3) rfl).2
    · cases hE; exact (F9.1.2 4 (G.2.2.1 4, a_ty 4) rfl).2
  obtain ⟨kA, comp, k1, k2, k3, -⟩ := hKA
  obtain ⟨kE, hkE, -⟩ := Vm.findClass_spec k3
  have hasg : s.vm.assignable cellV.cls comp = true := by
    rcases hcast with z | z
    · have hcl := (F9.1.1 ci q hq).2
      have e1 : comp = cellV.cls := by rw [z] at g4; exact Option.some.inj (k3.symm.trans g4)
      have e2 : G.2.1.1 ci = cellV.cls := Option.some.inj (hcl.1.symm.trans g4)
      rw [e1, ← e2]
      exact va_assign hcl
    · obtain ⟨c0, t0, f1, f2, f3⟩ := Cond.castable_spec (va_Nw.use (A := args) rfl (F9.2.1 _ z))
      cases g4.symm.trans f1
      cases k3.symm.trans f2
      exact f3
  obtain ⟨hb, ha⟩ := P.2.2 a _ hf
  refine W.aast F1 F2 ha (fun q h => by cases h) (fun h => by cases h) k1 k2 rfl hkE ⟨h0, by show _ < (arrV _ _ _).slots.size; rw [arrV_size]; exact hlt⟩ g1 (fun q h => by rw [h] at g3; cases g3) hkC hasg rfl rfl hdg fun H1 e1 z oq => ?_
  refine kk p e R s m args below meth cd H1 _ cells slots mc ms ls F ⟨S1, S2, S3, S4, P.set hf ?_ z oq, S6.put z oq hb, S7⟩ hl
  show H1[a]? = some (vp_cell _ _)
  rw [e1]
  exact congrArg some (a_upq (r := some v))
/-- null into a row of references -/
theorem aw_aastN (t : Nat) (ht : t = 3 ∨ t = 4) {a n : Nat} {u : Nat → Option Nat} {i : Int32} {E : String} (hdg : decode M.2.1 pc = .ok (.aastore, 1)) (hE : a_ty t = .object E) (hf : h.2 a = some (.inl (t, n, .inr (.inr (.inr (.inr u)))))) (hin : vp_in i n) (kk : AW l G d c w M Q (pc + 1) lv st (a_up h a (.inl (t, n, .inr (.inr (.inr (.inr (va_up u i.toNatClampNeg none)))))))) : AW l G d c w M Q pc lv (.null :: .int i :: .ref a :: st) h := by
  intro p e R s m args below meth cd H locs cells slots mc ms ls F S hl
  obtain ⟨F1, F2, F3, F4, F5, F6, F7, F8, F9, F10, F11⟩ := id F
  obtain ⟨S1, S2, S3, S4, P, S6, S7⟩ := id S
  obtain ⟨hb, ha⟩ := P.2.2 a _ hf
  have hAr : ArrOfT s (G.2.2.1 t) (.object E) := by
    rcases ht with rfl | rfl
    · cases hE; exact (F9.1.2 3 (G.2.2.1 3, a_ty 3) rfl).1
    · cases hE; exact (F9.1.2 4 (G.2.2.1 4, a_ty 4) rfl).1
  refine va_WaastN (C := E) F1 F2 ha (hAr n (fun j => va_rf (u j))) (fun h => by cases h) (by show ¬ (i < 0 ∨ (arrV _ _ _).slots.size ≤ _); rw [arrV_size]; exact hin) rfl rfl hdg fun H1 e1 z oq => ?_
  refine kk p e R s m args below meth cd H1 _ cells slots mc ms ls F ⟨S1, S2, S3, S4, P.set hf ?_ z oq, S6.put z oq hb, S7⟩ hl
  show H1[a]? = some (vp_cell _ _)
  rw [e1]
  exact congrArg some (a_upq (r := none))
/-- instanceof, checkcast -/
theorem aw_instY {index a ci : Nat} {fs : List Value} {q : vw_C} {nm : String} (hdg : decode M.2.1 pc = .ok (.instanceof index, 3)) (hL : Cond.classLink M.1.cls index nm ∈ a_wt) (hcast : Cond.castable q.1 nm ∈ a_nws) (hq : vwCl[ci]? = some q) (hf : h.2 a = some (.inr (ci, fs))) (kk : AW l G d c w M Q (pc + 3) lv (.int 1 :: st) h) : AW l G d c w M Q pc lv (.ref a :: st) h := by
  intro p e R s m args below meth cd H locs cells slots mc ms ls F S hl
  obtain ⟨F1, F2, F3, F4, F5, F6, F7, F8, F9, F10, F11⟩ := id F
  exact va_instY F1 F2 F5 (F7 _ hL) (F9.2.1 _ hcast) (a_recv F9 S.2.2.2.2.1 hq hf) hdg (kk p e R s m args below meth cd H locs cells slots mc ms ls F S hl)
theorem aw_instN {index a ci : Nat} {fs : List Value} {q : vw_C} {nm : String} (hdg : decode M.2.1 pc = .ok (.instanceof index, 3)) (hL : Cond.classLink M.1.cls index nm ∈ a_wt) (hnc : (q.1, nm) ∈ a_nc) (hq : vwCl[ci]? = some q) (hf : h.2 a = some (.inr (ci, fs))) (kk : AW l G d c w M Q (pc + 3) lv (.int 0 :: st) h) : AW l G d c w M Q pc lv (.ref a :: st) h := by
  intro p e R s m args below meth cd H locs cells slots mc ms ls F S hl
  obtain ⟨F1, F2, F3, F4, F5, F6, F7, F8, F9, F10, F11⟩ := id F
  exact va_instNo F1 F2 F5 (F7 _ hL) (F9.2.2.2.2.1 _ hnc) (a_recv F9 S.2.2.2.2.1 hq hf) hdg (kk p e R s m args below meth cd H locs cells slots mc ms ls F S hl)
theorem aw_cast {index a ci : Nat} {fs : List Value} {q : vw_C} {nm : String} (hdg : decode M.2.1 pc = .ok (.checkcast index, 3)) (hL : Cond.classLink M.1.cls index nm ∈ a_wt) (hcast : Cond.castable q.1 nm ∈ a_nws) (hq : vwCl[ci]? = some q) (hf : h.2 a = some (.inr (ci, fs))) (kk : AW l G d c w M Q (pc + 3) lv (.ref a :: st) h) : AW l G d c w M Q pc lv (.ref a :: st) h := by
  intro p e R s m args below meth cd H locs cells slots mc ms ls F S hl
  obtain ⟨F1, F2, F3, F4, F5, F6, F7, F8, F9, F10, F11⟩ := id F
  exact va_castY F1 F2 F5 (F7 _ hL) (F9.2.1 _ hcast) (a_recv F9 S.2.2.2.2.1 hq hf) hdg (kk p e R s m args below meth cd H locs cells slots mc ms ls F S hl)
theorem a_nn (z : Int32) (hz : ¬ z < 0) : z.toInt = (z.toNatClampNeg : Int) := by
  have hz0 : (0 : Int) ≤ z.toInt := by
    have := Int32.not_lt.mp hz
    simpa using Int32.le_iff_toInt_le.mp this
  show z.toInt = ((z.toInt.toNat : Nat) : Int)
  omega
end AWD
section AWY
variable {l : Launch} {G : aG} {d c w : Nat} {M : aM} {Q : Option Value → aH → Prop} {pc : Nat} {lv : List (Nat × Value)} {st : List Value} {h : aH}
theorem aw_copyI {index a0 a n0 n1 : Nat} {f g : Nat → Int32} {sp dp n : Int32} (hdg : decode M.2.1 pc = .ok (.invokestatic index, 3)) (hL : Cond.methodLink M.1.cls index arraycopyName ∈ a_wt) (hnat : Cond.native arraycopyName ∈ a_wt) (hstat : Cond.static arraycopyName ∈ a_wt) (hini : Cond.initialized "java/lang/System" ∈ a_wt) (hf0 : h.2 a0 = some (.inl (0, n0, .inl f))) (hf1 : h.2 a = some (.inl (0, n1, .inl g))) (h1 : ¬ sp < 0) (h2 : ¬ dp < 0) (h3 : ¬ n < 0) (h4 : sp.toNatClampNeg + n.toNatClampNeg ≤ n0) (h5 : dp.toNatClampNeg + n.toNatClampNeg ≤ n1) (hd : 1 ≤ d) (hr : (st.map fun v => v.category).sum ≤ 8) (kk : AW l G d c w M Q (pc + 3) lv st (a_up h a (.inl (0, n1, .inl (va_cpy f g sp.toNatClampNeg dp.toNatClampNeg n.toNatClampNeg))))) : AW l G d c w M Q pc lv (.int n :: .int dp :: .ref a :: .int sp :: .ref a0 :: st) h := by
  intro p e R s m args below meth cd H locs cells slots mc ms ls F S hl
  obtain ⟨F1, F2, F3, F4, F5, F6, F7, F8, F9, F10, F11⟩ := id F
  obtain ⟨S1, S2, S3, S4, P, S6, S7⟩ := id S
  have hk1 : a_k * 1 ≤ a_k * d := Nat.mul_le_mul_left _ hd
  have hk2 : a_k * 1 = 40 := rfl
  have hwd : nativeFrameWords "java/lang/System" "arraycopy" 5 ≤ 20 := by decide +kernel
  intro T hT X
  have hc0 : H[a0]? = some (vp_cell (G.2.2.1 0) (n0, .inl f)) := (P.2.2 a0 _ hf0).2
  have hc1 : H[a]? = some (vp_cell (G.2.2.1 0) (n1, .inl g)) := (P.2.2 a _ hf1).2
  obtain ⟨-, k0, hk0, cm0, hkk0⟩ := (F9.1.2 0 _ rfl).1 n0 (fun j => .int (f j))
  obtain ⟨-, k1, hk1', cm1, hkk1⟩ := (F9.1.2 0 _ rfl).1 n1 (fun j => .int (g j))
  obtain ⟨vm', X', step⟩ := X.arraycopy F1 F5 (F7 _ hL) (F7 _ hnat) (F7 _ hstat) (F7 _ hini) (src := a0) (dst := a) (cs := vp_cell (G.2.2.1 0) (n0, .inl f)) (cd := vp_cell (G.2.2.1 0) (n1, .inl g)) (srcPos := sp) (destPos := dp) (n := n) (by rw [hT]; exact hc0) (by rw [hT]; exact hc1)
    (fun _ h => by cases h) (fun _ h => by cases h) (fun h => by cases h) (fun h => by cases h) hk0 hk1' hkk0 hkk1 (by simp [a_ty, refKind]) h1 h2 h3
    (by rw [a_nn sp h1, a_nn n h3]; show ¬ _ > ((arrV _ n0 (fun j => .int (f j))).slots.size : Int); rw [arrV_size]; omega)
    (by rw [a_nn dp h2, a_nn n h3]; show ¬ _ > ((arrV _ n1 (fun j => .int (g j))).slots.size : Int); rw [arrV_size]; omega)
    (fun vm₁ _ i hi => by
      have e : (vp_cell (G.2.2.1 0) (n0, .inl f)).slots.getD (sp.toNatClampNeg + i) .null = .int (f (sp.toNatClampNeg + i)) := by
        show (arrV _ n0 (fun j => .int (f j))).slots.getD _ _ = _
        rw [Array.getD_eq_getD_getElem?, arrV_read _ _ (by omega)]
        rfl
      refine ⟨?_, ?_⟩
      · rw [e]
        first | rfl | simp [a_ty, fits]
      · rw [e]
        exact trivial)
    (g := F0 m pc ls (.int n :: .int dp :: .ref a :: .int sp :: .ref a0 :: st)) rfl (by rw [F4]; exact hl.1) (rest := st) rfl (by rw [F2]; exact hdg) (Nat.le_trans hd F10) (by show 2 * 0 + _ + _ ≤ _; omega)
  have e1 : copied (vp_cell (G.2.2.1 0) (n0, .inl f)) (vp_cell (G.2.2.1 0) (n1, .inl g)) sp dp n = vp_cell (G.2.2.1 0) (n1, .inl (va_cpy f g sp.toNatClampNeg dp.toNatClampNeg n.toNatClampNeg)) := va_copied (fun z => .int z) _ _ f g h4
  rw [e1] at X' step
  have hlt : a < H.size := (Array.getElem?_eq_some_iff.mp hc1).1
  have hheap : ((T.setVm vm').setCell a (vp_cell (G.2.2.1 0) (n1, .inl (va_cpy f g sp.toNatClampNeg dp.toNatClampNeg n.toNatClampNeg)))).heap = H.setIfInBounds a (vp_cell (G.2.2.1 0) (n1, .inl (va_cpy f g sp.toNatClampNeg dp.toNatClampNeg n.toNatClampNeg))) := by rw [← hT]; rfl
  have oq : ∀ q : Nat, q ≠ a → (H.setIfInBounds a (vp_cell (G.2.2.1 0) (n1, .inl (va_cpy f g sp.toNatClampNeg dp.toNatClampNeg n.toNatClampNeg))))[q]? = H[q]? := fun q hq => by simp [Array.getElem?_setIfInBounds, Ne.symm hq]
  have hba := (P.2.2 a _ hf1).1
  obtain ⟨t, a1, b1⟩ := kk p e R s m args below meth cd _ _ cells slots mc ms ls F ⟨S1, S2, S3, S4, P.set hf1 (show (H.setIfInBounds a _)[a]? = some _ by simp [Array.getElem?_setIfInBounds, hlt]) (by simp) oq, ⟨by simp; exact S6.1, fun q g1 g2 => by
      rw [oq q (fun e => g2 (by rw [e]; exact hba))]
      exact S6.2.1 q g1 g2, fun q hq => by
      rcases List.mem_append.mp hq with z | z
      · exact S6.2.2 q z
      · obtain ⟨y, -, hy⟩ := List.mem_map.mp z
        rw [← hy]
        exact hba⟩, S7⟩ hl _ hheap X'
  exact ⟨t, step t a1, b1⟩
theorem aw_copyL {index a0 a n0 n1 : Nat} {f g : Nat → Int64} {sp dp n : Int32} (hdg : decode M.2.1 pc = .ok (.invokestatic index, 3)) (hL : Cond.methodLink M.1.cls index arraycopyName ∈ a_wt) (hnat : Cond.native arraycopyName ∈ a_wt) (hstat : Cond.static arraycopyName ∈ a_wt) (hini : Cond.initialized "java/lang/System" ∈ a_wt) (hf0 : h.2 a0 = some (.inl (1, n0, .inr (.inl f)))) (hf1 : h.2 a = some (.inl (1, n1, .inr (.inl g)))) (h1 : ¬ sp < 0) (h2 : ¬ dp < 0) (h3 : ¬ n < 0) (h4 : sp.toNatClampNeg + n.toNatClampNeg ≤ n0) (h5 : dp.toNatClampNeg + n.toNatClampNeg ≤ n1) (hd : 1 ≤ d) (hr : (st.map fun v => v.category).sum ≤ 8) (kk : AW l G d c w M Q (pc + 3) lv st (a_up h a (.inl (1, n1, .inr (.inl (va_cpy f g sp.toNatClampNeg dp.toNatClampNeg n.toNatClampNeg)))))) : AW l G d c w M Q pc lv (.int n :: .int dp :: .ref a :: .int sp :: .ref a0 :: st) h := by
  intro p e R s m args below meth cd H locs cells slots mc ms ls F S hl
  obtain ⟨F1, F2, F3, F4, F5, F6, F7, F8, F9, F10, F11⟩ := id F
  obtain ⟨S1, S2, S3, S4, P, S6, S7⟩ := id S
  have hk1 : a_k * 1 ≤ a_k * d := Nat.mul_le_mul_left _ hd
  have hk2 : a_k * 1 = 40 := rfl
  have hwd : nativeFrameWords "java/lang/System" "arraycopy" 5 ≤ 20 := by decide +kernel
  intro T hT X
  have hc0 : H[a0]? = some (vp_cell (G.2.2.1 1) (n0, .inr (.inl f))) := (P.2.2 a0 _ hf0).2
  have hc1 : H[a]? = some (vp_cell (G.2.2.1 1) (n1, .inr (.inl g))) := (P.2.2 a _ hf1).2
  obtain ⟨-, k0, hk0, cm0, hkk0⟩ := (F9.1.2 1 _ rfl).1 n0 (fun j => .long (f j))
  obtain ⟨-, k1, hk1', cm1, hkk1⟩ := (F9.1.2 1 _ rfl).1 n1 (fun j => .long (g j))
  obtain ⟨vm', X', step⟩ := X.arraycopy F1 F5 (F7 _ hL) (F7 _ hnat) (F7 _ hstat) (F7 _ hini) (src := a0) (dst := a) (cs := vp_cell (G.2.2.1 1) (n0, .inr (.inl f))) (cd := vp_cell (G.2.2.1 1) (n1, .inr (.inl g))) (srcPos := sp) (destPos := dp) (n := n) (by rw [hT]; exact hc0) (by rw [hT]; exact hc1)
    (fun _ h => by cases h) (fun _ h => by cases h) (fun h => by cases h) (fun h => by cases h) hk0 hk1' hkk0 hkk1 (by simp [a_ty, refKind]) h1 h2 h3
    (by rw [a_nn sp h1, a_nn n h3]; show ¬ _ > ((arrV _ n0 (fun j => .long (f j))).slots.size : Int); rw [arrV_size]; omega)
    (by rw [a_nn dp h2, a_nn n h3]; show ¬ _ > ((arrV _ n1 (fun j => .long (g j))).slots.size : Int); rw [arrV_size]; omega)
    (fun vm₁ _ i hi => by
      have e : (vp_cell (G.2.2.1 1) (n0, .inr (.inl f))).slots.getD (sp.toNatClampNeg + i) .null = .long (f (sp.toNatClampNeg + i)) := by
        show (arrV _ n0 (fun j => .long (f j))).slots.getD _ _ = _
        rw [Array.getD_eq_getD_getElem?, arrV_read _ _ (by omega)]
        rfl
      refine ⟨?_, ?_⟩
      · rw [e]
        first | rfl | simp [a_ty, fits]
      · rw [e]
        exact trivial)
    (g := F0 m pc ls (.int n :: .int dp :: .ref a :: .int sp :: .ref a0 :: st)) rfl (by rw [F4]; exact hl.1) (rest := st) rfl (by rw [F2]; exact hdg) (Nat.le_trans hd F10) (by show 2 * 0 + _ + _ ≤ _; omega)
  have e1 : copied (vp_cell (G.2.2.1 1) (n0, .inr (.inl f))) (vp_cell (G.2.2.1 1) (n1, .inr (.inl g))) sp dp n = vp_cell (G.2.2.1 1) (n1, .inr (.inl (va_cpy f g sp.toNatClampNeg dp.toNatClampNeg n.toNatClampNeg))) := va_copied (fun z => .long z) _ _ f g h4
  rw [e1] at X' step
  have hlt : a < H.size := (Array.getElem?_eq_some_iff.mp hc1).1
  have hheap : ((T.setVm vm').setCell a (vp_cell (G.2.2.1 1) (n1, .inr (.inl (va_cpy f g sp.toNatClampNeg dp.toNatClampNeg n.toNatClampNeg))))).heap = H.setIfInBounds a (vp_cell (G.2.2.1 1) (n1, .inr (.inl (va_cpy f g sp.toNatClampNeg dp.toNatClampNeg n.toNatClampNeg)))) := by rw [← hT]; rfl
  have oq : ∀ q : Nat, q ≠ a → (H.setIfInBounds a (vp_cell (G.2.2.1 1) (n1, .inr (.inl (va_cpy f g sp.toNatClampNeg dp.toNatClampNeg n.toNatClampNeg)))))[q]? = H[q]? := fun q hq => by simp [Array.getElem?_setIfInBounds, Ne.symm hq]
  have hba := (P.2.2 a _ hf1).1
  obtain ⟨t, a1, b1⟩ := kk p e R s m args below meth cd _ _ cells slots mc ms ls F ⟨S1, S2, S3, S4, P.set hf1 (show (H.setIfInBounds a _)[a]? = some _ by simp [Array.getElem?_setIfInBounds, hlt]) (by simp) oq, ⟨by simp; exact S6.1, fun q g1 g2 => by
      rw [oq q (fun e => g2 (by rw [e]; exact hba))]
      exact S6.2.1 q g1 g2, fun q hq => by
      rcases List.mem_append.mp hq with z | z
      · exact S6.2.2 q z
      · obtain ⟨y, -, hy⟩ := List.mem_map.mp z
        rw [← hy]
        exact hba⟩, S7⟩ hl _ hheap X'
  exact ⟨t, step t a1, b1⟩
end AWY
end
