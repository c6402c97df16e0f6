-- ===== PART A: goes FIRST, ahead of the names: the tables' words, and 'selects' of the private methods out of them =====
/-- a private method of a class that the tables say can be made, by its rows of tables_1 -/
def lw_okq (q : MethodName × Nat) : Prop := (q.1.cls ≠ "java/lang/invoke/MethodHandle" ∧ q.1.cls ≠ "java/lang/invoke/VarHandle") ∧ Cond.instantiable q.1.cls q.2 ∈ tables_1 ∧ Cond.privateMethod q.1 ∈ tables_1 ∧ Cond.instanceMethod q.1 ∈ tables_1
theorem lw_p0 : lw_okq (⟨"BellTouches", "settle", "()V"⟩, 11) := ⟨⟨by decide +kernel, by decide +kernel⟩, List.mem_of_getElem? (i := 17) (by decide +kernel), List.mem_of_getElem? (i := 255) (by decide +kernel), List.mem_of_getElem? (i := 256) (by decide +kernel)⟩
theorem lw_p1 : lw_okq (⟨"BellTouches$Ringing", "add", "(I)V"⟩, 4) := ⟨⟨by decide +kernel, by decide +kernel⟩, List.mem_of_getElem? (i := 155) (by decide +kernel), List.mem_of_getElem? (i := 276) (by decide +kernel), List.mem_of_getElem? (i := 277) (by decide +kernel)⟩
theorem lw_p2 : lw_okq (⟨"BellTouches$Notation", "take", "(I)Z"⟩, 6) := ⟨⟨by decide +kernel, by decide +kernel⟩, List.mem_of_getElem? (i := 84) (by decide +kernel), List.mem_of_getElem? (i := 351) (by decide +kernel), List.mem_of_getElem? (i := 352) (by decide +kernel)⟩
theorem lw_p3 : lw_okq (⟨"BellTouches$Notation", "takeCross", "()Z"⟩, 6) := ⟨⟨by decide +kernel, by decide +kernel⟩, List.mem_of_getElem? (i := 84) (by decide +kernel), List.mem_of_getElem? (i := 355) (by decide +kernel), List.mem_of_getElem? (i := 356) (by decide +kernel)⟩
theorem lw_p4 : lw_okq (⟨"BellTouches$Notation", "changeCanEnd", "()Z"⟩, 6) := ⟨⟨by decide +kernel, by decide +kernel⟩, List.mem_of_getElem? (i := 84) (by decide +kernel), List.mem_of_getElem? (i := 359) (by decide +kernel), List.mem_of_getElem? (i := 360) (by decide +kernel)⟩
theorem lw_p5 : lw_okq (⟨"BellTouches$Notation", "addSet", "()Z"⟩, 6) := ⟨⟨by decide +kernel, by decide +kernel⟩, List.mem_of_getElem? (i := 84) (by decide +kernel), List.mem_of_getElem? (i := 363) (by decide +kernel), List.mem_of_getElem? (i := 364) (by decide +kernel)⟩
theorem lw_p6 : lw_okq (⟨"BellTouches$Notation", "takePoint", "()Z"⟩, 6) := ⟨⟨by decide +kernel, by decide +kernel⟩, List.mem_of_getElem? (i := 84) (by decide +kernel), List.mem_of_getElem? (i := 367) (by decide +kernel), List.mem_of_getElem? (i := 368) (by decide +kernel)⟩
theorem lw_p7 : lw_okq (⟨"BellTouches$Notation", "takeComma", "()Z"⟩, 6) := ⟨⟨by decide +kernel, by decide +kernel⟩, List.mem_of_getElem? (i := 84) (by decide +kernel), List.mem_of_getElem? (i := 371) (by decide +kernel), List.mem_of_getElem? (i := 372) (by decide +kernel)⟩
theorem lw_p8 : lw_okq (⟨"BellTouches$Notation", "takeFigure", "(I)Z"⟩, 6) := ⟨⟨by decide +kernel, by decide +kernel⟩, List.mem_of_getElem? (i := 84) (by decide +kernel), List.mem_of_getElem? (i := 375) (by decide +kernel), List.mem_of_getElem? (i := 376) (by decide +kernel)⟩
theorem lw_p9 : lw_okq (⟨"BellTouches$Notation", "writeThereAndBack", "([IIII)I"⟩, 6) := ⟨⟨by decide +kernel, by decide +kernel⟩, List.mem_of_getElem? (i := 84) (by decide +kernel), List.mem_of_getElem? (i := 405) (by decide +kernel), List.mem_of_getElem? (i := 406) (by decide +kernel)⟩
theorem lw_p10 : lw_okq (⟨"BellTouches", "hasMethodAndTouch", "()Z"⟩, 11) := ⟨⟨by decide +kernel, by decide +kernel⟩, List.mem_of_getElem? (i := 17) (by decide +kernel), List.mem_of_getElem? (i := 442) (by decide +kernel), List.mem_of_getElem? (i := 443) (by decide +kernel)⟩
theorem lw_p11 : lw_okq (⟨"BellTouches$RowTable", "slotOf", "(I)I"⟩, 3) := ⟨⟨by decide +kernel, by decide +kernel⟩, List.mem_of_getElem? (i := 161) (by decide +kernel), List.mem_of_getElem? (i := 477) (by decide +kernel), List.mem_of_getElem? (i := 478) (by decide +kernel)⟩
theorem lw_p12 : lw_okq (⟨"BellTouches$RowTable", "isTaken", "(I)Z"⟩, 3) := ⟨⟨by decide +kernel, by decide +kernel⟩, List.mem_of_getElem? (i := 161) (by decide +kernel), List.mem_of_getElem? (i := 483) (by decide +kernel), List.mem_of_getElem? (i := 484) (by decide +kernel)⟩
theorem lw_p13 : lw_okq (⟨"BellTouches", "hasMethod", "()Z"⟩, 11) := ⟨⟨by decide +kernel, by decide +kernel⟩, List.mem_of_getElem? (i := 17) (by decide +kernel), List.mem_of_getElem? (i := 529) (by decide +kernel), List.mem_of_getElem? (i := 530) (by decide +kernel)⟩
theorem lw_p14 : lw_okq (⟨"BellTouches$FalseHeads", "ringPlainRows", "(LBellTouches$Leads;)V"⟩, 4) := ⟨⟨by decide +kernel, by decide +kernel⟩, List.mem_of_getElem? (i := 192) (by decide +kernel), List.mem_of_getElem? (i := 557) (by decide +kernel), List.mem_of_getElem? (i := 558) (by decide +kernel)⟩
theorem lw_p15 : lw_okq (⟨"BellTouches$FalseHeads", "keep", "(I)V"⟩, 4) := ⟨⟨by decide +kernel, by decide +kernel⟩, List.mem_of_getElem? (i := 192) (by decide +kernel), List.mem_of_getElem? (i := 567) (by decide +kernel), List.mem_of_getElem? (i := 568) (by decide +kernel)⟩
def lw_privs_1 : List (MethodName × Nat) := [(⟨"BellTouches", "settle", "()V"⟩, 11), (⟨"BellTouches$Ringing", "add", "(I)V"⟩, 4), (⟨"BellTouches$Notation", "take", "(I)Z"⟩, 6), (⟨"BellTouches$Notation", "takeCross", "()Z"⟩, 6), (⟨"BellTouches$Notation", "changeCanEnd", "()Z"⟩, 6), (⟨"BellTouches$Notation", "addSet", "()Z"⟩, 6), (⟨"BellTouches$Notation", "takePoint", "()Z"⟩, 6), (⟨"BellTouches$Notation", "takeComma", "()Z"⟩, 6), (⟨"BellTouches$Notation", "takeFigure", "(I)Z"⟩, 6), (⟨"BellTouches$Notation", "writeThereAndBack", "([IIII)I"⟩, 6), (⟨"BellTouches", "hasMethodAndTouch", "()Z"⟩, 11), (⟨"BellTouches$RowTable", "slotOf", "(I)I"⟩, 3), (⟨"BellTouches$RowTable", "isTaken", "(I)Z"⟩, 3), (⟨"BellTouches", "hasMethod", "()Z"⟩, 11), (⟨"BellTouches$FalseHeads", "ringPlainRows", "(LBellTouches$Leads;)V"⟩, 4), (⟨"BellTouches$FalseHeads", "keep", "(I)V"⟩, 4)]
theorem lw_r1 : ∀ q ∈ lw_privs_1, lw_okq q := List.forall_mem_cons.mpr ⟨lw_p0, List.forall_mem_cons.mpr ⟨lw_p1, List.forall_mem_cons.mpr ⟨lw_p2, List.forall_mem_cons.mpr ⟨lw_p3, List.forall_mem_cons.mpr ⟨lw_p4, List.forall_mem_cons.mpr ⟨lw_p5, List.forall_mem_cons.mpr ⟨lw_p6, List.forall_mem_cons.mpr ⟨lw_p7, List.forall_mem_cons.mpr ⟨lw_p8, List.forall_mem_cons.mpr ⟨lw_p9, List.forall_mem_cons.mpr ⟨lw_p10, List.forall_mem_cons.mpr ⟨lw_p11, List.forall_mem_cons.mpr ⟨lw_p12, List.forall_mem_cons.mpr ⟨lw_p13, List.forall_mem_cons.mpr ⟨lw_p14, List.forall_mem_cons.mpr ⟨lw_p15, fun _ h => absurd h List.not_mem_nil⟩⟩⟩⟩⟩⟩⟩⟩⟩⟩⟩⟩⟩⟩⟩⟩
theorem lw_p16 : lw_okq (⟨"BellTouches$FalseHeads", "firstNotBelow", "(I)I"⟩, 4) := ⟨⟨by decide +kernel, by decide +kernel⟩, List.mem_of_getElem? (i := 192) (by decide +kernel), List.mem_of_getElem? (i := 571) (by decide +kernel), List.mem_of_getElem? (i := 572) (by decide +kernel)⟩
theorem lw_p17 : lw_okq (⟨"BellTouches$Search", "find", "(LBellTouches$Leads;I)V"⟩, 5) := ⟨⟨by decide +kernel, by decide +kernel⟩, List.mem_of_getElem? (i := 212) (by decide +kernel), List.mem_of_getElem? (i := 588) (by decide +kernel), List.mem_of_getElem? (i := 589) (by decide +kernel)⟩
theorem lw_p18 : lw_okq (⟨"BellTouches$Search", "add", "(II)V"⟩, 5) := ⟨⟨by decide +kernel, by decide +kernel⟩, List.mem_of_getElem? (i := 212) (by decide +kernel), List.mem_of_getElem? (i := 594) (by decide +kernel), List.mem_of_getElem? (i := 595) (by decide +kernel)⟩
theorem lw_p19 : lw_okq (⟨"BellTouches$Longest", "growTo", "(ILBellTouches$Leads;)V"⟩, 2) := ⟨⟨by decide +kernel, by decide +kernel⟩, List.mem_of_getElem? (i := 236) (by decide +kernel), List.mem_of_getElem? (i := 638) (by decide +kernel), List.mem_of_getElem? (i := 639) (by decide +kernel)⟩
theorem lw_p20 : lw_okq (⟨"BellTouches$Longest", "isTrue", "(ILBellTouches$Leads;)Z"⟩, 2) := ⟨⟨by decide +kernel, by decide +kernel⟩, List.mem_of_getElem? (i := 236) (by decide +kernel), List.mem_of_getElem? (i := 649) (by decide +kernel), List.mem_of_getElem? (i := 650) (by decide +kernel)⟩
theorem lw_p21 : lw_okq (⟨"BellTouches$Longest", "insideIsNew", "(ILBellTouches$Leads;)Z"⟩, 2) := ⟨⟨by decide +kernel, by decide +kernel⟩, List.mem_of_getElem? (i := 236) (by decide +kernel), List.mem_of_getElem? (i := 659) (by decide +kernel), List.mem_of_getElem? (i := 660) (by decide +kernel)⟩
theorem lw_p22 : lw_okq (⟨"BellTouches", "imageOf", "(I)LBellTouches$Setting;"⟩, 11) := ⟨⟨by decide +kernel, by decide +kernel⟩, List.mem_of_getElem? (i := 17) (by decide +kernel), List.mem_of_getElem? (i := 673) (by decide +kernel), List.mem_of_getElem? (i := 674) (by decide +kernel)⟩
theorem lw_p23 : lw_okq (⟨"BellTouchesModel", "lay", "(I)V"⟩, 25) := ⟨⟨by decide +kernel, by decide +kernel⟩, List.mem_of_getElem? (i := 690) (by decide +kernel), List.mem_of_getElem? (i := 697) (by decide +kernel), List.mem_of_getElem? (i := 698) (by decide +kernel)⟩
theorem lw_p24 : lw_okq (⟨"BellTouchesModel", "many", "()I"⟩, 25) := ⟨⟨by decide +kernel, by decide +kernel⟩, List.mem_of_getElem? (i := 690) (by decide +kernel), List.mem_of_getElem? (i := 785) (by decide +kernel), List.mem_of_getElem? (i := 786) (by decide +kernel)⟩
theorem lw_p25 : lw_okq (⟨"BellTouchesModel", "methodFault", "()I"⟩, 25) := ⟨⟨by decide +kernel, by decide +kernel⟩, List.mem_of_getElem? (i := 690) (by decide +kernel), List.mem_of_getElem? (i := 801) (by decide +kernel), List.mem_of_getElem? (i := 802) (by decide +kernel)⟩
theorem lw_p26 : lw_okq (⟨"BellTouchesModel", "begin", "()V"⟩, 25) := ⟨⟨by decide +kernel, by decide +kernel⟩, List.mem_of_getElem? (i := 690) (by decide +kernel), List.mem_of_getElem? (i := 805) (by decide +kernel), List.mem_of_getElem? (i := 806) (by decide +kernel)⟩
theorem lw_p27 : lw_okq (⟨"BellTouchesModel", "readSign", "(I)Z"⟩, 25) := ⟨⟨by decide +kernel, by decide +kernel⟩, List.mem_of_getElem? (i := 690) (by decide +kernel), List.mem_of_getElem? (i := 809) (by decide +kernel), List.mem_of_getElem? (i := 810) (by decide +kernel)⟩
theorem lw_p28 : lw_okq (⟨"BellTouchesModel", "readCross", "()Z"⟩, 25) := ⟨⟨by decide +kernel, by decide +kernel⟩, List.mem_of_getElem? (i := 690) (by decide +kernel), List.mem_of_getElem? (i := 813) (by decide +kernel), List.mem_of_getElem? (i := 814) (by decide +kernel)⟩
theorem lw_p29 : lw_okq (⟨"BellTouchesModel", "isWhole", "()Z"⟩, 25) := ⟨⟨by decide +kernel, by decide +kernel⟩, List.mem_of_getElem? (i := 690) (by decide +kernel), List.mem_of_getElem? (i := 817) (by decide +kernel), List.mem_of_getElem? (i := 818) (by decide +kernel)⟩
theorem lw_p30 : lw_okq (⟨"BellTouchesModel", "close", "()V"⟩, 25) := ⟨⟨by decide +kernel, by decide +kernel⟩, List.mem_of_getElem? (i := 690) (by decide +kernel), List.mem_of_getElem? (i := 821) (by decide +kernel), List.mem_of_getElem? (i := 822) (by decide +kernel)⟩
theorem lw_p31 : lw_okq (⟨"BellTouchesModel", "addChange", "(I)V"⟩, 25) := ⟨⟨by decide +kernel, by decide +kernel⟩, List.mem_of_getElem? (i := 690) (by decide +kernel), List.mem_of_getElem? (i := 825) (by decide +kernel), List.mem_of_getElem? (i := 826) (by decide +kernel)⟩
def lw_privs_2 : List (MethodName × Nat) := [(⟨"BellTouches$FalseHeads", "firstNotBelow", "(I)I"⟩, 4), (⟨"BellTouches$Search", "find", "(LBellTouches$Leads;I)V"⟩, 5), (⟨"BellTouches$Search", "add", "(II)V"⟩, 5), (⟨"BellTouches$Longest", "growTo", "(ILBellTouches$Leads;)V"⟩, 2), (⟨"BellTouches$Longest", "isTrue", "(ILBellTouches$Leads;)Z"⟩, 2), (⟨"BellTouches$Longest", "insideIsNew", "(ILBellTouches$Leads;)Z"⟩, 2), (⟨"BellTouches", "imageOf", "(I)LBellTouches$Setting;"⟩, 11), (⟨"BellTouchesModel", "lay", "(I)V"⟩, 25), (⟨"BellTouchesModel", "many", "()I"⟩, 25), (⟨"BellTouchesModel", "methodFault", "()I"⟩, 25), (⟨"BellTouchesModel", "begin", "()V"⟩, 25), (⟨"BellTouchesModel", "readSign", "(I)Z"⟩, 25), (⟨"BellTouchesModel", "readCross", "()Z"⟩, 25), (⟨"BellTouchesModel", "isWhole", "()Z"⟩, 25), (⟨"BellTouchesModel", "close", "()V"⟩, 25), (⟨"BellTouchesModel", "addChange", "(I)V"⟩, 25)]
theorem lw_r2 : ∀ q ∈ lw_privs_2, lw_okq q := List.forall_mem_cons.mpr ⟨lw_p16, List.forall_mem_cons.mpr ⟨lw_p17, List.forall_mem_cons.mpr ⟨lw_p18, List.forall_mem_cons.mpr ⟨lw_p19, List.forall_mem_cons.mpr ⟨lw_p20, List.forall_mem_cons.mpr ⟨lw_p21, List.forall_mem_cons.mpr ⟨lw_p22, List.forall_mem_cons.mpr ⟨lw_p23, List.forall_mem_cons.mpr ⟨lw_p24, List.forall_mem_cons.mpr ⟨lw_p25, List.forall_mem_cons.mpr ⟨lw_p26, List.forall_mem_cons.mpr ⟨lw_p27, List.forall_mem_cons.mpr ⟨lw_p28, List.forall_mem_cons.mpr ⟨lw_p29, List.forall_mem_cons.mpr ⟨lw_p30, List.forall_mem_cons.mpr ⟨lw_p31, fun _ h => absurd h List.not_mem_nil⟩⟩⟩⟩⟩⟩⟩⟩⟩⟩⟩⟩⟩⟩⟩⟩
theorem lw_p32 : lw_okq (⟨"BellTouchesModel", "readPoint", "()Z"⟩, 25) := ⟨⟨by decide +kernel, by decide +kernel⟩, List.mem_of_getElem? (i := 690) (by decide +kernel), List.mem_of_getElem? (i := 829) (by decide +kernel), List.mem_of_getElem? (i := 830) (by decide +kernel)⟩
theorem lw_p33 : lw_okq (⟨"BellTouchesModel", "readComma", "()Z"⟩, 25) := ⟨⟨by decide +kernel, by decide +kernel⟩, List.mem_of_getElem? (i := 690) (by decide +kernel), List.mem_of_getElem? (i := 833) (by decide +kernel), List.mem_of_getElem? (i := 834) (by decide +kernel)⟩
theorem lw_p34 : lw_okq (⟨"BellTouchesModel", "mayEnd", "()Z"⟩, 25) := ⟨⟨by decide +kernel, by decide +kernel⟩, List.mem_of_getElem? (i := 690) (by decide +kernel), List.mem_of_getElem? (i := 837) (by decide +kernel), List.mem_of_getElem? (i := 838) (by decide +kernel)⟩
theorem lw_p35 : lw_okq (⟨"BellTouchesModel", "readFigure", "(I)Z"⟩, 25) := ⟨⟨by decide +kernel, by decide +kernel⟩, List.mem_of_getElem? (i := 690) (by decide +kernel), List.mem_of_getElem? (i := 841) (by decide +kernel), List.mem_of_getElem? (i := 842) (by decide +kernel)⟩
theorem lw_p36 : lw_okq (⟨"BellTouchesModel", "canStay", "(I)Z"⟩, 25) := ⟨⟨by decide +kernel, by decide +kernel⟩, List.mem_of_getElem? (i := 690) (by decide +kernel), List.mem_of_getElem? (i := 845) (by decide +kernel), List.mem_of_getElem? (i := 846) (by decide +kernel)⟩
theorem lw_p37 : lw_okq (⟨"BellTouchesModel", "changeFault", "()I"⟩, 25) := ⟨⟨by decide +kernel, by decide +kernel⟩, List.mem_of_getElem? (i := 690) (by decide +kernel), List.mem_of_getElem? (i := 849) (by decide +kernel), List.mem_of_getElem? (i := 850) (by decide +kernel)⟩
theorem lw_p38 : lw_okq (⟨"BellTouchesModel", "touchFault", "()I"⟩, 25) := ⟨⟨by decide +kernel, by decide +kernel⟩, List.mem_of_getElem? (i := 690) (by decide +kernel), List.mem_of_getElem? (i := 853) (by decide +kernel), List.mem_of_getElem? (i := 854) (by decide +kernel)⟩
theorem lw_p39 : lw_okq (⟨"BellTouchesModel", "putThere", "(II)V"⟩, 25) := ⟨⟨by decide +kernel, by decide +kernel⟩, List.mem_of_getElem? (i := 690) (by decide +kernel), List.mem_of_getElem? (i := 864) (by decide +kernel), List.mem_of_getElem? (i := 865) (by decide +kernel)⟩
theorem lw_p40 : lw_okq (⟨"BellTouchesModel", "isReady", "()Z"⟩, 25) := ⟨⟨by decide +kernel, by decide +kernel⟩, List.mem_of_getElem? (i := 690) (by decide +kernel), List.mem_of_getElem? (i := 887) (by decide +kernel), List.mem_of_getElem? (i := 888) (by decide +kernel)⟩
theorem lw_p41 : lw_okq (⟨"BellTouchesModel", "layTouch", "()V"⟩, 25) := ⟨⟨by decide +kernel, by decide +kernel⟩, List.mem_of_getElem? (i := 690) (by decide +kernel), List.mem_of_getElem? (i := 891) (by decide +kernel), List.mem_of_getElem? (i := 892) (by decide +kernel)⟩
theorem lw_p42 : lw_okq (⟨"BellTouchesModel", "layRounds", "()V"⟩, 25) := ⟨⟨by decide +kernel, by decide +kernel⟩, List.mem_of_getElem? (i := 690) (by decide +kernel), List.mem_of_getElem? (i := 895) (by decide +kernel), List.mem_of_getElem? (i := 896) (by decide +kernel)⟩
theorem lw_p43 : lw_okq (⟨"BellTouchesModel", "changeOf", "(II)I"⟩, 25) := ⟨⟨by decide +kernel, by decide +kernel⟩, List.mem_of_getElem? (i := 690) (by decide +kernel), List.mem_of_getElem? (i := 899) (by decide +kernel), List.mem_of_getElem? (i := 900) (by decide +kernel)⟩
theorem lw_p44 : lw_okq (⟨"BellTouchesModel", "ring", "(I)V"⟩, 25) := ⟨⟨by decide +kernel, by decide +kernel⟩, List.mem_of_getElem? (i := 690) (by decide +kernel), List.mem_of_getElem? (i := 903) (by decide +kernel), List.mem_of_getElem? (i := 904) (by decide +kernel)⟩
theorem lw_p45 : lw_okq (⟨"BellTouchesModel", "rank", "()I"⟩, 25) := ⟨⟨by decide +kernel, by decide +kernel⟩, List.mem_of_getElem? (i := 690) (by decide +kernel), List.mem_of_getElem? (i := 907) (by decide +kernel), List.mem_of_getElem? (i := 908) (by decide +kernel)⟩
theorem lw_p46 : lw_okq (⟨"BellTouchesModel", "layRank", "(I)V"⟩, 25) := ⟨⟨by decide +kernel, by decide +kernel⟩, List.mem_of_getElem? (i := 690) (by decide +kernel), List.mem_of_getElem? (i := 911) (by decide +kernel), List.mem_of_getElem? (i := 912) (by decide +kernel)⟩
theorem lw_p47 : lw_okq (⟨"BellTouchesModel", "number", "()I"⟩, 25) := ⟨⟨by decide +kernel, by decide +kernel⟩, List.mem_of_getElem? (i := 690) (by decide +kernel), List.mem_of_getElem? (i := 915) (by decide +kernel), List.mem_of_getElem? (i := 916) (by decide +kernel)⟩
def lw_privs_3 : List (MethodName × Nat) := [(⟨"BellTouchesModel", "readPoint", "()Z"⟩, 25), (⟨"BellTouchesModel", "readComma", "()Z"⟩, 25), (⟨"BellTouchesModel", "mayEnd", "()Z"⟩, 25), (⟨"BellTouchesModel", "readFigure", "(I)Z"⟩, 25), (⟨"BellTouchesModel", "canStay", "(I)Z"⟩, 25), (⟨"BellTouchesModel", "changeFault", "()I"⟩, 25), (⟨"BellTouchesModel", "touchFault", "()I"⟩, 25), (⟨"BellTouchesModel", "putThere", "(II)V"⟩, 25), (⟨"BellTouchesModel", "isReady", "()Z"⟩, 25), (⟨"BellTouchesModel", "layTouch", "()V"⟩, 25), (⟨"BellTouchesModel", "layRounds", "()V"⟩, 25), (⟨"BellTouchesModel", "changeOf", "(II)I"⟩, 25), (⟨"BellTouchesModel", "ring", "(I)V"⟩, 25), (⟨"BellTouchesModel", "rank", "()I"⟩, 25), (⟨"BellTouchesModel", "layRank", "(I)V"⟩, 25), (⟨"BellTouchesModel", "number", "()I"⟩, 25)]
theorem lw_r3 : ∀ q ∈ lw_privs_3, lw_okq q := List.forall_mem_cons.mpr ⟨lw_p32, List.forall_mem_cons.mpr ⟨lw_p33, List.forall_mem_cons.mpr ⟨lw_p34, List.forall_mem_cons.mpr ⟨lw_p35, List.forall_mem_cons.mpr ⟨lw_p36, List.forall_mem_cons.mpr ⟨lw_p37, List.forall_mem_cons.mpr ⟨lw_p38, List.forall_mem_cons.mpr ⟨lw_p39, List.forall_mem_cons.mpr ⟨lw_p40, List.forall_mem_cons.mpr ⟨lw_p41, List.forall_mem_cons.mpr ⟨lw_p42, List.forall_mem_cons.mpr ⟨lw_p43, List.forall_mem_cons.mpr ⟨lw_p44, List.forall_mem_cons.mpr ⟨lw_p45, List.forall_mem_cons.mpr ⟨lw_p46, List.forall_mem_cons.mpr ⟨lw_p47, fun _ h => absurd h List.not_mem_nil⟩⟩⟩⟩⟩⟩⟩⟩⟩⟩⟩⟩⟩⟩⟩⟩
theorem lw_p48 : lw_okq (⟨"BellTouchesModel", "firstFalse", "()I"⟩, 25) := ⟨⟨by decide +kernel, by decide +kernel⟩, List.mem_of_getElem? (i := 690) (by decide +kernel), List.mem_of_getElem? (i := 923) (by decide +kernel), List.mem_of_getElem? (i := 924) (by decide +kernel)⟩
theorem lw_p49 : lw_okq (⟨"BellTouchesModel", "isFalse", "(I)Z"⟩, 25) := ⟨⟨by decide +kernel, by decide +kernel⟩, List.mem_of_getElem? (i := 690) (by decide +kernel), List.mem_of_getElem? (i := 927) (by decide +kernel), List.mem_of_getElem? (i := 928) (by decide +kernel)⟩
theorem lw_p50 : lw_okq (⟨"BellTouchesModel", "falseMany", "()I"⟩, 25) := ⟨⟨by decide +kernel, by decide +kernel⟩, List.mem_of_getElem? (i := 690) (by decide +kernel), List.mem_of_getElem? (i := 931) (by decide +kernel), List.mem_of_getElem? (i := 932) (by decide +kernel)⟩
theorem lw_p51 : lw_okq (⟨"BellTouchesModel", "comesRound", "()I"⟩, 25) := ⟨⟨by decide +kernel, by decide +kernel⟩, List.mem_of_getElem? (i := 690) (by decide +kernel), List.mem_of_getElem? (i := 935) (by decide +kernel), List.mem_of_getElem? (i := 936) (by decide +kernel)⟩
theorem lw_p52 : lw_okq (⟨"BellTouchesModel", "likedMany", "()I"⟩, 25) := ⟨⟨by decide +kernel, by decide +kernel⟩, List.mem_of_getElem? (i := 690) (by decide +kernel), List.mem_of_getElem? (i := 939) (by decide +kernel), List.mem_of_getElem? (i := 940) (by decide +kernel)⟩
theorem lw_p53 : lw_okq (⟨"BellTouchesModel", "isLiked", "()Z"⟩, 25) := ⟨⟨by decide +kernel, by decide +kernel⟩, List.mem_of_getElem? (i := 690) (by decide +kernel), List.mem_of_getElem? (i := 943) (by decide +kernel), List.mem_of_getElem? (i := 944) (by decide +kernel)⟩
theorem lw_p54 : lw_okq (⟨"BellTouchesModel", "goesWhere", "(II)I"⟩, 25) := ⟨⟨by decide +kernel, by decide +kernel⟩, List.mem_of_getElem? (i := 690) (by decide +kernel), List.mem_of_getElem? (i := 951) (by decide +kernel), List.mem_of_getElem? (i := 952) (by decide +kernel)⟩
theorem lw_p55 : lw_okq (⟨"BellTouchesModel", "placeIn", "(II)I"⟩, 25) := ⟨⟨by decide +kernel, by decide +kernel⟩, List.mem_of_getElem? (i := 690) (by decide +kernel), List.mem_of_getElem? (i := 955) (by decide +kernel), List.mem_of_getElem? (i := 956) (by decide +kernel)⟩
theorem lw_p56 : lw_okq (⟨"BellTouchesModel", "orderOf", "(I)I"⟩, 25) := ⟨⟨by decide +kernel, by decide +kernel⟩, List.mem_of_getElem? (i := 690) (by decide +kernel), List.mem_of_getElem? (i := 963) (by decide +kernel), List.mem_of_getElem? (i := 964) (by decide +kernel)⟩
theorem lw_p57 : lw_okq (⟨"BellTouchesModel", "ringLead", "(I)V"⟩, 25) := ⟨⟨by decide +kernel, by decide +kernel⟩, List.mem_of_getElem? (i := 690) (by decide +kernel), List.mem_of_getElem? (i := 967) (by decide +kernel), List.mem_of_getElem? (i := 968) (by decide +kernel)⟩
theorem lw_p58 : lw_okq (⟨"BellTouchesModel", "layFalseHeads", "()V"⟩, 25) := ⟨⟨by decide +kernel, by decide +kernel⟩, List.mem_of_getElem? (i := 690) (by decide +kernel), List.mem_of_getElem? (i := 975) (by decide +kernel), List.mem_of_getElem? (i := 976) (by decide +kernel)⟩
theorem lw_p59 : lw_okq (⟨"BellTouchesModel", "layPlain", "()V"⟩, 25) := ⟨⟨by decide +kernel, by decide +kernel⟩, List.mem_of_getElem? (i := 690) (by decide +kernel), List.mem_of_getElem? (i := 979) (by decide +kernel), List.mem_of_getElem? (i := 980) (by decide +kernel)⟩
theorem lw_p60 : lw_okq (⟨"BellTouchesModel", "beginSearch", "()V"⟩, 25) := ⟨⟨by decide +kernel, by decide +kernel⟩, List.mem_of_getElem? (i := 690) (by decide +kernel), List.mem_of_getElem? (i := 983) (by decide +kernel), List.mem_of_getElem? (i := 984) (by decide +kernel)⟩
theorem lw_p61 : lw_okq (⟨"BellTouchesModel", "layHead", "(II)V"⟩, 25) := ⟨⟨by decide +kernel, by decide +kernel⟩, List.mem_of_getElem? (i := 690) (by decide +kernel), List.mem_of_getElem? (i := 987) (by decide +kernel), List.mem_of_getElem? (i := 988) (by decide +kernel)⟩
theorem lw_p62 : lw_okq (⟨"BellTouchesModel", "meet", "(I)Z"⟩, 25) := ⟨⟨by decide +kernel, by decide +kernel⟩, List.mem_of_getElem? (i := 690) (by decide +kernel), List.mem_of_getElem? (i := 991) (by decide +kernel), List.mem_of_getElem? (i := 992) (by decide +kernel)⟩
theorem lw_p63 : lw_okq (⟨"BellTouchesModel", "layReached", "(I)V"⟩, 25) := ⟨⟨by decide +kernel, by decide +kernel⟩, List.mem_of_getElem? (i := 690) (by decide +kernel), List.mem_of_getElem? (i := 999) (by decide +kernel), List.mem_of_getElem? (i := 1000) (by decide +kernel)⟩
def lw_privs_4 : List (MethodName × Nat) := [(⟨"BellTouchesModel", "firstFalse", "()I"⟩, 25), (⟨"BellTouchesModel", "isFalse", "(I)Z"⟩, 25), (⟨"BellTouchesModel", "falseMany", "()I"⟩, 25), (⟨"BellTouchesModel", "comesRound", "()I"⟩, 25), (⟨"BellTouchesModel", "likedMany", "()I"⟩, 25), (⟨"BellTouchesModel", "isLiked", "()Z"⟩, 25), (⟨"BellTouchesModel", "goesWhere", "(II)I"⟩, 25), (⟨"BellTouchesModel", "placeIn", "(II)I"⟩, 25), (⟨"BellTouchesModel", "orderOf", "(I)I"⟩, 25), (⟨"BellTouchesModel", "ringLead", "(I)V"⟩, 25), (⟨"BellTouchesModel", "layFalseHeads", "()V"⟩, 25), (⟨"BellTouchesModel", "layPlain", "()V"⟩, 25), (⟨"BellTouchesModel", "beginSearch", "()V"⟩, 25), (⟨"BellTouchesModel", "layHead", "(II)V"⟩, 25), (⟨"BellTouchesModel", "meet", "(I)Z"⟩, 25), (⟨"BellTouchesModel", "layReached", "(I)V"⟩, 25)]
theorem lw_r4 : ∀ q ∈ lw_privs_4, lw_okq q := List.forall_mem_cons.mpr ⟨lw_p48, List.forall_mem_cons.mpr ⟨lw_p49, List.forall_mem_cons.mpr ⟨lw_p50, List.forall_mem_cons.mpr ⟨lw_p51, List.forall_mem_cons.mpr ⟨lw_p52, List.forall_mem_cons.mpr ⟨lw_p53, List.forall_mem_cons.mpr ⟨lw_p54, List.forall_mem_cons.mpr ⟨lw_p55, List.forall_mem_cons.mpr ⟨lw_p56, List.forall_mem_cons.mpr ⟨lw_p57, List.forall_mem_cons.mpr ⟨lw_p58, List.forall_mem_cons.mpr ⟨lw_p59, List.forall_mem_cons.mpr ⟨lw_p60, List.forall_mem_cons.mpr ⟨lw_p61, List.forall_mem_cons.mpr ⟨lw_p62, List.forall_mem_cons.mpr ⟨lw_p63, fun _ h => absurd h List.not_mem_nil⟩⟩⟩⟩⟩⟩⟩⟩⟩⟩⟩⟩⟩⟩⟩⟩
theorem lw_p64 : lw_okq (⟨"BellTouchesModel", "goOn", "(II)V"⟩, 25) := ⟨⟨by decide +kernel, by decide +kernel⟩, List.mem_of_getElem? (i := 690) (by decide +kernel), List.mem_of_getElem? (i := 1003) (by decide +kernel), List.mem_of_getElem? (i := 1004) (by decide +kernel)⟩
theorem lw_p65 : lw_okq (⟨"BellTouchesModel", "layNumber", "(I)Z"⟩, 25) := ⟨⟨by decide +kernel, by decide +kernel⟩, List.mem_of_getElem? (i := 690) (by decide +kernel), List.mem_of_getElem? (i := 1011) (by decide +kernel), List.mem_of_getElem? (i := 1012) (by decide +kernel)⟩
theorem lw_p66 : lw_okq (⟨"BellTouchesModel", "firstGood", "(I)I"⟩, 25) := ⟨⟨by decide +kernel, by decide +kernel⟩, List.mem_of_getElem? (i := 690) (by decide +kernel), List.mem_of_getElem? (i := 1019) (by decide +kernel), List.mem_of_getElem? (i := 1020) (by decide +kernel)⟩
theorem lw_p67 : lw_okq (⟨"BellTouchesModel", "isGood", "(II)Z"⟩, 25) := ⟨⟨by decide +kernel, by decide +kernel⟩, List.mem_of_getElem? (i := 690) (by decide +kernel), List.mem_of_getElem? (i := 1023) (by decide +kernel), List.mem_of_getElem? (i := 1024) (by decide +kernel)⟩
theorem lw_p68 : lw_okq (⟨"BellTouchesModel", "letterIn", "(III)I"⟩, 25) := ⟨⟨by decide +kernel, by decide +kernel⟩, List.mem_of_getElem? (i := 690) (by decide +kernel), List.mem_of_getElem? (i := 1027) (by decide +kernel), List.mem_of_getElem? (i := 1028) (by decide +kernel)⟩
def lw_privs_5 : List (MethodName × Nat) := [(⟨"BellTouchesModel", "goOn", "(II)V"⟩, 25), (⟨"BellTouchesModel", "layNumber", "(I)Z"⟩, 25), (⟨"BellTouchesModel", "firstGood", "(I)I"⟩, 25), (⟨"BellTouchesModel", "isGood", "(II)Z"⟩, 25), (⟨"BellTouchesModel", "letterIn", "(III)I"⟩, 25)]
theorem lw_r5 : ∀ q ∈ lw_privs_5, lw_okq q := List.forall_mem_cons.mpr ⟨lw_p64, List.forall_mem_cons.mpr ⟨lw_p65, List.forall_mem_cons.mpr ⟨lw_p66, List.forall_mem_cons.mpr ⟨lw_p67, List.forall_mem_cons.mpr ⟨lw_p68, fun _ h => absurd h List.not_mem_nil⟩⟩⟩⟩⟩
def lw_privs : List (MethodName × Nat) := lw_privs_1 ++ (lw_privs_2 ++ (lw_privs_3 ++ (lw_privs_4 ++ (lw_privs_5))))
def lw_tbl : List Cond := k2_sels lw_privs ++ tables_1
theorem lw_privs_ok : ∀ q ∈ lw_privs, lw_okq q := by
  show ∀ q ∈ lw_privs_1 ++ (lw_privs_2 ++ (lw_privs_3 ++ (lw_privs_4 ++ (lw_privs_5)))), lw_okq q
  exact List.forall_mem_append.mpr ⟨lw_r1, List.forall_mem_append.mpr ⟨lw_r2, List.forall_mem_append.mpr ⟨lw_r3, List.forall_mem_append.mpr ⟨lw_r4, lw_r5⟩⟩⟩⟩

def RX0 : String := "BellTouches$FalseHeads"
def TX0 : u_T := fun k => match k with
  | 0 => ("BellTouches$FalseHeads", "plainRows", "[I", true)
  | 1 => ("BellTouches$FalseHeads", "numbers", "[I", true)
  | 2 => ("BellTouches$FalseHeads", "size", "I", false)
  | _ => ("BellTouches$FalseHeads", "known", "Z", false)
def tyX0 : Nat → FieldType := fun k => match k with
  | 0 => .array .int
  | 1 => .array .int
  | 2 => .int
  | _ => .boolean
abbrev wsX00 : List Cond := u_ws RX0 TX0 4
theorem nmX0 : ∀ a, a < 4 → ∀ b, b < 4 → a ≠ b → (TX0 a).2.1 ≠ (TX0 b).2.1 := by decide +kernel
theorem tyX0_ok : ∀ k, k < 4 → parseFieldDescriptor (TX0 k).2.2.1 = some (tyX0 k) := by decide +kernel
abbrev cX0_init : ByteArray := prog_2_method_1_code
def yX0_init : MethodName := ⟨RX0, "<init>", "()V"⟩
abbrev cX0_forget : ByteArray := prog_2_method_2_code
def yX0_forget : MethodName := ⟨RX0, "forget", "()V"⟩
abbrev cX0_numberAt : ByteArray := prog_2_method_3_code
def yX0_numberAt : MethodName := ⟨RX0, "numberAt", "(I)I"⟩
abbrev cX0_collect : ByteArray := prog_2_method_4_code
def yX0_collect : MethodName := ⟨RX0, "collect", "(LBellTouches$Leads;)V"⟩
abbrev cX0_ringPlainRows : ByteArray := prog_2_method_5_code
def yX0_ringPlainRows : MethodName := ⟨RX0, "ringPlainRows", "(LBellTouches$Leads;)V"⟩
abbrev cX0_keep : ByteArray := prog_2_method_6_code
def yX0_keep : MethodName := ⟨RX0, "keep", "(I)V"⟩
abbrev cX0_firstNotBelow : ByteArray := prog_2_method_7_code
def yX0_firstNotBelow : MethodName := ⟨RX0, "firstNotBelow", "(I)I"⟩
def RX1 : String := "BellTouches$Leads"
def TX1 : u_T := fun k => match k with
  | 0 => ("BellTouches$Leads", "many", "I", false)
  | 1 => ("BellTouches$Leads", "rounds", "I", false)
  | 2 => ("BellTouches$Leads", "steps", "[I", true)
  | 3 => ("BellTouches$Leads", "size", "I", false)
  | 4 => ("BellTouches$Leads", "body", "I", false)
  | 5 => ("BellTouches$Leads", "plainEnd", "I", false)
  | 6 => ("BellTouches$Leads", "bobEnd", "I", false)
  | _ => ("BellTouches$Leads", "singleEnd", "I", false)
def tyX1 : Nat → FieldType := fun k => match k with
  | 0 => .int
  | 1 => .int
  | 2 => .array .int
  | 3 => .int
  | 4 => .int
  | 5 => .int
  | 6 => .int
  | _ => .int
abbrev wsX10 : List Cond := u_ws RX1 TX1 8
theorem nmX1 : ∀ a, a < 8 → ∀ b, b < 8 → a ≠ b → (TX1 a).2.1 ≠ (TX1 b).2.1 := by decide +kernel
theorem tyX1_ok : ∀ k, k < 8 → parseFieldDescriptor (TX1 k).2.2.1 = some (tyX1 k) := by decide +kernel
abbrev cX1_init : ByteArray := prog_3_method_1_code
def yX1_init : MethodName := ⟨RX1, "<init>", "()V"⟩
abbrev cX1_prepare : ByteArray := prog_3_method_2_code
def yX1_prepare : MethodName := ⟨RX1, "prepare", "(LBellTouches$Setting;)V"⟩
abbrev cX1_endOf : ByteArray := prog_3_method_3_code
def yX1_endOf : MethodName := ⟨RX1, "endOf", "(I)I"⟩
abbrev cX1_after : ByteArray := prog_3_method_4_code
def yX1_after : MethodName := ⟨RX1, "after", "(II)I"⟩
abbrev cX1_ahead : ByteArray := prog_3_method_5_code
def yX1_ahead : MethodName := ⟨RX1, "ahead", "(II)I"⟩
abbrev cX1_untilRounds : ByteArray := prog_3_method_6_code
def yX1_untilRounds : MethodName := ⟨RX1, "untilRounds", "(I)I"⟩
def RX2 : String := "BellTouches$Longest"
def TX2 : u_T := fun k => match k with
  | 0 => ("BellTouches$Longest", "ends", "[I", true)
  | _ => ("BellTouches$Longest", "rung", "LBellTouches$RowTable;", true)
def tyX2 : Nat → FieldType := fun k => match k with
  | 0 => .array .int
  | _ => .object "BellTouches$RowTable"
abbrev wsX20 : List Cond := u_ws RX2 TX2 2
theorem nmX2 : ∀ a, a < 2 → ∀ b, b < 2 → a ≠ b → (TX2 a).2.1 ≠ (TX2 b).2.1 := by decide +kernel
theorem tyX2_ok : ∀ k, k < 2 → parseFieldDescriptor (TX2 k).2.2.1 = some (tyX2 k) := by decide +kernel
abbrev cX2_init : ByteArray := prog_4_method_1_code
def yX2_init : MethodName := ⟨RX2, "<init>", "()V"⟩
abbrev cX2_find : ByteArray := prog_4_method_2_code
def yX2_find : MethodName := ⟨RX2, "find", "(LBellTouches$Leads;I)I"⟩
abbrev cX2_depthOf : ByteArray := prog_4_method_3_code
def yX2_depthOf : MethodName := ⟨RX2, "depthOf", "(I)I"⟩
abbrev cX2_letterFromEnd : ByteArray := prog_4_method_4_code
def yX2_letterFromEnd : MethodName := ⟨RX2, "letterFromEnd", "(II)I"⟩
abbrev cX2_growTo : ByteArray := prog_4_method_5_code
def yX2_growTo : MethodName := ⟨RX2, "growTo", "(ILBellTouches$Leads;)V"⟩
abbrev cX2_isTrue : ByteArray := prog_4_method_6_code
def yX2_isTrue : MethodName := ⟨RX2, "isTrue", "(ILBellTouches$Leads;)Z"⟩
abbrev cX2_insideIsNew : ByteArray := prog_4_method_7_code
def yX2_insideIsNew : MethodName := ⟨RX2, "insideIsNew", "(ILBellTouches$Leads;)Z"⟩
abbrev cX2_firstOfDepth : ByteArray := prog_4_method_8_code
def yX2_firstOfDepth : MethodName := ⟨RX2, "firstOfDepth", "(I)I"⟩
abbrev cX2_parentOf : ByteArray := prog_4_method_9_code
def yX2_parentOf : MethodName := ⟨RX2, "parentOf", "(I)I"⟩
abbrev cX2_letterOf : ByteArray := prog_4_method_10_code
def yX2_letterOf : MethodName := ⟨RX2, "letterOf", "(I)I"⟩
def RX3 : String := "BellTouches$Notation"
def TX3 : u_T := fun k => match k with
  | 0 => ("BellTouches$Notation", "many", "I", false)
  | 1 => ("BellTouches$Notation", "asMethod", "Z", false)
  | 2 => ("BellTouches$Notation", "last", "I", false)
  | 3 => ("BellTouches$Notation", "sets", "[I", true)
  | 4 => ("BellTouches$Notation", "setCount", "I", false)
  | _ => ("BellTouches$Notation", "aheadOfComma", "I", false)
def tyX3 : Nat → FieldType := fun k => match k with
  | 0 => .int
  | 1 => .boolean
  | 2 => .int
  | 3 => .array .int
  | 4 => .int
  | _ => .int
abbrev wsX30 : List Cond := u_ws RX3 TX3 6
theorem nmX3 : ∀ a, a < 6 → ∀ b, b < 6 → a ≠ b → (TX3 a).2.1 ≠ (TX3 b).2.1 := by decide +kernel
theorem tyX3_ok : ∀ k, k < 6 → parseFieldDescriptor (TX3 k).2.2.1 = some (tyX3 k) := by decide +kernel
abbrev cX3_init : ByteArray := prog_5_method_1_code
def yX3_init : MethodName := ⟨RX3, "<init>", "()V"⟩
abbrev cX3_read : ByteArray := prog_5_method_2_code
def yX3_read : MethodName := ⟨RX3, "read", "(LBellTouches$Pad;IZ)I"⟩
abbrev cX3_firstChange : ByteArray := prog_5_method_3_code
def yX3_firstChange : MethodName := ⟨RX3, "firstChange", "()I"⟩
abbrev cX3_length : ByteArray := prog_5_method_4_code
def yX3_length : MethodName := ⟨RX3, "length", "()I"⟩
abbrev cX3_writeTo : ByteArray := prog_5_method_5_code
def yX3_writeTo : MethodName := ⟨RX3, "writeTo", "([I)I"⟩
abbrev cX3_writeThereAndBack : ByteArray := prog_5_method_6_code
def yX3_writeThereAndBack : MethodName := ⟨RX3, "writeThereAndBack", "([IIII)I"⟩
abbrev cX3_take : ByteArray := prog_5_method_7_code
def yX3_take : MethodName := ⟨RX3, "take", "(I)Z"⟩
abbrev cX3_takeCross : ByteArray := prog_5_method_8_code
def yX3_takeCross : MethodName := ⟨RX3, "takeCross", "()Z"⟩
abbrev cX3_takePoint : ByteArray := prog_5_method_9_code
def yX3_takePoint : MethodName := ⟨RX3, "takePoint", "()Z"⟩
abbrev cX3_takeComma : ByteArray := prog_5_method_10_code
def yX3_takeComma : MethodName := ⟨RX3, "takeComma", "()Z"⟩
abbrev cX3_takeFigure : ByteArray := prog_5_method_11_code
def yX3_takeFigure : MethodName := ⟨RX3, "takeFigure", "(I)Z"⟩
abbrev cX3_addSet : ByteArray := prog_5_method_12_code
def yX3_addSet : MethodName := ⟨RX3, "addSet", "()Z"⟩
abbrev cX3_changeCanEnd : ByteArray := prog_5_method_13_code
def yX3_changeCanEnd : MethodName := ⟨RX3, "changeCanEnd", "()Z"⟩
def RX4 : String := "BellTouches$Pad"
def TX4 : u_T := fun k => match k with
  | 0 => ("BellTouches$Pad", "signs", "[I", true)
  | _ => ("BellTouches$Pad", "size", "I", false)
def tyX4 : Nat → FieldType := fun k => match k with
  | 0 => .array .int
  | _ => .int
abbrev wsX40 : List Cond := u_ws RX4 TX4 2
theorem nmX4 : ∀ a, a < 2 → ∀ b, b < 2 → a ≠ b → (TX4 a).2.1 ≠ (TX4 b).2.1 := by decide +kernel
theorem tyX4_ok : ∀ k, k < 2 → parseFieldDescriptor (TX4 k).2.2.1 = some (tyX4 k) := by decide +kernel
abbrev cX4_init : ByteArray := prog_6_method_1_code
def yX4_init : MethodName := ⟨RX4, "<init>", "()V"⟩
abbrev cX4_add : ByteArray := prog_6_method_2_code
def yX4_add : MethodName := ⟨RX4, "add", "(I)Z"⟩
abbrev cX4_faultAsTouch : ByteArray := prog_6_method_3_code
def yX4_faultAsTouch : MethodName := ⟨RX4, "faultAsTouch", "()I"⟩
abbrev cX4_writeTouchTo : ByteArray := prog_6_method_4_code
def yX4_writeTouchTo : MethodName := ⟨RX4, "writeTouchTo", "([I)I"⟩
abbrev cX4_kindOf : ByteArray := prog_6_method_5_code
def yX4_kindOf : MethodName := ⟨RX4, "kindOf", "(I)I"⟩
def RX5 : String := "BellTouches$Ringing"
def TX5 : u_T := fun k => match k with
  | 0 => ("BellTouches$Ringing", "rows", "[I", true)
  | 1 => ("BellTouches$Ringing", "last", "I", false)
  | 2 => ("BellTouches$Ringing", "many", "I", false)
  | _ => ("BellTouches$Ringing", "seen", "LBellTouches$RowTable;", true)
def tyX5 : Nat → FieldType := fun k => match k with
  | 0 => .array .int
  | 1 => .int
  | 2 => .int
  | _ => .object "BellTouches$RowTable"
abbrev wsX50 : List Cond := u_ws RX5 TX5 4
theorem nmX5 : ∀ a, a < 4 → ∀ b, b < 4 → a ≠ b → (TX5 a).2.1 ≠ (TX5 b).2.1 := by decide +kernel
theorem tyX5_ok : ∀ k, k < 4 → parseFieldDescriptor (TX5 k).2.2.1 = some (tyX5 k) := by decide +kernel
abbrev cX5_init : ByteArray := prog_7_method_1_code
def yX5_init : MethodName := ⟨RX5, "<init>", "()V"⟩
abbrev cX5_ring : ByteArray := prog_7_method_2_code
def yX5_ring : MethodName := ⟨RX5, "ring", "(LBellTouches$Setting;LBellTouches$Leads;)V"⟩
abbrev cX5_add : ByteArray := prog_7_method_3_code
def yX5_add : MethodName := ⟨RX5, "add", "(I)V"⟩
abbrev cX5_has : ByteArray := prog_7_method_4_code
def yX5_has : MethodName := ⟨RX5, "has", "(I)Z"⟩
abbrev cX5_rowAt : ByteArray := prog_7_method_5_code
def yX5_rowAt : MethodName := ⟨RX5, "rowAt", "(I)I"⟩
abbrev cX5_falseRows : ByteArray := prog_7_method_6_code
def yX5_falseRows : MethodName := ⟨RX5, "falseRows", "()I"⟩
abbrev cX5_firstFalse : ByteArray := prog_7_method_7_code
def yX5_firstFalse : MethodName := ⟨RX5, "firstFalse", "()I"⟩
abbrev cX5_comesRoundAt : ByteArray := prog_7_method_8_code
def yX5_comesRoundAt : MethodName := ⟨RX5, "comesRoundAt", "()I"⟩
abbrev cX5_likedRows : ByteArray := prog_7_method_9_code
def yX5_likedRows : MethodName := ⟨RX5, "likedRows", "()I"⟩
abbrev cX5_placesEverOf : ByteArray := prog_7_method_10_code
def yX5_placesEverOf : MethodName := ⟨RX5, "placesEverOf", "(I)I"⟩
abbrev cX5_timesFirst : ByteArray := prog_7_method_11_code
def yX5_timesFirst : MethodName := ⟨RX5, "timesFirst", "(I)I"⟩
abbrev cX5_longestStay : ByteArray := prog_7_method_12_code
def yX5_longestStay : MethodName := ⟨RX5, "longestStay", "(I)I"⟩
def RX6 : String := "BellTouches$RowTable"
def TX6 : u_T := fun k => match k with
  | 0 => ("BellTouches$RowTable", "slots", "[J", false)
  | 1 => ("BellTouches$RowTable", "bits", "I", false)
  | _ => ("BellTouches$RowTable", "fill", "I", false)
def tyX6 : Nat → FieldType := fun k => match k with
  | 0 => .array .long
  | 1 => .int
  | _ => .int
abbrev wsX60 : List Cond := u_ws RX6 TX6 3
theorem nmX6 : ∀ a, a < 3 → ∀ b, b < 3 → a ≠ b → (TX6 a).2.1 ≠ (TX6 b).2.1 := by decide +kernel
theorem tyX6_ok : ∀ k, k < 3 → parseFieldDescriptor (TX6 k).2.2.1 = some (tyX6 k) := by decide +kernel
abbrev cX6_init : ByteArray := prog_8_method_1_code
def yX6_init : MethodName := ⟨RX6, "<init>", "()V"⟩
abbrev cX6_empty : ByteArray := prog_8_method_2_code
def yX6_empty : MethodName := ⟨RX6, "empty", "(I)V"⟩
abbrev cX6_put : ByteArray := prog_8_method_3_code
def yX6_put : MethodName := ⟨RX6, "put", "(II)Z"⟩
abbrev cX6_tagOf : ByteArray := prog_8_method_4_code
def yX6_tagOf : MethodName := ⟨RX6, "tagOf", "(I)I"⟩
abbrev cX6_isTaken : ByteArray := prog_8_method_5_code
def yX6_isTaken : MethodName := ⟨RX6, "isTaken", "(I)Z"⟩
abbrev cX6_slotOf : ByteArray := prog_8_method_6_code
def yX6_slotOf : MethodName := ⟨RX6, "slotOf", "(I)I"⟩
def RX7 : String := "BellTouches$Rows"
def TX7 : u_T := fun k => match k with
  | _ => ("", "", "", false)
def tyX7 : Nat → FieldType := fun k => match k with
  | _ => .int
abbrev wsX70 : List Cond := u_ws RX7 TX7 0
theorem nmX7 : ∀ a, a < 0 → ∀ b, b < 0 → a ≠ b → (TX7 a).2.1 ≠ (TX7 b).2.1 := by decide +kernel
theorem tyX7_ok : ∀ k, k < 0 → parseFieldDescriptor (TX7 k).2.2.1 = some (tyX7 k) := by decide +kernel
abbrev cX7_rounds : ByteArray := prog_9_method_2_code
def yX7_rounds : MethodName := ⟨RX7, "rounds", "(I)I"⟩
abbrev cX7_howMany : ByteArray := prog_9_method_3_code
def yX7_howMany : MethodName := ⟨RX7, "howMany", "(I)I"⟩
abbrev cX7_bellAt : ByteArray := prog_9_method_4_code
def yX7_bellAt : MethodName := ⟨RX7, "bellAt", "(II)I"⟩
abbrev cX7_placeOf : ByteArray := prog_9_method_5_code
def yX7_placeOf : MethodName := ⟨RX7, "placeOf", "(III)I"⟩
abbrev cX7_number : ByteArray := prog_9_method_6_code
def yX7_number : MethodName := ⟨RX7, "number", "(II)I"⟩
abbrev cX7_ofNumber : ByteArray := prog_9_method_7_code
def yX7_ofNumber : MethodName := ⟨RX7, "ofNumber", "(II)I"⟩
abbrev cX7_step : ByteArray := prog_9_method_8_code
def yX7_step : MethodName := ⟨RX7, "step", "(II)I"⟩
abbrev cX7_stepped : ByteArray := prog_9_method_9_code
def yX7_stepped : MethodName := ⟨RX7, "stepped", "(II)I"⟩
abbrev cX7_through : ByteArray := prog_9_method_10_code
def yX7_through : MethodName := ⟨RX7, "through", "(III)I"⟩
abbrev cX7_back : ByteArray := prog_9_method_11_code
def yX7_back : MethodName := ⟨RX7, "back", "(III)I"⟩
abbrev cX7_liked : ByteArray := prog_9_method_12_code
def yX7_liked : MethodName := ⟨RX7, "liked", "(II)Z"⟩
def RX8 : String := "BellTouches$Search"
def TX8 : u_T := fun k => match k with
  | 0 => ("BellTouches$Search", "found", "LBellTouches$RowTable;", true)
  | 1 => ("BellTouches$Search", "queue", "[I", false)
  | 2 => ("BellTouches$Search", "size", "I", false)
  | 3 => ("BellTouches$Search", "lettersFound", "I", false)
  | _ => ("BellTouches$Search", "reachedCounts", "[I", true)
def tyX8 : Nat → FieldType := fun k => match k with
  | 0 => .object "BellTouches$RowTable"
  | 1 => .array .int
  | 2 => .int
  | 3 => .int
  | _ => .array .int
abbrev wsX80 : List Cond := u_ws RX8 TX8 5
theorem nmX8 : ∀ a, a < 5 → ∀ b, b < 5 → a ≠ b → (TX8 a).2.1 ≠ (TX8 b).2.1 := by decide +kernel
theorem tyX8_ok : ∀ k, k < 5 → parseFieldDescriptor (TX8 k).2.2.1 = some (tyX8 k) := by decide +kernel
abbrev cX8_init : ByteArray := prog_10_method_1_code
def yX8_init : MethodName := ⟨RX8, "<init>", "()V"⟩
abbrev cX8_forget : ByteArray := prog_10_method_2_code
def yX8_forget : MethodName := ⟨RX8, "forget", "()V"⟩
abbrev cX8_rowsReached : ByteArray := prog_10_method_3_code
def yX8_rowsReached : MethodName := ⟨RX8, "rowsReached", "(LBellTouches$Leads;I)I"⟩
abbrev cX8_fewestLeads : ByteArray := prog_10_method_4_code
def yX8_fewestLeads : MethodName := ⟨RX8, "fewestLeads", "(LBellTouches$Leads;I)I"⟩
abbrev cX8_letterFromEnd : ByteArray := prog_10_method_5_code
def yX8_letterFromEnd : MethodName := ⟨RX8, "letterFromEnd", "(LBellTouches$Leads;II)I"⟩
abbrev cX8_find : ByteArray := prog_10_method_6_code
def yX8_find : MethodName := ⟨RX8, "find", "(LBellTouches$Leads;I)V"⟩
abbrev cX8_add : ByteArray := prog_10_method_7_code
def yX8_add : MethodName := ⟨RX8, "add", "(II)V"⟩
def RX9 : String := "BellTouches$Setting"
def TX9 : u_T := fun k => match k with
  | 0 => ("BellTouches$Setting", "many", "I", false)
  | 1 => ("BellTouches$Setting", "changes", "[I", true)
  | 2 => ("BellTouches$Setting", "changeCount", "I", false)
  | 3 => ("BellTouches$Setting", "bob", "I", false)
  | 4 => ("BellTouches$Setting", "single", "I", false)
  | 5 => ("BellTouches$Setting", "letters", "[I", true)
  | _ => ("BellTouches$Setting", "leadCount", "I", false)
def tyX9 : Nat → FieldType := fun k => match k with
  | 0 => .int
  | 1 => .array .int
  | 2 => .int
  | 3 => .int
  | 4 => .int
  | 5 => .array .int
  | _ => .int
abbrev wsX90 : List Cond := u_ws RX9 TX9 7
theorem nmX9 : ∀ a, a < 7 → ∀ b, b < 7 → a ≠ b → (TX9 a).2.1 ≠ (TX9 b).2.1 := by decide +kernel
theorem tyX9_ok : ∀ k, k < 7 → parseFieldDescriptor (TX9 k).2.2.1 = some (tyX9 k) := by decide +kernel
abbrev cX9_init : ByteArray := prog_11_method_1_code
def yX9_init : MethodName := ⟨RX9, "<init>", "()V"⟩
abbrev cX9_begin : ByteArray := prog_11_method_2_code
def yX9_begin : MethodName := ⟨RX9, "begin", "(I)V"⟩
abbrev cX9_copyFrom : ByteArray := prog_11_method_3_code
def yX9_copyFrom : MethodName := ⟨RX9, "copyFrom", "(LBellTouches$Setting;)V"⟩
def RX10 : String := "BellTouches"
def TX10 : u_T := fun k => match k with
  | 0 => ("BellTouches", "now", "LBellTouches$Setting;", true)
  | 1 => ("BellTouches", "firstImage", "LBellTouches$Setting;", true)
  | 2 => ("BellTouches", "secondImage", "LBellTouches$Setting;", true)
  | 3 => ("BellTouches", "imagesKept", "I", false)
  | 4 => ("BellTouches", "pad", "LBellTouches$Pad;", true)
  | 5 => ("BellTouches", "notation", "LBellTouches$Notation;", true)
  | 6 => ("BellTouches", "leads", "LBellTouches$Leads;", true)
  | 7 => ("BellTouches", "ringing", "LBellTouches$Ringing;", true)
  | 8 => ("BellTouches", "falseHeads", "LBellTouches$FalseHeads;", true)
  | 9 => ("BellTouches", "search", "LBellTouches$Search;", true)
  | _ => ("BellTouches", "touches", "LBellTouches$Longest;", true)
def tyX10 : Nat → FieldType := fun k => match k with
  | 0 => .object "BellTouches$Setting"
  | 1 => .object "BellTouches$Setting"
  | 2 => .object "BellTouches$Setting"
  | 3 => .int
  | 4 => .object "BellTouches$Pad"
  | 5 => .object "BellTouches$Notation"
  | 6 => .object "BellTouches$Leads"
  | 7 => .object "BellTouches$Ringing"
  | 8 => .object "BellTouches$FalseHeads"
  | 9 => .object "BellTouches$Search"
  | _ => .object "BellTouches$Longest"
abbrev wsX100 : List Cond := u_ws RX10 TX10 11
theorem nmX10 : ∀ a, a < 11 → ∀ b, b < 11 → a ≠ b → (TX10 a).2.1 ≠ (TX10 b).2.1 := by decide +kernel
theorem tyX10_ok : ∀ k, k < 11 → parseFieldDescriptor (TX10 k).2.2.1 = some (tyX10 k) := by decide +kernel
abbrev cX10_init : ByteArray := prog_1_method_1_code
def yX10_init : MethodName := ⟨RX10, "<init>", "()V"⟩
abbrev cX10_bells : ByteArray := prog_1_method_2_code
def yX10_bells : MethodName := ⟨RX10, "bells", "(I)I"⟩
abbrev cX10_say : ByteArray := prog_1_method_3_code
def yX10_say : MethodName := ⟨RX10, "say", "(I)I"⟩
abbrev cX10_wipe : ByteArray := prog_1_method_4_code
def yX10_wipe : MethodName := ⟨RX10, "wipe", "()I"⟩
abbrev cX10_fault : ByteArray := prog_1_method_5_code
def yX10_fault : MethodName := ⟨RX10, "fault", "(I)I"⟩
abbrev cX10_method : ByteArray := prog_1_method_6_code
def yX10_method : MethodName := ⟨RX10, "method", "()I"⟩
abbrev cX10_call : ByteArray := prog_1_method_7_code
def yX10_call : MethodName := ⟨RX10, "call", "(I)I"⟩
abbrev cX10_touch : ByteArray := prog_1_method_8_code
def yX10_touch : MethodName := ⟨RX10, "touch", "()I"⟩
abbrev cX10_change : ByteArray := prog_1_method_9_code
def yX10_change : MethodName := ⟨RX10, "change", "(I)I"⟩
abbrev cX10_row : ByteArray := prog_1_method_10_code
def yX10_row : MethodName := ⟨RX10, "row", "(I)I"⟩
abbrev cX10_told : ByteArray := prog_1_method_11_code
def yX10_told : MethodName := ⟨RX10, "told", "(I)I"⟩
abbrev cX10_bell : ByteArray := prog_1_method_12_code
def yX10_bell : MethodName := ⟨RX10, "bell", "(III)I"⟩
abbrev cX10_head : ByteArray := prog_1_method_13_code
def yX10_head : MethodName := ⟨RX10, "head", "(II)I"⟩
abbrev cX10_falseHead : ByteArray := prog_1_method_14_code
def yX10_falseHead : MethodName := ⟨RX10, "falseHead", "(I)I"⟩
abbrev cX10_reached : ByteArray := prog_1_method_15_code
def yX10_reached : MethodName := ⟨RX10, "reached", "(I)I"⟩
abbrev cX10_by : ByteArray := prog_1_method_16_code
def yX10_by : MethodName := ⟨RX10, "by", "(II)I"⟩
abbrev cX10_longest : ByteArray := prog_1_method_17_code
def yX10_longest : MethodName := ⟨RX10, "longest", "(II)I"⟩
abbrev cX10_image : ByteArray := prog_1_method_18_code
def yX10_image : MethodName := ⟨RX10, "image", "(I)I"⟩
abbrev cX10_restore : ByteArray := prog_1_method_19_code
def yX10_restore : MethodName := ⟨RX10, "restore", "(I)I"⟩
abbrev cX10_count : ByteArray := prog_1_method_20_code
def yX10_count : MethodName := ⟨RX10, "count", "(I)I"⟩
abbrev cX10_hasMethod : ByteArray := prog_1_method_21_code
def yX10_hasMethod : MethodName := ⟨RX10, "hasMethod", "()Z"⟩
abbrev cX10_hasMethodAndTouch : ByteArray := prog_1_method_22_code
def yX10_hasMethodAndTouch : MethodName := ⟨RX10, "hasMethodAndTouch", "()Z"⟩
abbrev cX10_imageOf : ByteArray := prog_1_method_23_code
def yX10_imageOf : MethodName := ⟨RX10, "imageOf", "(I)LBellTouches$Setting;"⟩
abbrev cX10_settle : ByteArray := prog_1_method_24_code
def yX10_settle : MethodName := ⟨RX10, "settle", "()V"⟩
def RX11 : String := "BellTouchesModel"
def TX11 : u_T := fun k => match k with
  | 0 => ("BellTouchesModel", "state", "[I", true)
  | 1 => ("BellTouchesModel", "images", "[I", true)
  | 2 => ("BellTouchesModel", "isKept", "[Z", true)
  | 3 => ("BellTouchesModel", "pad", "[I", true)
  | 4 => ("BellTouchesModel", "said", "I", false)
  | 5 => ("BellTouchesModel", "read", "[I", true)
  | 6 => ("BellTouchesModel", "reads", "I", false)
  | 7 => ("BellTouchesModel", "firsts", "I", false)
  | 8 => ("BellTouchesModel", "last", "I", false)
  | 9 => ("BellTouchesModel", "isOpen", "Z", false)
  | 10 => ("BellTouchesModel", "isBehindPoint", "Z", false)
  | 11 => ("BellTouchesModel", "place", "I", false)
  | 12 => ("BellTouchesModel", "row", "[I", true)
  | 13 => ("BellTouchesModel", "isUsed", "[Z", true)
  | 14 => ("BellTouchesModel", "rows", "[I", true)
  | 15 => ("BellTouchesModel", "rowMany", "I", false)
  | 16 => ("BellTouchesModel", "met", "[I", true)
  | 17 => ("BellTouchesModel", "search", "I", false)
  | 18 => ("BellTouchesModel", "wave", "[I", true)
  | 19 => ("BellTouchesModel", "waved", "I", false)
  | 20 => ("BellTouchesModel", "one", "[I", true)
  | 21 => ("BellTouchesModel", "wrapped", "[I", true)
  | 22 => ("BellTouchesModel", "cameFrom", "[I", true)
  | 23 => ("BellTouchesModel", "cameBy", "[I", true)
  | _ => ("BellTouchesModel", "deep", "[I", true)
def tyX11 : Nat → FieldType := fun k => match k with
  | 0 => .array .int
  | 1 => .array .int
  | 2 => .array .boolean
  | 3 => .array .int
  | 4 => .int
  | 5 => .array .int
  | 6 => .int
  | 7 => .int
  | 8 => .int
  | 9 => .boolean
  | 10 => .boolean
  | 11 => .int
  | 12 => .array .int
  | 13 => .array .boolean
  | 14 => .array .int
  | 15 => .int
  | 16 => .array .int
  | 17 => .int
  | 18 => .array .int
  | 19 => .int
  | 20 => .array .int
  | 21 => .array .int
  | 22 => .array .int
  | 23 => .array .int
  | _ => .array .int
abbrev wsX110 : List Cond := u_ws RX11 TX11 25
theorem nmX11 : ∀ a, a < 25 → ∀ b, b < 25 → a ≠ b → (TX11 a).2.1 ≠ (TX11 b).2.1 := by decide +kernel
theorem tyX11_ok : ∀ k, k < 25 → parseFieldDescriptor (TX11 k).2.2.1 = some (tyX11 k) := by decide +kernel
abbrev cX11_init : ByteArray := prog_13_method_1_code
def yX11_init : MethodName := ⟨RX11, "<init>", "()V"⟩
abbrev cX11_in : ByteArray := prog_13_method_2_code
def yX11_in : MethodName := ⟨RX11, "in", "(III)Z"⟩
abbrev cX11_many : ByteArray := prog_13_method_3_code
def yX11_many : MethodName := ⟨RX11, "many", "()I"⟩
abbrev cX11_lay : ByteArray := prog_13_method_4_code
def yX11_lay : MethodName := ⟨RX11, "lay", "(I)V"⟩
abbrev cX11_bells : ByteArray := prog_13_method_5_code
def yX11_bells : MethodName := ⟨RX11, "bells", "(I)I"⟩
abbrev cX11_say : ByteArray := prog_13_method_6_code
def yX11_say : MethodName := ⟨RX11, "say", "(I)I"⟩
abbrev cX11_wipe : ByteArray := prog_13_method_7_code
def yX11_wipe : MethodName := ⟨RX11, "wipe", "()I"⟩
abbrev cX11_begin : ByteArray := prog_13_method_8_code
def yX11_begin : MethodName := ⟨RX11, "begin", "()V"⟩
abbrev cX11_canStay : ByteArray := prog_13_method_9_code
def yX11_canStay : MethodName := ⟨RX11, "canStay", "(I)Z"⟩
abbrev cX11_isWhole : ByteArray := prog_13_method_10_code
def yX11_isWhole : MethodName := ⟨RX11, "isWhole", "()Z"⟩
abbrev cX11_addChange : ByteArray := prog_13_method_11_code
def yX11_addChange : MethodName := ⟨RX11, "addChange", "(I)V"⟩
abbrev cX11_readFigure : ByteArray := prog_13_method_12_code
def yX11_readFigure : MethodName := ⟨RX11, "readFigure", "(I)Z"⟩
abbrev cX11_close : ByteArray := prog_13_method_13_code
def yX11_close : MethodName := ⟨RX11, "close", "()V"⟩
abbrev cX11_mayEnd : ByteArray := prog_13_method_14_code
def yX11_mayEnd : MethodName := ⟨RX11, "mayEnd", "()Z"⟩
abbrev cX11_readCross : ByteArray := prog_13_method_15_code
def yX11_readCross : MethodName := ⟨RX11, "readCross", "()Z"⟩
abbrev cX11_readPoint : ByteArray := prog_13_method_16_code
def yX11_readPoint : MethodName := ⟨RX11, "readPoint", "()Z"⟩
abbrev cX11_readComma : ByteArray := prog_13_method_17_code
def yX11_readComma : MethodName := ⟨RX11, "readComma", "()Z"⟩
abbrev cX11_readSign : ByteArray := prog_13_method_18_code
def yX11_readSign : MethodName := ⟨RX11, "readSign", "(I)Z"⟩
abbrev cX11_methodFault : ByteArray := prog_13_method_19_code
def yX11_methodFault : MethodName := ⟨RX11, "methodFault", "()I"⟩
abbrev cX11_changeFault : ByteArray := prog_13_method_20_code
def yX11_changeFault : MethodName := ⟨RX11, "changeFault", "()I"⟩
abbrev cX11_letterOf : ByteArray := prog_13_method_21_code
def yX11_letterOf : MethodName := ⟨RX11, "letterOf", "(I)I"⟩
abbrev cX11_touchFault : ByteArray := prog_13_method_22_code
def yX11_touchFault : MethodName := ⟨RX11, "touchFault", "()I"⟩
abbrev cX11_fault : ByteArray := prog_13_method_23_code
def yX11_fault : MethodName := ⟨RX11, "fault", "(I)I"⟩
abbrev cX11_putThere : ByteArray := prog_13_method_24_code
def yX11_putThere : MethodName := ⟨RX11, "putThere", "(II)V"⟩
abbrev cX11_method : ByteArray := prog_13_method_25_code
def yX11_method : MethodName := ⟨RX11, "method", "()I"⟩
abbrev cX11_size : ByteArray := prog_13_method_26_code
def yX11_size : MethodName := ⟨RX11, "size", "(I)I"⟩
abbrev cX11_call : ByteArray := prog_13_method_27_code
def yX11_call : MethodName := ⟨RX11, "call", "(I)I"⟩
abbrev cX11_touch : ByteArray := prog_13_method_28_code
def yX11_touch : MethodName := ⟨RX11, "touch", "()I"⟩
abbrev cX11_change : ByteArray := prog_13_method_29_code
def yX11_change : MethodName := ⟨RX11, "change", "(I)I"⟩
abbrev cX11_layRounds : ByteArray := prog_13_method_30_code
def yX11_layRounds : MethodName := ⟨RX11, "layRounds", "()V"⟩
abbrev cX11_ring : ByteArray := prog_13_method_31_code
def yX11_ring : MethodName := ⟨RX11, "ring", "(I)V"⟩
abbrev cX11_changeOf : ByteArray := prog_13_method_32_code
def yX11_changeOf : MethodName := ⟨RX11, "changeOf", "(II)I"⟩
abbrev cX11_number : ByteArray := prog_13_method_33_code
def yX11_number : MethodName := ⟨RX11, "number", "()I"⟩
abbrev cX11_rank : ByteArray := prog_13_method_34_code
def yX11_rank : MethodName := ⟨RX11, "rank", "()I"⟩
abbrev cX11_layRank : ByteArray := prog_13_method_35_code
def yX11_layRank : MethodName := ⟨RX11, "layRank", "(I)V"⟩
abbrev cX11_isLiked : ByteArray := prog_13_method_36_code
def yX11_isLiked : MethodName := ⟨RX11, "isLiked", "()Z"⟩
abbrev cX11_layTouch : ByteArray := prog_13_method_37_code
def yX11_layTouch : MethodName := ⟨RX11, "layTouch", "()V"⟩
abbrev cX11_isReady : ByteArray := prog_13_method_38_code
def yX11_isReady : MethodName := ⟨RX11, "isReady", "()Z"⟩
abbrev cX11_row : ByteArray := prog_13_method_39_code
def yX11_row : MethodName := ⟨RX11, "row", "(I)I"⟩
abbrev cX11_isFalse : ByteArray := prog_13_method_40_code
def yX11_isFalse : MethodName := ⟨RX11, "isFalse", "(I)Z"⟩
abbrev cX11_falseMany : ByteArray := prog_13_method_41_code
def yX11_falseMany : MethodName := ⟨RX11, "falseMany", "()I"⟩
abbrev cX11_firstFalse : ByteArray := prog_13_method_42_code
def yX11_firstFalse : MethodName := ⟨RX11, "firstFalse", "()I"⟩
abbrev cX11_comesRound : ByteArray := prog_13_method_43_code
def yX11_comesRound : MethodName := ⟨RX11, "comesRound", "()I"⟩
abbrev cX11_likedMany : ByteArray := prog_13_method_44_code
def yX11_likedMany : MethodName := ⟨RX11, "likedMany", "()I"⟩
abbrev cX11_told : ByteArray := prog_13_method_45_code
def yX11_told : MethodName := ⟨RX11, "told", "(I)I"⟩
abbrev cX11_placeIn : ByteArray := prog_13_method_46_code
def yX11_placeIn : MethodName := ⟨RX11, "placeIn", "(II)I"⟩
abbrev cX11_goesWhere : ByteArray := prog_13_method_47_code
def yX11_goesWhere : MethodName := ⟨RX11, "goesWhere", "(II)I"⟩
abbrev cX11_bell : ByteArray := prog_13_method_48_code
def yX11_bell : MethodName := ⟨RX11, "bell", "(III)I"⟩
abbrev cX11_ringLead : ByteArray := prog_13_method_49_code
def yX11_ringLead : MethodName := ⟨RX11, "ringLead", "(I)V"⟩
abbrev cX11_orderOf : ByteArray := prog_13_method_50_code
def yX11_orderOf : MethodName := ⟨RX11, "orderOf", "(I)I"⟩
abbrev cX11_head : ByteArray := prog_13_method_51_code
def yX11_head : MethodName := ⟨RX11, "head", "(II)I"⟩
abbrev cX11_beginSearch : ByteArray := prog_13_method_52_code
def yX11_beginSearch : MethodName := ⟨RX11, "beginSearch", "()V"⟩
abbrev cX11_meet : ByteArray := prog_13_method_53_code
def yX11_meet : MethodName := ⟨RX11, "meet", "(I)Z"⟩
abbrev cX11_layPlain : ByteArray := prog_13_method_54_code
def yX11_layPlain : MethodName := ⟨RX11, "layPlain", "()V"⟩
abbrev cX11_layHead : ByteArray := prog_13_method_55_code
def yX11_layHead : MethodName := ⟨RX11, "layHead", "(II)V"⟩
abbrev cX11_layFalseHeads : ByteArray := prog_13_method_56_code
def yX11_layFalseHeads : MethodName := ⟨RX11, "layFalseHeads", "()V"⟩
abbrev cX11_falseHead : ByteArray := prog_13_method_57_code
def yX11_falseHead : MethodName := ⟨RX11, "falseHead", "(I)I"⟩
abbrev cX11_goOn : ByteArray := prog_13_method_58_code
def yX11_goOn : MethodName := ⟨RX11, "goOn", "(II)V"⟩
abbrev cX11_layReached : ByteArray := prog_13_method_59_code
def yX11_layReached : MethodName := ⟨RX11, "layReached", "(I)V"⟩
abbrev cX11_reached : ByteArray := prog_13_method_60_code
def yX11_reached : MethodName := ⟨RX11, "reached", "(I)I"⟩
abbrev cX11_layNumber : ByteArray := prog_13_method_61_code
def yX11_layNumber : MethodName := ⟨RX11, "layNumber", "(I)Z"⟩
abbrev cX11_by : ByteArray := prog_13_method_62_code
def yX11_by : MethodName := ⟨RX11, "by", "(II)I"⟩
abbrev cX11_letterIn : ByteArray := prog_13_method_63_code
def yX11_letterIn : MethodName := ⟨RX11, "letterIn", "(III)I"⟩
abbrev cX11_isGood : ByteArray := prog_13_method_64_code
def yX11_isGood : MethodName := ⟨RX11, "isGood", "(II)Z"⟩
abbrev cX11_firstGood : ByteArray := prog_13_method_65_code
def yX11_firstGood : MethodName := ⟨RX11, "firstGood", "(I)I"⟩
abbrev cX11_longest : ByteArray := prog_13_method_66_code
def yX11_longest : MethodName := ⟨RX11, "longest", "(II)I"⟩
abbrev cX11_image : ByteArray := prog_13_method_67_code
def yX11_image : MethodName := ⟨RX11, "image", "(I)I"⟩
abbrev cX11_restore : ByteArray := prog_13_method_68_code
def yX11_restore : MethodName := ⟨RX11, "restore", "(I)I"⟩
abbrev cX11_count : ByteArray := prog_13_method_69_code
def yX11_count : MethodName := ⟨RX11, "count", "(I)I"⟩
def RJ6 : String := "java/lang/Integer"
def TJ6 : u_T := fun k => match k with
  | _ => ("", "", "", false)
def tyJ6 : Nat → FieldType := fun k => match k with
  | _ => .int
abbrev wsJ60 : List Cond := u_ws RJ6 TJ6 0
theorem nmJ6 : ∀ a, a < 0 → ∀ b, b < 0 → a ≠ b → (TJ6 a).2.1 ≠ (TJ6 b).2.1 := by decide +kernel
theorem tyJ6_ok : ∀ k, k < 0 → parseFieldDescriptor (TJ6 k).2.2.1 = some (tyJ6 k) := by decide +kernel
abbrev cJ6_bitCount_0f7a4 : ByteArray := prog_14_method_49_code
def yJ6_bitCount_0f7a4 : MethodName := ⟨RJ6, "bitCount", "(I)I"⟩
def RJ9 : String := "java/lang/Math"
def TJ9 : u_T := fun k => match k with
  | _ => ("", "", "", false)
def tyJ9 : Nat → FieldType := fun k => match k with
  | _ => .int
abbrev wsJ90 : List Cond := u_ws RJ9 TJ9 0
theorem nmJ9 : ∀ a, a < 0 → ∀ b, b < 0 → a ≠ b → (TJ9 a).2.1 ≠ (TJ9 b).2.1 := by decide +kernel
theorem tyJ9_ok : ∀ k, k < 0 → parseFieldDescriptor (TJ9 k).2.2.1 = some (tyJ9 k) := by decide +kernel
abbrev cJ9_max_7cf53 : ByteArray := prog_15_method_65_code
def yJ9_max_7cf53 : MethodName := ⟨RJ9, "max", "(II)I"⟩
abbrev cJ9_min_7cf53 : ByteArray := prog_15_method_69_code
def yJ9_min_7cf53 : MethodName := ⟨RJ9, "min", "(II)I"⟩
def RJ10 : String := "java/lang/System"
def TJ10 : u_T := fun k => match k with
  | _ => ("", "", "", false)
def tyJ10 : Nat → FieldType := fun k => match k with
  | _ => .int
abbrev wsJ100 : List Cond := u_ws RJ10 TJ10 0
theorem nmJ10 : ∀ a, a < 0 → ∀ b, b < 0 → a ≠ b → (TJ10 a).2.1 ≠ (TJ10 b).2.1 := by decide +kernel
theorem tyJ10_ok : ∀ k, k < 0 → parseFieldDescriptor (TJ10 k).2.2.1 = some (tyJ10 k) := by decide +kernel
def RL : String := "BellTouchesLaw"
abbrev cL_law : ByteArray := code
def yL_law : MethodName := ⟨RL, "law", "([I)Z"⟩
abbrev vwCl : List vw_C := [(RX0, TX0, 4), (RX1, TX1, 8), (RX2, TX2, 2), (RX3, TX3, 6), (RX4, TX4, 2), (RX5, TX5, 4), (RX6, TX6, 3), (RX8, TX8, 5), (RX9, TX9, 7), (RX10, TX10, 11), (RX11, TX11, 25)]
theorem mem_r {big : List Cond} (ws : List Cond) (ps : List Nat) (hp : ws = ps.filterMap (fun i => big[i]?)) : ∀ w ∈ ws, w ∈ big := by
  intro w hw
  rw [hp] at hw
  obtain ⟨i, -, hi⟩ := List.mem_filterMap.mp hw
  exact List.mem_of_getElem? hi
theorem inX0 : ∀ w ∈ wsX00, w ∈ lw_tbl := mem_r _ [271, 273, 275, 277] (by decide +kernel)
theorem inX1 : ∀ w ∈ wsX10, w ∈ lw_tbl := mem_r _ [206, 208, 210, 212, 214, 216, 218, 220] (by decide +kernel)
theorem inX2 : ∀ w ∈ wsX20, w ∈ lw_tbl := mem_r _ [314, 316] (by decide +kernel)
theorem inX3 : ∀ w ∈ wsX30, w ∈ lw_tbl := mem_r _ [164, 166, 168, 170, 172, 174] (by decide +kernel)
theorem inX4 : ∀ w ∈ wsX40, w ∈ lw_tbl := mem_r _ [147, 149] (by decide +kernel)
theorem inX5 : ∀ w ∈ wsX50, w ∈ lw_tbl := mem_r _ [251, 253, 255, 257] (by decide +kernel)
theorem inX6 : ∀ w ∈ wsX60, w ∈ lw_tbl := mem_r _ [238, 240, 242] (by decide +kernel)
theorem inX8 : ∀ w ∈ wsX80, w ∈ lw_tbl := mem_r _ [293, 295, 297, 299, 301] (by decide +kernel)
theorem inX9 : ∀ w ∈ wsX90, w ∈ lw_tbl := mem_r _ [120, 122, 124, 126, 128, 130, 132] (by decide +kernel)
theorem inX10 : ∀ w ∈ wsX100, w ∈ lw_tbl := mem_r _ [372, 374, 376, 378, 380, 382, 384, 386, 388, 390, 392] (by decide +kernel)
theorem inX11 : ∀ w ∈ wsX110, w ∈ lw_tbl := mem_r _ [794, 796, 798, 800, 802, 804, 806, 808, 810, 812, 814, 816, 818, 820, 822, 824, 826, 828, 830, 832, 834, 836, 838, 840, 842] (by decide +kernel)
def nestW : Cond → Bool
  | .fieldLinkNest .. => true
  | .methodLinkNest .. => true
  | _ => false
def gtb : List Cond := lw_tbl.filter goodWord
def ntb : List Cond := lw_tbl.filter nestW
theorem gtb_in {w : Cond} (i : Nat) (h : lw_tbl[i]? = some w) (hg : goodWord w = true) : w ∈ gtb := List.mem_filter.mpr ⟨List.mem_of_getElem? h, hg⟩
theorem ntb_in {w : Cond} (i : Nat) (h : lw_tbl[i]? = some w) (hg : nestW w = true) : w ∈ ntb := List.mem_filter.mpr ⟨List.mem_of_getElem? h, hg⟩
