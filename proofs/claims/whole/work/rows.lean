section
-- ===== PART A: goes FIRST, ahead of the names: the tables' words, and 'selects' of the private methods out of them =====
/-- a private method of a class that the tables say can be made, by its rows of tables_1 -/
def lw_okq (q : MethodName × Nat) : Prop := (q.1.cls ≠ "java/lang/invoke/MethodHandle" ∧ q.1.cls ≠ "java/lang/invoke/VarHandle") ∧ Cond.instantiable q.1.cls q.2 ∈ tables_1 ∧ Cond.privateMethod q.1 ∈ tables_1 ∧ Cond.instanceMethod q.1 ∈ tables_1
theorem lw_p0 : lw_okq (⟨"BellTouches", "settle", "()V"⟩, 11) := ⟨⟨by decide +kernel, by decide +kernel⟩, List.mem_of_getElem? (i := 17) (by decide +kernel), List.mem_of_getElem? (i := 255) (by decide +kernel), List.mem_of_getElem? (i := 256) (by decide +kernel)⟩
theorem lw_p1 : lw_okq (⟨"BellTouches$Ringing", "add", "(I)V"⟩, 4) := ⟨⟨by decide +kernel, by decide +kernel⟩, List.mem_of_getElem? (i := 155) (by decide +kernel), List.mem_of_getElem? (i := 276) (by decide +kernel), List.mem_of_getElem? (i := 277) (by decide +kernel)⟩
theorem lw_p2 : lw_okq (⟨"BellTouches$Notation", "take", "(I)Z"⟩, 6) := ⟨⟨by decide +kernel, by decide +kernel⟩, List.mem_of_getElem? (i := 84) (by decide +kernel), List.mem_of_getElem? (i := 351) (by decide +kernel), List.mem_of_getElem? (i := 352) (by decide +kernel)⟩
theorem lw_p3 : lw_okq (⟨"BellTouches$Notation", "takeCross", "()Z"⟩, 6) := ⟨⟨by decide +kernel, by decide +kernel⟩, List.mem_of_getElem? (i := 84) (by decide +kernel), List.mem_of_getElem? (i := 355) (by decide +kernel), List.mem_of_getElem? (i := 356) (by decide +kernel)⟩
theorem lw_p4 : lw_okq (⟨"BellTouches$Notation", "changeCanEnd", "()Z"⟩, 6) := ⟨⟨by decide +kernel, by decide +kernel⟩, List.mem_of_getElem? (i := 84) (by decide +kernel), List.mem_of_getElem? (i := 359) (by decide +kernel), List.mem_of_getElem? (i := 360) (by decide +kernel)⟩
theorem lw_p5 : lw_okq (⟨"BellTouches$Notation", "addSet", "()Z"⟩, 6) := ⟨⟨by decide +kernel, by decide +kernel⟩, List.mem_of_getElem? (i := 84) (by decide +kernel), List.mem_of_getElem? (i := 363) (by decide +kernel), List.mem_of_getElem? (i := 364) (by decide +kernel)⟩
theorem lw_p6 : lw_okq (⟨"BellTouches$Notation", "takePoint", "()Z"⟩, 6) := ⟨⟨by decide +kernel, by decide +kernel⟩, List.mem_of_getElem? (i := 84) (by decide +kernel), List.mem_of_getElem? (i := 367) (by decide +kernel), List.mem_of_getElem? (i := 368) (by decide +kernel)⟩
theorem lw_p7 : lw_okq (⟨"BellTouches$Notation", "takeComma", "()Z"⟩, 6) := ⟨⟨by decide +kernel, by decide +kernel⟩, List.mem_of_getElem? (i := 84) (by decide +kernel), List.mem_of_getElem? (i := 371) (by decide +kernel), List.mem_of_getElem? (i := 372) (by decide +kernel)⟩
theorem lw_p8 : lw_okq (⟨"BellTouches$Notation", "takeFigure", "(I)Z"⟩, 6) := ⟨⟨by decide +kernel, by decide +kernel⟩, List.mem_of_getElem? (i := 84) (by decide +kernel), List.mem_of_getElem? (i := 375) (by decide +kernel), List.mem_of_getElem? (i := 376) (by decide +kernel)⟩
theorem lw_p9 : lw_okq (⟨"BellTouches$Notation", "writeThereAndBack", "([IIII)I"⟩, 6) := ⟨⟨by decide +kernel, by decide +kernel⟩, List.mem_of_getElem? (i := 84) (by decide +kernel), List.mem_of_getElem? (i := 405) (by decide +kernel), List.mem_of_getElem? (i := 406) (by decide +kernel)⟩
theorem lw_p10 : lw_okq (⟨"BellTouches", "hasMethodAndTouch", "()Z"⟩, 11) := ⟨⟨by decide +kernel, by decide +kernel⟩, List.mem_of_getElem? (i := 17) (by decide +kernel), List.mem_of_getElem? (i := 442) (by decide +kernel), List.mem_of_getElem? (i := 443) (by decide +kernel)⟩
theorem lw_p11 : lw_okq (⟨"BellTouches$RowTable", "slotOf", "(I)I"⟩, 3) := ⟨⟨by decide +kernel, by decide +kernel⟩, List.mem_of_getElem? (i := 161) (by decide +kernel), List.mem_of_getElem? (i := 477) (by decide +kernel), List.mem_of_getElem? (i := 478) (by decide +kernel)⟩
theorem lw_p12 : lw_okq (⟨"BellTouches$RowTable", "isTaken", "(I)Z"⟩, 3) := ⟨⟨by decide +kernel, by decide +kernel⟩, List.mem_of_getElem? (i := 161) (by decide +kernel), List.mem_of_getElem? (i := 483) (by decide +kernel), List.mem_of_getElem? (i := 484) (by decide +kernel)⟩
theorem lw_p13 : lw_okq (⟨"BellTouches", "hasMethod", "()Z"⟩, 11) := ⟨⟨by decide +kernel, by decide +kernel⟩, List.mem_of_getElem? (i := 17) (by decide +kernel), List.mem_of_getElem? (i := 529) (by decide +kernel), List.mem_of_getElem? (i := 530) (by decide +kernel)⟩
theorem lw_p14 : lw_okq (⟨"BellTouches$FalseHeads", "ringPlainRows", "(LBellTouches$Leads;)V"⟩, 4) := ⟨⟨by decide +kernel, by decide +kernel⟩, List.mem_of_getElem? (i := 192) (by decide +kernel), List.mem_of_getElem? (i := 557) (by decide +kernel), List.mem_of_getElem? (i := 558) (by decide +kernel)⟩
theorem lw_p15 : lw_okq (⟨"BellTouches$FalseHeads", "keep", "(I)V"⟩, 4) := ⟨⟨by decide +kernel, by decide +kernel⟩, List.mem_of_getElem? (i := 192) (by decide +kernel), List.mem_of_getElem? (i := 567) (by decide +kernel), List.mem_of_getElem? (i := 568) (by decide +kernel)⟩
def lw_privs_1 : List (MethodName × Nat) := [(⟨"BellTouches", "settle", "()V"⟩, 11), (⟨"BellTouches$Ringing", "add", "(I)V"⟩, 4), (⟨"BellTouches$Notation", "take", "(I)Z"⟩, 6), (⟨"BellTouches$Notation", "takeCross", "()Z"⟩, 6), (⟨"BellTouches$Notation", "changeCanEnd", "()Z"⟩, 6), (⟨"BellTouches$Notation", "addSet", "()Z"⟩, 6), (⟨"BellTouches$Notation", "takePoint", "()Z"⟩, 6), (⟨"BellTouches$Notation", "takeComma", "()Z"⟩, 6), (⟨"BellTouches$Notation", "takeFigure", "(I)Z"⟩, 6), (⟨"BellTouches$Notation", "writeThereAndBack", "([IIII)I"⟩, 6), (⟨"BellTouches", "hasMethodAndTouch", "()Z"⟩, 11), (⟨"BellTouches$RowTable", "slotOf", "(I)I"⟩, 3), (⟨"BellTouches$RowTable", "isTaken", "(I)Z"⟩, 3), (⟨"BellTouches", "hasMethod", "()Z"⟩, 11), (⟨"BellTouches$FalseHeads", "ringPlainRows", "(LBellTouches$Leads;)V"⟩, 4), (⟨"BellTouches$FalseHeads", "keep", "(I)V"⟩, 4)]
theorem lw_r1 : ∀ q ∈ lw_privs_1, lw_okq q := List.forall_mem_cons.mpr ⟨lw_p0, List.forall_mem_cons.mpr ⟨lw_p1, List.forall_mem_cons.mpr ⟨lw_p2, List.forall_mem_cons.mpr ⟨lw_p3, List.forall_mem_cons.mpr ⟨lw_p4, List.forall_mem_cons.mpr ⟨lw_p5, List.forall_mem_cons.mpr ⟨lw_p6, List.forall_mem_cons.mpr ⟨lw_p7, List.forall_mem_cons.mpr ⟨lw_p8, List.forall_mem_cons.mpr ⟨lw_p9, List.forall_mem_cons.mpr ⟨lw_p10, List.forall_mem_cons.mpr ⟨lw_p11, List.forall_mem_cons.mpr ⟨lw_p12, List.forall_mem_cons.mpr ⟨lw_p13, List.forall_mem_cons.mpr ⟨lw_p14, List.forall_mem_cons.mpr ⟨lw_p15, fun _ h => absurd h List.not_mem_nil⟩⟩⟩⟩⟩⟩⟩⟩⟩⟩⟩⟩⟩⟩⟩⟩
theorem lw_p16 : lw_okq (⟨"BellTouches$FalseHeads", "firstNotBelow", "(I)I"⟩, 4) := ⟨⟨by decide +kernel, by decide +kernel⟩, List.mem_of_getElem? (i := 192) (by decide +kernel), List.mem_of_getElem? (i := 571) (by decide +kernel), List.mem_of_getElem? (i := 572) (by decide +kernel)⟩
theorem lw_p17 : lw_okq (⟨"BellTouches$Search", "find", "(LBellTouches$Leads;I)V"⟩, 5) := ⟨⟨by decide +kernel, by decide +kernel⟩, List.mem_of_getElem? (i := 212) (by decide +kernel), List.mem_of_getElem? (i := 588) (by decide +kernel), List.mem_of_getElem? (i := 589) (by decide +kernel)⟩
theorem lw_p18 : lw_okq (⟨"BellTouches$Search", "add", "(II)V"⟩, 5) := ⟨⟨by decide +kernel, by decide +kernel⟩, List.mem_of_getElem? (i := 212) (by decide +kernel), List.mem_of_getElem? (i := 594) (by decide +kernel), List.mem_of_getElem? (i := 595) (by decide +kernel)⟩
theorem lw_p19 : lw_okq (⟨"BellTouches$Longest", "growTo", "(ILBellTouches$Leads;)V"⟩, 2) := ⟨⟨by decide +kernel, by decide +kernel⟩, List.mem_of_getElem? (i := 236) (by decide +kernel), List.mem_of_getElem? (i := 638) (by decide +kernel), List.mem_of_getElem? (i := 639) (by decide +kernel)⟩
theorem lw_p20 : lw_okq (⟨"BellTouches$Longest", "isTrue", "(ILBellTouches$Leads;)Z"⟩, 2) := ⟨⟨by decide +kernel, by decide +kernel⟩, List.mem_of_getElem? (i := 236) (by decide +kernel), List.mem_of_getElem? (i := 649) (by decide +kernel), List.mem_of_getElem? (i := 650) (by decide +kernel)⟩
theorem lw_p21 : lw_okq (⟨"BellTouches$Longest", "insideIsNew", "(ILBellTouches$Leads;)Z"⟩, 2) := ⟨⟨by decide +kernel, by decide +kernel⟩, List.mem_of_getElem? (i := 236) (by decide +kernel), List.mem_of_getElem? (i := 659) (by decide +kernel), List.mem_of_getElem? (i := 660) (by decide +kernel)⟩
theorem lw_p22 : lw_okq (⟨"BellTouches", "imageOf", "(I)LBellTouches$Setting;"⟩, 11) := ⟨⟨by decide +kernel, by decide +kernel⟩, List.mem_of_getElem? (i := 17) (by decide +kernel), List.mem_of_getElem? (i := 673) (by decide +kernel), List.mem_of_getElem? (i := 674) (by decide +kernel)⟩
theorem lw_p23 : lw_okq (⟨"BellTouchesModel", "lay", "(I)V"⟩, 25) := ⟨⟨by decide +kernel, by decide +kernel⟩, List.mem_of_getElem? (i := 690) (by decide +kernel), List.mem_of_getElem? (i := 697) (by decide +kernel), List.mem_of_getElem? (i := 698) (by decide +kernel)⟩
theorem lw_p24 : lw_okq (⟨"BellTouchesModel", "many", "()I"⟩, 25) := ⟨⟨by decide +kernel, by decide +kernel⟩, List.mem_of_getElem? (i := 690) (by decide +kernel), List.mem_of_getElem? (i := 785) (by decide +kernel), List.mem_of_getElem? (i := 786) (by decide +kernel)⟩
theorem lw_p25 : lw_okq (⟨"BellTouchesModel", "methodFault", "()I"⟩, 25) := ⟨⟨by decide +kernel, by decide +kernel⟩, List.mem_of_getElem? (i := 690) (by decide +kernel), List.mem_of_getElem? (i := 801) (by decide +kernel), List.mem_of_getElem? (i := 802) (by decide +kernel)⟩
theorem lw_p26 : lw_okq (⟨"BellTouchesModel", "begin", "()V"⟩, 25) := ⟨⟨by decide +kernel, by decide +kernel⟩, List.mem_of_getElem? (i := 690) (by decide +kernel), List.mem_of_getElem? (i := 805) (by decide +kernel), List.mem_of_getElem? (i := 806) (by decide +kernel)⟩
theorem lw_p27 : lw_okq (⟨"BellTouchesModel", "readSign", "(I)Z"⟩, 25) := ⟨⟨by decide +kernel, by decide +kernel⟩, List.mem_of_getElem? (i := 690) (by decide +kernel), List.mem_of_getElem? (i := 809) (by decide +kernel), List.mem_of_getElem? (i := 810) (by decide +kernel)⟩
theorem lw_p28 : lw_okq (⟨"BellTouchesModel", "readCross", "()Z"⟩, 25) := ⟨⟨by decide +kernel, by decide +kernel⟩, List.mem_of_getElem? (i := 690) (by decide +kernel), List.mem_of_getElem? (i := 813) (by decide +kernel), List.mem_of_getElem? (i := 814) (by decide +kernel)⟩
theorem lw_p29 : lw_okq (⟨"BellTouchesModel", "isWhole", "()Z"⟩, 25) := ⟨⟨by decide +kernel, by decide +kernel⟩, List.mem_of_getElem? (i := 690) (by decide +kernel), List.mem_of_getElem? (i := 817) (by decide +kernel), List.mem_of_getElem? (i := 818) (by decide +kernel)⟩
theorem lw_p30 : lw_okq (⟨"BellTouchesModel", "close", "()V"⟩, 25) := ⟨⟨by decide +kernel, by decide +kernel⟩, List.mem_of_getElem? (i := 690) (by decide +kernel), List.mem_of_getElem? (i := 821) (by decide +kernel), List.mem_of_getElem? (i := 822) (by decide +kernel)⟩
theorem lw_p31 : lw_okq (⟨"BellTouchesModel", "addChange", "(I)V"⟩, 25) := ⟨⟨by decide +kernel, by decide +kernel⟩, List.mem_of_getElem? (i := 690) (by decide +kernel), List.mem_of_getElem? (i := 825) (by decide +kernel), List.mem_of_getElem? (i := 826) (by decide +kernel)⟩
def lw_privs_2 : List (MethodName × Nat) := [(⟨"BellTouches$FalseHeads", "firstNotBelow", "(I)I"⟩, 4), (⟨"BellTouches$Search", "find", "(LBellTouches$Leads;I)V"⟩, 5), (⟨"BellTouches$Search", "add", "(II)V"⟩, 5), (⟨"BellTouches$Longest", "growTo", "(ILBellTouches$Leads;)V"⟩, 2), (⟨"BellTouches$Longest", "isTrue", "(ILBellTouches$Leads;)Z"⟩, 2), (⟨"BellTouches$Longest", "insideIsNew", "(ILBellTouches$Leads;)Z"⟩, 2), (⟨"BellTouches", "imageOf", "(I)LBellTouches$Setting;"⟩, 11), (⟨"BellTouchesModel", "lay", "(I)V"⟩, 25), (⟨"BellTouchesModel", "many", "()I"⟩, 25), (⟨"BellTouchesModel", "methodFault", "()I"⟩, 25), (⟨"BellTouchesModel", "begin", "()V"⟩, 25), (⟨"BellTouchesModel", "readSign", "(I)Z"⟩, 25), (⟨"BellTouchesModel", "readCross", "()Z"⟩, 25), (⟨"BellTouchesModel", "isWhole", "()Z"⟩, 25), (⟨"BellTouchesModel", "close", "()V"⟩, 25), (⟨"BellTouchesModel", "addChange", "(I)V"⟩, 25)]
theorem lw_r2 : ∀ q ∈ lw_privs_2, lw_okq q := List.forall_mem_cons.mpr ⟨lw_p16, List.forall_mem_cons.mpr ⟨lw_p17, List.forall_mem_cons.mpr ⟨lw_p18, List.forall_mem_cons.mpr ⟨lw_p19, List.forall_mem_cons.mpr ⟨lw_p20, List.forall_mem_cons.mpr ⟨lw_p21, List.forall_mem_cons.mpr ⟨lw_p22, List.forall_mem_cons.mpr ⟨lw_p23, List.forall_mem_cons.mpr ⟨lw_p24, List.forall_mem_cons.mpr ⟨lw_p25, List.forall_mem_cons.mpr ⟨lw_p26, List.forall_mem_cons.mpr ⟨lw_p27, List.forall_mem_cons.mpr ⟨lw_p28, List.forall_mem_cons.mpr ⟨lw_p29, List.forall_mem_cons.mpr ⟨lw_p30, List.forall_mem_cons.mpr ⟨lw_p31, fun _ h => absurd h List.not_mem_nil⟩⟩⟩⟩⟩⟩⟩⟩⟩⟩⟩⟩⟩⟩⟩⟩
theorem lw_p32 : lw_okq (⟨"BellTouchesModel", "readPoint", "()Z"⟩, 25) := ⟨⟨by decide +kernel, by decide +kernel⟩, List.mem_of_getElem? (i := 690) (by decide +kernel), List.mem_of_getElem? (i := 829) (by decide +kernel), List.mem_of_getElem? (i := 830) (by decide +kernel)⟩
theorem lw_p33 : lw_okq (⟨"BellTouchesModel", "readComma", "()Z"⟩, 25) := ⟨⟨by decide +kernel, by decide +kernel⟩, List.mem_of_getElem? (i := 690) (by decide +kernel), List.mem_of_getElem? (i := 833) (by decide +kernel), List.mem_of_getElem? (i := 834) (by decide +kernel)⟩
theorem lw_p34 : lw_okq (⟨"BellTouchesModel", "mayEnd", "()Z"⟩, 25) := ⟨⟨by decide +kernel, by decide +kernel⟩, List.mem_of_getElem? (i := 690) (by decide +kernel), List.mem_of_getElem? (i := 837) (by decide +kernel), List.mem_of_getElem? (i := 838) (by decide +kernel)⟩
theorem lw_p35 : lw_okq (⟨"BellTouchesModel", "readFigure", "(I)Z"⟩, 25) := ⟨⟨by decide +kernel, by decide +kernel⟩, List.mem_of_getElem? (i := 690) (by decide +kernel), List.mem_of_getElem? (i := 841) (by decide +kernel), List.mem_of_getElem? (i := 842) (by decide +kernel)⟩
theorem lw_p36 : lw_okq (⟨"BellTouchesModel", "canStay", "(I)Z"⟩, 25) := ⟨⟨by decide +kernel, by decide +kernel⟩, List.mem_of_getElem? (i := 690) (by decide +kernel), List.mem_of_getElem? (i := 845) (by decide +kernel), List.mem_of_getElem? (i := 846) (by decide +kernel)⟩
theorem lw_p37 : lw_okq (⟨"BellTouchesModel", "changeFault", "()I"⟩, 25) := ⟨⟨by decide +kernel, by decide +kernel⟩, List.mem_of_getElem? (i := 690) (by decide +kernel), List.mem_of_getElem? (i := 849) (by decide +kernel), List.mem_of_getElem? (i := 850) (by decide +kernel)⟩
theorem lw_p38 : lw_okq (⟨"BellTouchesModel", "touchFault", "()I"⟩, 25) := ⟨⟨by decide +kernel, by decide +kernel⟩, List.mem_of_getElem? (i := 690) (by decide +kernel), List.mem_of_getElem? (i := 853) (by decide +kernel), List.mem_of_getElem? (i := 854) (by decide +kernel)⟩
theorem lw_p39 : lw_okq (⟨"BellTouchesModel", "putThere", "(II)V"⟩, 25) := ⟨⟨by decide +kernel, by decide +kernel⟩, List.mem_of_getElem? (i := 690) (by decide +kernel), List.mem_of_getElem? (i := 864) (by decide +kernel), List.mem_of_getElem? (i := 865) (by decide +kernel)⟩
theorem lw_p40 : lw_okq (⟨"BellTouchesModel", "isReady", "()Z"⟩, 25) := ⟨⟨by decide +kernel, by decide +kernel⟩, List.mem_of_getElem? (i := 690) (by decide +kernel), List.mem_of_getElem? (i := 887) (by decide +kernel), List.mem_of_getElem? (i := 888) (by decide +kernel)⟩
theorem lw_p41 : lw_okq (⟨"BellTouchesModel", "layTouch", "()V"⟩, 25) := ⟨⟨by decide +kernel, by decide +kernel⟩, List.mem_of_getElem? (i := 690) (by decide +kernel), List.mem_of_getElem? (i := 891) (by decide +kernel), List.mem_of_getElem? (i := 892) (by decide +kernel)⟩
theorem lw_p42 : lw_okq (⟨"BellTouchesModel", "layRounds", "()V"⟩, 25) := ⟨⟨by decide +kernel, by decide +kernel⟩, List.mem_of_getElem? (i := 690) (by decide +kernel), List.mem_of_getElem? (i := 895) (by decide +kernel), List.mem_of_getElem? (i := 896) (by decide +kernel)⟩
theorem lw_p43 : lw_okq (⟨"BellTouchesModel", "changeOf", "(II)I"⟩, 25) := ⟨⟨by decide +kernel, by decide +kernel⟩, List.mem_of_getElem? (i := 690) (by decide +kernel), List.mem_of_getElem? (i := 899) (by decide +kernel), List.mem_of_getElem? (i := 900) (by decide +kernel)⟩
theorem lw_p44 : lw_okq (⟨"BellTouchesModel", "ring", "(I)V"⟩, 25) := ⟨⟨by decide +kernel, by decide +kernel⟩, List.mem_of_getElem? (i := 690) (by decide +kernel), List.mem_of_getElem? (i := 903) (by decide +kernel), List.mem_of_getElem? (i := 904) (by decide +kernel)⟩
theorem lw_p45 : lw_okq (⟨"BellTouchesModel", "rank", "()I"⟩, 25) := ⟨⟨by decide +kernel, by decide +kernel⟩, List.mem_of_getElem? (i := 690) (by decide +kernel), List.mem_of_getElem? (i := 907) (by decide +kernel), List.mem_of_getElem? (i := 908) (by decide +kernel)⟩
theorem lw_p46 : lw_okq (⟨"BellTouchesModel", "layRank", "(I)V"⟩, 25) := ⟨⟨by decide +kernel, by decide +kernel⟩, List.mem_of_getElem? (i := 690) (by decide +kernel), List.mem_of_getElem? (i := 911) (by decide +kernel), List.mem_of_getElem? (i := 912) (by decide +kernel)⟩
theorem lw_p47 : lw_okq (⟨"BellTouchesModel", "number", "()I"⟩, 25) := ⟨⟨by decide +kernel, by decide +kernel⟩, List.mem_of_getElem? (i := 690) (by decide +kernel), List.mem_of_getElem? (i := 915) (by decide +kernel), List.mem_of_getElem? (i := 916) (by decide +kernel)⟩
def lw_privs_3 : List (MethodName × Nat) := [(⟨"BellTouchesModel", "readPoint", "()Z"⟩, 25), (⟨"BellTouchesModel", "readComma", "()Z"⟩, 25), (⟨"BellTouchesModel", "mayEnd", "()Z"⟩, 25), (⟨"BellTouchesModel", "readFigure", "(I)Z"⟩, 25), (⟨"BellTouchesModel", "canStay", "(I)Z"⟩, 25), (⟨"BellTouchesModel", "changeFault", "()I"⟩, 25), (⟨"BellTouchesModel", "touchFault", "()I"⟩, 25), (⟨"BellTouchesModel", "putThere", "(II)V"⟩, 25), (⟨"BellTouchesModel", "isReady", "()Z"⟩, 25), (⟨"BellTouchesModel", "layTouch", "()V"⟩, 25), (⟨"BellTouchesModel", "layRounds", "()V"⟩, 25), (⟨"BellTouchesModel", "changeOf", "(II)I"⟩, 25), (⟨"BellTouchesModel", "ring", "(I)V"⟩, 25), (⟨"BellTouchesModel", "rank", "()I"⟩, 25), (⟨"BellTouchesModel", "layRank", "(I)V"⟩, 25), (⟨"BellTouchesModel", "number", "()I"⟩, 25)]
theorem lw_r3 : ∀ q ∈ lw_privs_3, lw_okq q := List.forall_mem_cons.mpr ⟨lw_p32, List.forall_mem_cons.mpr ⟨lw_p33, List.forall_mem_cons.mpr ⟨lw_p34, List.forall_mem_cons.mpr ⟨lw_p35, List.forall_mem_cons.mpr ⟨lw_p36, List.forall_mem_cons.mpr ⟨lw_p37, List.forall_mem_cons.mpr ⟨lw_p38, List.forall_mem_cons.mpr ⟨lw_p39, List.forall_mem_cons.mpr ⟨lw_p40, List.forall_mem_cons.mpr ⟨lw_p41, List.forall_mem_cons.mpr ⟨lw_p42, List.forall_mem_cons.mpr ⟨lw_p43, List.forall_mem_cons.mpr ⟨lw_p44, List.forall_mem_cons.mpr ⟨lw_p45, List.forall_mem_cons.mpr ⟨lw_p46, List.forall_mem_cons.mpr ⟨lw_p47, fun _ h => absurd h List.not_mem_nil⟩⟩⟩⟩⟩⟩⟩⟩⟩⟩⟩⟩⟩⟩⟩⟩
theorem lw_p48 : lw_okq (⟨"BellTouchesModel", "firstFalse", "()I"⟩, 25) := ⟨⟨by decide +kernel, by decide +kernel⟩, List.mem_of_getElem? (i := 690) (by decide +kernel), List.mem_of_getElem? (i := 923) (by decide +kernel), List.mem_of_getElem? (i := 924) (by decide +kernel)⟩
theorem lw_p49 : lw_okq (⟨"BellTouchesModel", "isFalse", "(I)Z"⟩, 25) := ⟨⟨by decide +kernel, by decide +kernel⟩, List.mem_of_getElem? (i := 690) (by decide +kernel), List.mem_of_getElem? (i := 927) (by decide +kernel), List.mem_of_getElem? (i := 928) (by decide +kernel)⟩
theorem lw_p50 : lw_okq (⟨"BellTouchesModel", "falseMany", "()I"⟩, 25) := ⟨⟨by decide +kernel, by decide +kernel⟩, List.mem_of_getElem? (i := 690) (by decide +kernel), List.mem_of_getElem? (i := 931) (by decide +kernel), List.mem_of_getElem? (i := 932) (by decide +kernel)⟩
theorem lw_p51 : lw_okq (⟨"BellTouchesModel", "comesRound", "()I"⟩, 25) := ⟨⟨by decide +kernel, by decide +kernel⟩, List.mem_of_getElem? (i := 690) (by decide +kernel), List.mem_of_getElem? (i := 935) (by decide +kernel), List.mem_of_getElem? (i := 936) (by decide +kernel)⟩
theorem lw_p52 : lw_okq (⟨"BellTouchesModel", "likedMany", "()I"⟩, 25) := ⟨⟨by decide +kernel, by decide +kernel⟩, List.mem_of_getElem? (i := 690) (by decide +kernel), List.mem_of_getElem? (i := 939) (by decide +kernel), List.mem_of_getElem? (i := 940) (by decide +kernel)⟩
theorem lw_p53 : lw_okq (⟨"BellTouchesModel", "isLiked", "()Z"⟩, 25) := ⟨⟨by decide +kernel, by decide +kernel⟩, List.mem_of_getElem? (i := 690) (by decide +kernel), List.mem_of_getElem? (i := 943) (by decide +kernel), List.mem_of_getElem? (i := 944) (by decide +kernel)⟩
theorem lw_p54 : lw_okq (⟨"BellTouchesModel", "goesWhere", "(II)I"⟩, 25) := ⟨⟨by decide +kernel, by decide +kernel⟩, List.mem_of_getElem? (i := 690) (by decide +kernel), List.mem_of_getElem? (i := 951) (by decide +kernel), List.mem_of_getElem? (i := 952) (by decide +kernel)⟩
theorem lw_p55 : lw_okq (⟨"BellTouchesModel", "placeIn", "(II)I"⟩, 25) := ⟨⟨by decide +kernel, by decide +kernel⟩, List.mem_of_getElem? (i := 690) (by decide +kernel), List.mem_of_getElem? (i := 955) (by decide +kernel), List.mem_of_getElem? (i := 956) (by decide +kernel)⟩
theorem lw_p56 : lw_okq (⟨"BellTouchesModel", "orderOf", "(I)I"⟩, 25) := ⟨⟨by decide +kernel, by decide +kernel⟩, List.mem_of_getElem? (i := 690) (by decide +kernel), List.mem_of_getElem? (i := 963) (by decide +kernel), List.mem_of_getElem? (i := 964) (by decide +kernel)⟩
theorem lw_p57 : lw_okq (⟨"BellTouchesModel", "ringLead", "(I)V"⟩, 25) := ⟨⟨by decide +kernel, by decide +kernel⟩, List.mem_of_getElem? (i := 690) (by decide +kernel), List.mem_of_getElem? (i := 967) (by decide +kernel), List.mem_of_getElem? (i := 968) (by decide +kernel)⟩
theorem lw_p58 : lw_okq (⟨"BellTouchesModel", "layFalseHeads", "()V"⟩, 25) := ⟨⟨by decide +kernel, by decide +kernel⟩, List.mem_of_getElem? (i := 690) (by decide +kernel), List.mem_of_getElem? (i := 975) (by decide +kernel), List.mem_of_getElem? (i := 976) (by decide +kernel)⟩
theorem lw_p59 : lw_okq (⟨"BellTouchesModel", "layPlain", "()V"⟩, 25) := ⟨⟨by decide +kernel, by decide +kernel⟩, List.mem_of_getElem? (i := 690) (by decide +kernel), List.mem_of_getElem? (i := 979) (by decide +kernel), List.mem_of_getElem? (i := 980) (by decide +kernel)⟩
theorem lw_p60 : lw_okq (⟨"BellTouchesModel", "beginSearch", "()V"⟩, 25) := ⟨⟨by decide +kernel, by decide +kernel⟩, List.mem_of_getElem? (i := 690) (by decide +kernel), List.mem_of_getElem? (i := 983) (by decide +kernel), List.mem_of_getElem? (i := 984) (by decide +kernel)⟩
theorem lw_p61 : lw_okq (⟨"BellTouchesModel", "layHead", "(II)V"⟩, 25) := ⟨⟨by decide +kernel, by decide +kernel⟩, List.mem_of_getElem? (i := 690) (by decide +kernel), List.mem_of_getElem? (i := 987) (by decide +kernel), List.mem_of_getElem? (i := 988) (by decide +kernel)⟩
theorem lw_p62 : lw_okq (⟨"BellTouchesModel", "meet", "(I)Z"⟩, 25) := ⟨⟨by decide +kernel, by decide +kernel⟩, List.mem_of_getElem? (i := 690) (by decide +kernel), List.mem_of_getElem? (i := 991) (by decide +kernel), List.mem_of_getElem? (i := 992) (by decide +kernel)⟩
theorem lw_p63 : lw_okq (⟨"BellTouchesModel", "layReached", "(I)V"⟩, 25) := ⟨⟨by decide +kernel, by decide +kernel⟩, List.mem_of_getElem? (i := 690) (by decide +kernel), List.mem_of_getElem? (i := 999) (by decide +kernel), List.mem_of_getElem? (i := 1000) (by decide +kernel)⟩
def lw_privs_4 : List (MethodName × Nat) := [(⟨"BellTouchesModel", "firstFalse", "()I"⟩, 25), (⟨"BellTouchesModel", "isFalse", "(I)Z"⟩, 25), (⟨"BellTouchesModel", "falseMany", "()I"⟩, 25), (⟨"BellTouchesModel", "comesRound", "()I"⟩, 25), (⟨"BellTouchesModel", "likedMany", "()I"⟩, 25), (⟨"BellTouchesModel", "isLiked", "()Z"⟩, 25), (⟨"BellTouchesModel", "goesWhere", "(II)I"⟩, 25), (⟨"BellTouchesModel", "placeIn", "(II)I"⟩, 25), (⟨"BellTouchesModel", "orderOf", "(I)I"⟩, 25), (⟨"BellTouchesModel", "ringLead", "(I)V"⟩, 25), (⟨"BellTouchesModel", "layFalseHeads", "()V"⟩, 25), (⟨"BellTouchesModel", "layPlain", "()V"⟩, 25), (⟨"BellTouchesModel", "beginSearch", "()V"⟩, 25), (⟨"BellTouchesModel", "layHead", "(II)V"⟩, 25), (⟨"BellTouchesModel", "meet", "(I)Z"⟩, 25), (⟨"BellTouchesModel", "layReached", "(I)V"⟩, 25)]
theorem lw_r4 : ∀ q ∈ lw_privs_4, lw_okq q := List.forall_mem_cons.mpr ⟨lw_p48, List.forall_mem_cons.mpr ⟨lw_p49, List.forall_mem_cons.mpr ⟨lw_p50, List.forall_mem_cons.mpr ⟨lw_p51, List.forall_mem_cons.mpr ⟨lw_p52, List.forall_mem_cons.mpr ⟨lw_p53, List.forall_mem_cons.mpr ⟨lw_p54, List.forall_mem_cons.mpr ⟨lw_p55, List.forall_mem_cons.mpr ⟨lw_p56, List.forall_mem_cons.mpr ⟨lw_p57, List.forall_mem_cons.mpr ⟨lw_p58, List.forall_mem_cons.mpr ⟨lw_p59, List.forall_mem_cons.mpr ⟨lw_p60, List.forall_mem_cons.mpr ⟨lw_p61, List.forall_mem_cons.mpr ⟨lw_p62, List.forall_mem_cons.mpr ⟨lw_p63, fun _ h => absurd h List.not_mem_nil⟩⟩⟩⟩⟩⟩⟩⟩⟩⟩⟩⟩⟩⟩⟩⟩
theorem lw_p64 : lw_okq (⟨"BellTouchesModel", "goOn", "(II)V"⟩, 25) := ⟨⟨by decide +kernel, by decide +kernel⟩, List.mem_of_getElem? (i := 690) (by decide +kernel), List.mem_of_getElem? (i := 1003) (by decide +kernel), List.mem_of_getElem? (i := 1004) (by decide +kernel)⟩
theorem lw_p65 : lw_okq (⟨"BellTouchesModel", "layNumber", "(I)Z"⟩, 25) := ⟨⟨by decide +kernel, by decide +kernel⟩, List.mem_of_getElem? (i := 690) (by decide +kernel), List.mem_of_getElem? (i := 1011) (by decide +kernel), List.mem_of_getElem? (i := 1012) (by decide +kernel)⟩
theorem lw_p66 : lw_okq (⟨"BellTouchesModel", "firstGood", "(I)I"⟩, 25) := ⟨⟨by decide +kernel, by decide +kernel⟩, List.mem_of_getElem? (i := 690) (by decide +kernel), List.mem_of_getElem? (i := 1019) (by decide +kernel), List.mem_of_getElem? (i := 1020) (by decide +kernel)⟩
theorem lw_p67 : lw_okq (⟨"BellTouchesModel", "isGood", "(II)Z"⟩, 25) := ⟨⟨by decide +kernel, by decide +kernel⟩, List.mem_of_getElem? (i := 690) (by decide +kernel), List.mem_of_getElem? (i := 1023) (by decide +kernel), List.mem_of_getElem? (i := 1024) (by decide +kernel)⟩
theorem lw_p68 : lw_okq (⟨"BellTouchesModel", "letterIn", "(III)I"⟩, 25) := ⟨⟨by decide +kernel, by decide +kernel⟩, List.mem_of_getElem? (i := 690) (by decide +kernel), List.mem_of_getElem? (i := 1027) (by decide +kernel), List.mem_of_getElem? (i := 1028) (by decide +kernel)⟩
def lw_privs_5 : List (MethodName × Nat) := [(⟨"BellTouchesModel", "goOn", "(II)V"⟩, 25), (⟨"BellTouchesModel", "layNumber", "(I)Z"⟩, 25), (⟨"BellTouchesModel", "firstGood", "(I)I"⟩, 25), (⟨"BellTouchesModel", "isGood", "(II)Z"⟩, 25), (⟨"BellTouchesModel", "letterIn", "(III)I"⟩, 25)]
theorem lw_r5 : ∀ q ∈ lw_privs_5, lw_okq q := List.forall_mem_cons.mpr ⟨lw_p64, List.forall_mem_cons.mpr ⟨lw_p65, List.forall_mem_cons.mpr ⟨lw_p66, List.forall_mem_cons.mpr ⟨lw_p67, List.forall_mem_cons.mpr ⟨lw_p68, fun _ h => absurd h List.not_mem_nil⟩⟩⟩⟩⟩
def lw_privs : List (MethodName × Nat) := lw_privs_1 ++ (lw_privs_2 ++ (lw_privs_3 ++ (lw_privs_4 ++ (lw_privs_5))))
def lw_tbl : List Cond := k2_sels lw_privs ++ tables_1
theorem lw_privs_ok : ∀ q ∈ lw_privs, lw_okq q := by
  show ∀ q ∈ lw_privs_1 ++ (lw_privs_2 ++ (lw_privs_3 ++ (lw_privs_4 ++ (lw_privs_5)))), lw_okq q
  exact List.forall_mem_append.mpr ⟨lw_r1, List.forall_mem_append.mpr ⟨lw_r2, List.forall_mem_append.mpr ⟨lw_r3, List.forall_mem_append.mpr ⟨lw_r4, lw_r5⟩⟩⟩⟩

def RX0 : String := "BellTouches$FalseHeads"
def TX0 : u_T := fun k => match k with
  | 0 => ("BellTouches$FalseHeads", "plainRows", "[I", true)
  | 1 => ("BellTouches$FalseHeads", "numbers", "[I", true)
  | 2 => ("BellTouches$FalseHeads", "size", "I", false)
  | _ => ("BellTouches$FalseHeads", "known", "Z", false)
def tyX0 : Nat → FieldType := fun k => match k with
  | 0 => .array .int
  | 1 => .array .int
  | 2 => .int
  | _ => .boolean
abbrev wsX00 : List Cond := u_ws RX0 TX0 4
theorem nmX0 : ∀ a, a < 4 → ∀ b, b < 4 → a ≠ b → (TX0 a).2.1 ≠ (TX0 b).2.1 := by decide +kernel
theorem tyX0_ok : ∀ k, k < 4 → parseFieldDescriptor (TX0 k).2.2.1 = some (tyX0 k) := by decide +kernel
abbrev cX0_init : ByteArray := prog_2_method_1_code
def yX0_init : MethodName := ⟨RX0, "<init>", "()V"⟩
abbrev cX0_forget : ByteArray := prog_2_method_2_code
def yX0_forget : MethodName := ⟨RX0, "forget", "()V"⟩
abbrev cX0_numberAt : ByteArray := prog_2_method_3_code
def yX0_numberAt : MethodName := ⟨RX0, "numberAt", "(I)I"⟩
abbrev cX0_collect : ByteArray := prog_2_method_4_code
def yX0_collect : MethodName := ⟨RX0, "collect", "(LBellTouches$Leads;)V"⟩
abbrev cX0_ringPlainRows : ByteArray := prog_2_method_5_code
def yX0_ringPlainRows : MethodName := ⟨RX0, "ringPlainRows", "(LBellTouches$Leads;)V"⟩
abbrev cX0_keep : ByteArray := prog_2_method_6_code
def yX0_keep : MethodName := ⟨RX0, "keep", "(I)V"⟩
abbrev cX0_firstNotBelow : ByteArray := prog_2_method_7_code
def yX0_firstNotBelow : MethodName := ⟨RX0, "firstNotBelow", "(I)I"⟩
def RX1 : String := "BellTouches$Leads"
def TX1 : u_T := fun k => match k with
  | 0 => ("BellTouches$Leads", "many", "I", false)
  | 1 => ("BellTouches$Leads", "rounds", "I", false)
  | 2 => ("BellTouches$Leads", "steps", "[I", true)
  | 3 => ("BellTouches$Leads", "size", "I", false)
  | 4 => ("BellTouches$Leads", "body", "I", false)
  | 5 => ("BellTouches$Leads", "plainEnd", "I", false)
  | 6 => ("BellTouches$Leads", "bobEnd", "I", false)
  | _ => ("BellTouches$Leads", "singleEnd", "I", false)
def tyX1 : Nat → FieldType := fun k => match k with
  | 0 => .int
  | 1 => .int
  | 2 => .array .int
  | 3 => .int
  | 4 => .int
  | 5 => .int
  | 6 => .int
  | _ => .int
abbrev wsX10 : List Cond := u_ws RX1 TX1 8
theorem nmX1 : ∀ a, a < 8 → ∀ b, b < 8 → a ≠ b → (TX1 a).2.1 ≠ (TX1 b).2.1 := by decide +kernel
theorem tyX1_ok : ∀ k, k < 8 → parseFieldDescriptor (TX1 k).2.2.1 = some (tyX1 k) := by decide +kernel
abbrev cX1_init : ByteArray := prog_3_method_1_code
def yX1_init : MethodName := ⟨RX1, "<init>", "()V"⟩
abbrev cX1_prepare : ByteArray := prog_3_method_2_code
def yX1_prepare : MethodName := ⟨RX1, "prepare", "(LBellTouches$Setting;)V"⟩
abbrev cX1_endOf : ByteArray := prog_3_method_3_code
def yX1_endOf : MethodName := ⟨RX1, "endOf", "(I)I"⟩
abbrev cX1_after : ByteArray := prog_3_method_4_code
def yX1_after : MethodName := ⟨RX1, "after", "(II)I"⟩
abbrev cX1_ahead : ByteArray := prog_3_method_5_code
def yX1_ahead : MethodName := ⟨RX1, "ahead", "(II)I"⟩
abbrev cX1_untilRounds : ByteArray := prog_3_method_6_code
def yX1_untilRounds : MethodName := ⟨RX1, "untilRounds", "(I)I"⟩
def RX2 : String := "BellTouches$Longest"
def TX2 : u_T := fun k => match k with
  | 0 => ("BellTouches$Longest", "ends", "[I", true)
  | _ => ("BellTouches$Longest", "rung", "LBellTouches$RowTable;", true)
def tyX2 : Nat → FieldType := fun k => match k with
  | 0 => .array .int
  | _ => .object "BellTouches$RowTable"
abbrev wsX20 : List Cond := u_ws RX2 TX2 2
theorem nmX2 : ∀ a, a < 2 → ∀ b, b < 2 → a ≠ b → (TX2 a).2.1 ≠ (TX2 b).2.1 := by decide +kernel
theorem tyX2_ok : ∀ k, k < 2 → parseFieldDescriptor (TX2 k).2.2.1 = some (tyX2 k) := by decide +kernel
abbrev cX2_init : ByteArray := prog_4_method_1_code
def yX2_init : MethodName := ⟨RX2, "<init>", "()V"⟩
abbrev cX2_find : ByteArray := prog_4_method_2_code
def yX2_find : MethodName := ⟨RX2, "find", "(LBellTouches$Leads;I)I"⟩
abbrev cX2_depthOf : ByteArray := prog_4_method_3_code
def yX2_depthOf : MethodName := ⟨RX2, "depthOf", "(I)I"⟩
abbrev cX2_letterFromEnd : ByteArray := prog_4_method_4_code
def yX2_letterFromEnd : MethodName := ⟨RX2, "letterFromEnd", "(II)I"⟩
abbrev cX2_growTo : ByteArray := prog_4_method_5_code
def yX2_growTo : MethodName := ⟨RX2, "growTo", "(ILBellTouches$Leads;)V"⟩
abbrev cX2_isTrue : ByteArray := prog_4_method_6_code
def yX2_isTrue : MethodName := ⟨RX2, "isTrue", "(ILBellTouches$Leads;)Z"⟩
abbrev cX2_insideIsNew : ByteArray := prog_4_method_7_code
def yX2_insideIsNew : MethodName := ⟨RX2, "insideIsNew", "(ILBellTouches$Leads;)Z"⟩
abbrev cX2_firstOfDepth : ByteArray := prog_4_method_8_code
def yX2_firstOfDepth : MethodName := ⟨RX2, "firstOfDepth", "(I)I"⟩
abbrev cX2_parentOf : ByteArray := prog_4_method_9_code
def yX2_parentOf : MethodName := ⟨RX2, "parentOf", "(I)I"⟩
abbrev cX2_letterOf : ByteArray := prog_4_method_10_code
def yX2_letterOf : MethodName := ⟨RX2, "letterOf", "(I)I"⟩
def RX3 : String := "BellTouches$Notation"
def TX3 : u_T := fun k => match k with
  | 0 => ("BellTouches$Notation", "many", "I", false)
  | 1 => ("BellTouches$Notation", "asMethod", "Z", false)
  | 2 => ("BellTouches$Notation", "last", "I", false)
  | 3 => ("BellTouches$Notation", "sets", "[I", true)
  | 4 => ("BellTouches$Notation", "setCount", "I", false)
  | _ => ("BellTouches$Notation", "aheadOfComma", "I", false)
def tyX3 : Nat → FieldType := fun k => match k with
  | 0 => .int
  | 1 => .boolean
  | 2 => .int
  | 3 => .array .int
  | 4 => .int
  | _ => .int
abbrev wsX30 : List Cond := u_ws RX3 TX3 6
theorem nmX3 : ∀ a, a < 6 → ∀ b, b < 6 → a ≠ b → (TX3 a).2.1 ≠ (TX3 b).2.1 := by decide +kernel
theorem tyX3_ok : ∀ k, k < 6 → parseFieldDescriptor (TX3 k).2.2.1 = some (tyX3 k) := by decide +kernel
abbrev cX3_init : ByteArray := prog_5_method_1_code
def yX3_init : MethodName := ⟨RX3, "<init>", "()V"⟩
abbrev cX3_read : ByteArray := prog_5_method_2_code
def yX3_read : MethodName := ⟨RX3, "read", "(LBellTouches$Pad;IZ)I"⟩
abbrev cX3_firstChange : ByteArray := prog_5_method_3_code
def yX3_firstChange : MethodName := ⟨RX3, "firstChange", "()I"⟩
abbrev cX3_length : ByteArray := prog_5_method_4_code
def yX3_length : MethodName := ⟨RX3, "length", "()I"⟩
abbrev cX3_writeTo : ByteArray := prog_5_method_5_code
def yX3_writeTo : MethodName := ⟨RX3, "writeTo", "([I)I"⟩
abbrev cX3_writeThereAndBack : ByteArray := prog_5_method_6_code
def yX3_writeThereAndBack : MethodName := ⟨RX3, "writeThereAndBack", "([IIII)I"⟩
abbrev cX3_take : ByteArray := prog_5_method_7_code
def yX3_take : MethodName := ⟨RX3, "take", "(I)Z"⟩
abbrev cX3_takeCross : ByteArray := prog_5_method_8_code
def yX3_takeCross : MethodName := ⟨RX3, "takeCross", "()Z"⟩
abbrev cX3_takePoint : ByteArray := prog_5_method_9_code
def yX3_takePoint : MethodName := ⟨RX3, "takePoint", "()Z"⟩
abbrev cX3_takeComma : ByteArray := prog_5_method_10_code
def yX3_takeComma : MethodName := ⟨RX3, "takeComma", "()Z"⟩
abbrev cX3_takeFigure : ByteArray := prog_5_method_11_code
def yX3_takeFigure : MethodName := ⟨RX3, "takeFigure", "(I)Z"⟩
abbrev cX3_addSet : ByteArray := prog_5_method_12_code
def yX3_addSet : MethodName := ⟨RX3, "addSet", "()Z"⟩
abbrev cX3_changeCanEnd : ByteArray := prog_5_method_13_code
def yX3_changeCanEnd : MethodName := ⟨RX3, "changeCanEnd", "()Z"⟩
def RX4 : String := "BellTouches$Pad"
def TX4 : u_T := fun k => match k with
  | 0 => ("BellTouches$Pad", "signs", "[I", true)
  | _ => ("BellTouches$Pad", "size", "I", false)
def tyX4 : Nat → FieldType := fun k => match k with
  | 0 => .array .int
  | _ => .int
abbrev wsX40 : List Cond := u_ws RX4 TX4 2
theorem nmX4 : ∀ a, a < 2 → ∀ b, b < 2 → a ≠ b → (TX4 a).2.1 ≠ (TX4 b).2.1 := by decide +kernel
theorem tyX4_ok : ∀ k, k < 2 → parseFieldDescriptor (TX4 k).2.2.1 = some (tyX4 k) := by decide +kernel
abbrev cX4_init : ByteArray := prog_6_method_1_code
def yX4_init : MethodName := ⟨RX4, "<init>", "()V"⟩
abbrev cX4_add : ByteArray := prog_6_method_2_code
def yX4_add : MethodName := ⟨RX4, "add", "(I)Z"⟩
abbrev cX4_faultAsTouch : ByteArray := prog_6_method_3_code
def yX4_faultAsTouch : MethodName := ⟨RX4, "faultAsTouch", "()I"⟩
abbrev cX4_writeTouchTo : ByteArray := prog_6_method_4_code
def yX4_writeTouchTo : MethodName := ⟨RX4, "writeTouchTo", "([I)I"⟩
abbrev cX4_kindOf : ByteArray := prog_6_method_5_code
def yX4_kindOf : MethodName := ⟨RX4, "kindOf", "(I)I"⟩
def RX5 : String := "BellTouches$Ringing"
def TX5 : u_T := fun k => match k with
  | 0 => ("BellTouches$Ringing", "rows", "[I", true)
  | 1 => ("BellTouches$Ringing", "last", "I", false)
  | 2 => ("BellTouches$Ringing", "many", "I", false)
  | _ => ("BellTouches$Ringing", "seen", "LBellTouches$RowTable;", true)
def tyX5 : Nat → FieldType := fun k => match k with
  | 0 => .array .int
  | 1 => .int
  | 2 => .int
  | _ => .object "BellTouches$RowTable"
abbrev wsX50 : List Cond := u_ws RX5 TX5 4
theorem nmX5 : ∀ a, a < 4 → ∀ b, b < 4 → a ≠ b → (TX5 a).2.1 ≠ (TX5 b).2.1 := by decide +kernel
theorem tyX5_ok : ∀ k, k < 4 → parseFieldDescriptor (TX5 k).2.2.1 = some (tyX5 k) := by decide +kernel
abbrev cX5_init : ByteArray := prog_7_method_1_code
def yX5_init : MethodName := ⟨RX5, "<init>", "()V"⟩
abbrev cX5_ring : ByteArray := prog_7_method_2_code
def yX5_ring : MethodName := ⟨RX5, "ring", "(LBellTouches$Setting;LBellTouches$Leads;)V"⟩
abbrev cX5_add : ByteArray := prog_7_method_3_code
def yX5_add : MethodName := ⟨RX5, "add", "(I)V"⟩
abbrev cX5_has : ByteArray := prog_7_method_4_code
def yX5_has : MethodName := ⟨RX5, "has", "(I)Z"⟩
abbrev cX5_rowAt : ByteArray := prog_7_method_5_code
def yX5_rowAt : MethodName := ⟨RX5, "rowAt", "(I)I"⟩
abbrev cX5_falseRows : ByteArray := prog_7_method_6_code
def yX5_falseRows : MethodName := ⟨RX5, "falseRows", "()I"⟩
abbrev cX5_firstFalse : ByteArray := prog_7_method_7_code
def yX5_firstFalse : MethodName := ⟨RX5, "firstFalse", "()I"⟩
abbrev cX5_comesRoundAt : ByteArray := prog_7_method_8_code
def yX5_comesRoundAt : MethodName := ⟨RX5, "comesRoundAt", "()I"⟩
abbrev cX5_likedRows : ByteArray := prog_7_method_9_code
def yX5_likedRows : MethodName := ⟨RX5, "likedRows", "()I"⟩
abbrev cX5_placesEverOf : ByteArray := prog_7_method_10_code
def yX5_placesEverOf : MethodName := ⟨RX5, "placesEverOf", "(I)I"⟩
abbrev cX5_timesFirst : ByteArray := prog_7_method_11_code
def yX5_timesFirst : MethodName := ⟨RX5, "timesFirst", "(I)I"⟩
abbrev cX5_longestStay : ByteArray := prog_7_method_12_code
def yX5_longestStay : MethodName := ⟨RX5, "longestStay", "(I)I"⟩
def RX6 : String := "BellTouches$RowTable"
def TX6 : u_T := fun k => match k with
  | 0 => ("BellTouches$RowTable", "slots", "[J", false)
  | 1 => ("BellTouches$RowTable", "bits", "I", false)
  | _ => ("BellTouches$RowTable", "fill", "I", false)
def tyX6 : Nat → FieldType := fun k => match k with
  | 0 => .array .long
  | 1 => .int
  | _ => .int
abbrev wsX60 : List Cond := u_ws RX6 TX6 3
theorem nmX6 : ∀ a, a < 3 → ∀ b, b < 3 → a ≠ b → (TX6 a).2.1 ≠ (TX6 b).2.1 := by decide +kernel
theorem tyX6_ok : ∀ k, k < 3 → parseFieldDescriptor (TX6 k).2.2.1 = some (tyX6 k) := by decide +kernel
abbrev cX6_init : ByteArray := prog_8_method_1_code
def yX6_init : MethodName := ⟨RX6, "<init>", "()V"⟩
abbrev cX6_empty : ByteArray := prog_8_method_2_code
def yX6_empty : MethodName := ⟨RX6, "empty", "(I)V"⟩
abbrev cX6_put : ByteArray := prog_8_method_3_code
def yX6_put : MethodName := ⟨RX6, "put", "(II)Z"⟩
abbrev cX6_tagOf : ByteArray := prog_8_method_4_code
def yX6_tagOf : MethodName := ⟨RX6, "tagOf", "(I)I"⟩
abbrev cX6_isTaken : ByteArray := prog_8_method_5_code
def yX6_isTaken : MethodName := ⟨RX6, "isTaken", "(I)Z"⟩
abbrev cX6_slotOf : ByteArray := prog_8_method_6_code
def yX6_slotOf : MethodName := ⟨RX6, "slotOf", "(I)I"⟩
def RX7 : String := "BellTouches$Rows"
def TX7 : u_T := fun k => match k with
  | _ => ("", "", "", false)
def tyX7 : Nat → FieldType := fun k => match k with
  | _ => .int
abbrev wsX70 : List Cond := u_ws RX7 TX7 0
theorem nmX7 : ∀ a, a < 0 → ∀ b, b < 0 → a ≠ b → (TX7 a).2.1 ≠ (TX7 b).2.1 := by decide +kernel
theorem tyX7_ok : ∀ k, k < 0 → parseFieldDescriptor (TX7 k).2.2.1 = some (tyX7 k) := by decide +kernel
abbrev cX7_rounds : ByteArray := prog_9_method_2_code
def yX7_rounds : MethodName := ⟨RX7, "rounds", "(I)I"⟩
abbrev cX7_howMany : ByteArray := prog_9_method_3_code
def yX7_howMany : MethodName := ⟨RX7, "howMany", "(I)I"⟩
abbrev cX7_bellAt : ByteArray := prog_9_method_4_code
def yX7_bellAt : MethodName := ⟨RX7, "bellAt", "(II)I"⟩
abbrev cX7_placeOf : ByteArray := prog_9_method_5_code
def yX7_placeOf : MethodName := ⟨RX7, "placeOf", "(III)I"⟩
abbrev cX7_number : ByteArray := prog_9_method_6_code
def yX7_number : MethodName := ⟨RX7, "number", "(II)I"⟩
abbrev cX7_ofNumber : ByteArray := prog_9_method_7_code
def yX7_ofNumber : MethodName := ⟨RX7, "ofNumber", "(II)I"⟩
abbrev cX7_step : ByteArray := prog_9_method_8_code
def yX7_step : MethodName := ⟨RX7, "step", "(II)I"⟩
abbrev cX7_stepped : ByteArray := prog_9_method_9_code
def yX7_stepped : MethodName := ⟨RX7, "stepped", "(II)I"⟩
abbrev cX7_through : ByteArray := prog_9_method_10_code
def yX7_through : MethodName := ⟨RX7, "through", "(III)I"⟩
abbrev cX7_back : ByteArray := prog_9_method_11_code
def yX7_back : MethodName := ⟨RX7, "back", "(III)I"⟩
abbrev cX7_liked : ByteArray := prog_9_method_12_code
def yX7_liked : MethodName := ⟨RX7, "liked", "(II)Z"⟩
def RX8 : String := "BellTouches$Search"
def TX8 : u_T := fun k => match k with
  | 0 => ("BellTouches$Search", "found", "LBellTouches$RowTable;", true)
  | 1 => ("BellTouches$Search", "queue", "[I", false)
  | 2 => ("BellTouches$Search", "size", "I", false)
  | 3 => ("BellTouches$Search", "lettersFound", "I", false)
  | _ => ("BellTouches$Search", "reachedCounts", "[I", true)
def tyX8 : Nat → FieldType := fun k => match k with
  | 0 => .object "BellTouches$RowTable"
  | 1 => .array .int
  | 2 => .int
  | 3 => .int
  | _ => .array .int
abbrev wsX80 : List Cond := u_ws RX8 TX8 5
theorem nmX8 : ∀ a, a < 5 → ∀ b, b < 5 → a ≠ b → (TX8 a).2.1 ≠ (TX8 b).2.1 := by decide +kernel
theorem tyX8_ok : ∀ k, k < 5 → parseFieldDescriptor (TX8 k).2.2.1 = some (tyX8 k) := by decide +kernel
abbrev cX8_init : ByteArray := prog_10_method_1_code
def yX8_init : MethodName := ⟨RX8, "<init>", "()V"⟩
abbrev cX8_forget : ByteArray := prog_10_method_2_code
def yX8_forget : MethodName := ⟨RX8, "forget", "()V"⟩
abbrev cX8_rowsReached : ByteArray := prog_10_method_3_code
def yX8_rowsReached : MethodName := ⟨RX8, "rowsReached", "(LBellTouches$Leads;I)I"⟩
abbrev cX8_fewestLeads : ByteArray := prog_10_method_4_code
def yX8_fewestLeads : MethodName := ⟨RX8, "fewestLeads", "(LBellTouches$Leads;I)I"⟩
abbrev cX8_letterFromEnd : ByteArray := prog_10_method_5_code
def yX8_letterFromEnd : MethodName := ⟨RX8, "letterFromEnd", "(LBellTouches$Leads;II)I"⟩
abbrev cX8_find : ByteArray := prog_10_method_6_code
def yX8_find : MethodName := ⟨RX8, "find", "(LBellTouches$Leads;I)V"⟩
abbrev cX8_add : ByteArray := prog_10_method_7_code
def yX8_add : MethodName := ⟨RX8, "add", "(II)V"⟩
def RX9 : String := "BellTouches$Setting"
def TX9 : u_T := fun k => match k with
  | 0 => ("BellTouches$Setting", "many", "I", false)
  | 1 => ("BellTouches$Setting", "changes", "[I", true)
  | 2 => ("BellTouches$Setting", "changeCount", "I", false)
  | 3 => ("BellTouches$Setting", "bob", "I", false)
  | 4 => ("BellTouches$Setting", "single", "I", false)
  | 5 => ("BellTouches$Setting", "letters", "[I", true)
  | _ => ("BellTouches$Setting", "leadCount", "I", false)
def tyX9 : Nat → FieldType := fun k => match k with
  | 0 => .int
  | 1 => .array .int
  | 2 => .int
  | 3 => .int
  | 4 => .int
  | 5 => .array .int
  | _ => .int
abbrev wsX90 : List Cond := u_ws RX9 TX9 7
theorem nmX9 : ∀ a, a < 7 → ∀ b, b < 7 → a ≠ b → (TX9 a).2.1 ≠ (TX9 b).2.1 := by decide +kernel
theorem tyX9_ok : ∀ k, k < 7 → parseFieldDescriptor (TX9 k).2.2.1 = some (tyX9 k) := by decide +kernel
abbrev cX9_init : ByteArray := prog_11_method_1_code
def yX9_init : MethodName := ⟨RX9, "<init>", "()V"⟩
abbrev cX9_begin : ByteArray := prog_11_method_2_code
def yX9_begin : MethodName := ⟨RX9, "begin", "(I)V"⟩
abbrev cX9_copyFrom : ByteArray := prog_11_method_3_code
def yX9_copyFrom : MethodName := ⟨RX9, "copyFrom", "(LBellTouches$Setting;)V"⟩
def RX10 : String := "BellTouches"
def TX10 : u_T := fun k => match k with
  | 0 => ("BellTouches", "now", "LBellTouches$Setting;", true)
  | 1 => ("BellTouches", "firstImage", "LBellTouches$Setting;", true)
  | 2 => ("BellTouches", "secondImage", "LBellTouches$Setting;", true)
  | 3 => ("BellTouches", "imagesKept", "I", false)
  | 4 => ("BellTouches", "pad", "LBellTouches$Pad;", true)
  | 5 => ("BellTouches", "notation", "LBellTouches$Notation;", true)
  | 6 => ("BellTouches", "leads", "LBellTouches$Leads;", true)
  | 7 => ("BellTouches", "ringing", "LBellTouches$Ringing;", true)
  | 8 => ("BellTouches", "falseHeads", "LBellTouches$FalseHeads;", true)
  | 9 => ("BellTouches", "search", "LBellTouches$Search;", true)
  | _ => ("BellTouches", "touches", "LBellTouches$Longest;", true)
def tyX10 : Nat → FieldType := fun k => match k with
  | 0 => .object "BellTouches$Setting"
  | 1 => .object "BellTouches$Setting"
  | 2 => .object "BellTouches$Setting"
  | 3 => .int
  | 4 => .object "BellTouches$Pad"
  | 5 => .object "BellTouches$Notation"
  | 6 => .object "BellTouches$Leads"
  | 7 => .object "BellTouches$Ringing"
  | 8 => .object "BellTouches$FalseHeads"
  | 9 => .object "BellTouches$Search"
  | _ => .object "BellTouches$Longest"
abbrev wsX100 : List Cond := u_ws RX10 TX10 11
theorem nmX10 : ∀ a, a < 11 → ∀ b, b < 11 → a ≠ b → (TX10 a).2.1 ≠ (TX10 b).2.1 := by decide +kernel
theorem tyX10_ok : ∀ k, k < 11 → parseFieldDescriptor (TX10 k).2.2.1 = some (tyX10 k) := by decide +kernel
abbrev cX10_init : ByteArray := prog_1_method_1_code
def yX10_init : MethodName := ⟨RX10, "<init>", "()V"⟩
abbrev cX10_bells : ByteArray := prog_1_method_2_code
def yX10_bells : MethodName := ⟨RX10, "bells", "(I)I"⟩
abbrev cX10_say : ByteArray := prog_1_method_3_code
def yX10_say : MethodName := ⟨RX10, "say", "(I)I"⟩
abbrev cX10_wipe : ByteArray := prog_1_method_4_code
def yX10_wipe : MethodName := ⟨RX10, "wipe", "()I"⟩
abbrev cX10_fault : ByteArray := prog_1_method_5_code
def yX10_fault : MethodName := ⟨RX10, "fault", "(I)I"⟩
abbrev cX10_method : ByteArray := prog_1_method_6_code
def yX10_method : MethodName := ⟨RX10, "method", "()I"⟩
abbrev cX10_call : ByteArray := prog_1_method_7_code
def yX10_call : MethodName := ⟨RX10, "call", "(I)I"⟩
abbrev cX10_touch : ByteArray := prog_1_method_8_code
def yX10_touch : MethodName := ⟨RX10, "touch", "()I"⟩
abbrev cX10_change : ByteArray := prog_1_method_9_code
def yX10_change : MethodName := ⟨RX10, "change", "(I)I"⟩
abbrev cX10_row : ByteArray := prog_1_method_10_code
def yX10_row : MethodName := ⟨RX10, "row", "(I)I"⟩
abbrev cX10_told : ByteArray := prog_1_method_11_code
def yX10_told : MethodName := ⟨RX10, "told", "(I)I"⟩
abbrev cX10_bell : ByteArray := prog_1_method_12_code
def yX10_bell : MethodName := ⟨RX10, "bell", "(III)I"⟩
abbrev cX10_head : ByteArray := prog_1_method_13_code
def yX10_head : MethodName := ⟨RX10, "head", "(II)I"⟩
abbrev cX10_falseHead : ByteArray := prog_1_method_14_code
def yX10_falseHead : MethodName := ⟨RX10, "falseHead", "(I)I"⟩
abbrev cX10_reached : ByteArray := prog_1_method_15_code
def yX10_reached : MethodName := ⟨RX10, "reached", "(I)I"⟩
abbrev cX10_by : ByteArray := prog_1_method_16_code
def yX10_by : MethodName := ⟨RX10, "by", "(II)I"⟩
abbrev cX10_longest : ByteArray := prog_1_method_17_code
def yX10_longest : MethodName := ⟨RX10, "longest", "(II)I"⟩
abbrev cX10_image : ByteArray := prog_1_method_18_code
def yX10_image : MethodName := ⟨RX10, "image", "(I)I"⟩
abbrev cX10_restore : ByteArray := prog_1_method_19_code
def yX10_restore : MethodName := ⟨RX10, "restore", "(I)I"⟩
abbrev cX10_count : ByteArray := prog_1_method_20_code
def yX10_count : MethodName := ⟨RX10, "count", "(I)I"⟩
abbrev cX10_hasMethod : ByteArray := prog_1_method_21_code
def yX10_hasMethod : MethodName := ⟨RX10, "hasMethod", "()Z"⟩
abbrev cX10_hasMethodAndTouch : ByteArray := prog_1_method_22_code
def yX10_hasMethodAndTouch : MethodName := ⟨RX10, "hasMethodAndTouch", "()Z"⟩
abbrev cX10_imageOf : ByteArray := prog_1_method_23_code
def yX10_imageOf : MethodName := ⟨RX10, "imageOf", "(I)LBellTouches$Setting;"⟩
abbrev cX10_settle : ByteArray := prog_1_method_24_code
def yX10_settle : MethodName := ⟨RX10, "settle", "()V"⟩
def RX11 : String := "BellTouchesModel"
def TX11 : u_T := fun k => match k with
  | 0 => ("BellTouchesModel", "state", "[I", true)
  | 1 => ("BellTouchesModel", "images", "[I", true)
  | 2 => ("BellTouchesModel", "isKept", "[Z", true)
  | 3 => ("BellTouchesModel", "pad", "[I", true)
  | 4 => ("BellTouchesModel", "said", "I", false)
  | 5 => ("BellTouchesModel", "read", "[I", true)
  | 6 => ("BellTouchesModel", "reads", "I", false)
  | 7 => ("BellTouchesModel", "firsts", "I", false)
  | 8 => ("BellTouchesModel", "last", "I", false)
  | 9 => ("BellTouchesModel", "isOpen", "Z", false)
  | 10 => ("BellTouchesModel", "isBehindPoint", "Z", false)
  | 11 => ("BellTouchesModel", "place", "I", false)
  | 12 => ("BellTouchesModel", "row", "[I", true)
  | 13 => ("BellTouchesModel", "isUsed", "[Z", true)
  | 14 => ("BellTouchesModel", "rows", "[I", true)
  | 15 => ("BellTouchesModel", "rowMany", "I", false)
  | 16 => ("BellTouchesModel", "met", "[I", true)
  | 17 => ("BellTouchesModel", "search", "I", false)
  | 18 => ("BellTouchesModel", "wave", "[I", true)
  | 19 => ("BellTouchesModel", "waved", "I", false)
  | 20 => ("BellTouchesModel", "one", "[I", true)
  | 21 => ("BellTouchesModel", "wrapped", "[I", true)
  | 22 => ("BellTouchesModel", "cameFrom", "[I", true)
  | 23 => ("BellTouchesModel", "cameBy", "[I", true)
  | _ => ("BellTouchesModel", "deep", "[I", true)
def tyX11 : Nat → FieldType := fun k => match k with
  | 0 => .array .int
  | 1 => .array .int
  | 2 => .array .boolean
  | 3 => .array .int
  | 4 => .int
  | 5 => .array .int
  | 6 => .int
  | 7 => .int
  | 8 => .int
  | 9 => .boolean
  | 10 => .boolean
  | 11 => .int
  | 12 => .array .int
  | 13 => .array .boolean
  | 14 => .array .int
  | 15 => .int
  | 16 => .array .int
  | 17 => .int
  | 18 => .array .int
  | 19 => .int
  | 20 => .array .int
  | 21 => .array .int
  | 22 => .array .int
  | 23 => .array .int
  | _ => .array .int
abbrev wsX110 : List Cond := u_ws RX11 TX11 25
theorem nmX11 : ∀ a, a < 25 → ∀ b, b < 25 → a ≠ b → (TX11 a).2.1 ≠ (TX11 b).2.1 := by decide +kernel
theorem tyX11_ok : ∀ k, k < 25 → parseFieldDescriptor (TX11 k).2.2.1 = some (tyX11 k) := by decide +kernel
abbrev cX11_init : ByteArray := prog_13_method_1_code
def yX11_init : MethodName := ⟨RX11, "<init>", "()V"⟩
abbrev cX11_in : ByteArray := prog_13_method_2_code
def yX11_in : MethodName := ⟨RX11, "in", "(III)Z"⟩
abbrev cX11_many : ByteArray := prog_13_method_3_code
def yX11_many : MethodName := ⟨RX11, "many", "()I"⟩
abbrev cX11_lay : ByteArray := prog_13_method_4_code
def yX11_lay : MethodName := ⟨RX11, "lay", "(I)V"⟩
abbrev cX11_bells : ByteArray := prog_13_method_5_code
def yX11_bells : MethodName := ⟨RX11, "bells", "(I)I"⟩
abbrev cX11_say : ByteArray := prog_13_method_6_code
def yX11_say : MethodName := ⟨RX11, "say", "(I)I"⟩
abbrev cX11_wipe : ByteArray := prog_13_method_7_code
def yX11_wipe : MethodName := ⟨RX11, "wipe", "()I"⟩
abbrev cX11_begin : ByteArray := prog_13_method_8_code
def yX11_begin : MethodName := ⟨RX11, "begin", "()V"⟩
abbrev cX11_canStay : ByteArray := prog_13_method_9_code
def yX11_canStay : MethodName := ⟨RX11, "canStay", "(I)Z"⟩
abbrev cX11_isWhole : ByteArray := prog_13_method_10_code
def yX11_isWhole : MethodName := ⟨RX11, "isWhole", "()Z"⟩
abbrev cX11_addChange : ByteArray := prog_13_method_11_code
def yX11_addChange : MethodName := ⟨RX11, "addChange", "(I)V"⟩
abbrev cX11_readFigure : ByteArray := prog_13_method_12_code
def yX11_readFigure : MethodName := ⟨RX11, "readFigure", "(I)Z"⟩
abbrev cX11_close : ByteArray := prog_13_method_13_code
def yX11_close : MethodName := ⟨RX11, "close", "()V"⟩
abbrev cX11_mayEnd : ByteArray := prog_13_method_14_code
def yX11_mayEnd : MethodName := ⟨RX11, "mayEnd", "()Z"⟩
abbrev cX11_readCross : ByteArray := prog_13_method_15_code
def yX11_readCross : MethodName := ⟨RX11, "readCross", "()Z"⟩
abbrev cX11_readPoint : ByteArray := prog_13_method_16_code
def yX11_readPoint : MethodName := ⟨RX11, "readPoint", "()Z"⟩
abbrev cX11_readComma : ByteArray := prog_13_method_17_code
def yX11_readComma : MethodName := ⟨RX11, "readComma", "()Z"⟩
abbrev cX11_readSign : ByteArray := prog_13_method_18_code
def yX11_readSign : MethodName := ⟨RX11, "readSign", "(I)Z"⟩
abbrev cX11_methodFault : ByteArray := prog_13_method_19_code
def yX11_methodFault : MethodName := ⟨RX11, "methodFault", "()I"⟩
abbrev cX11_changeFault : ByteArray := prog_13_method_20_code
def yX11_changeFault : MethodName := ⟨RX11, "changeFault", "()I"⟩
abbrev cX11_letterOf : ByteArray := prog_13_method_21_code
def yX11_letterOf : MethodName := ⟨RX11, "letterOf", "(I)I"⟩
abbrev cX11_touchFault : ByteArray := prog_13_method_22_code
def yX11_touchFault : MethodName := ⟨RX11, "touchFault", "()I"⟩
abbrev cX11_fault : ByteArray := prog_13_method_23_code
def yX11_fault : MethodName := ⟨RX11, "fault", "(I)I"⟩
abbrev cX11_putThere : ByteArray := prog_13_method_24_code
def yX11_putThere : MethodName := ⟨RX11, "putThere", "(II)V"⟩
abbrev cX11_method : ByteArray := prog_13_method_25_code
def yX11_method : MethodName := ⟨RX11, "method", "()I"⟩
abbrev cX11_size : ByteArray := prog_13_method_26_code
def yX11_size : MethodName := ⟨RX11, "size", "(I)I"⟩
abbrev cX11_call : ByteArray := prog_13_method_27_code
def yX11_call : MethodName := ⟨RX11, "call", "(I)I"⟩
abbrev cX11_touch : ByteArray := prog_13_method_28_code
def yX11_touch : MethodName := ⟨RX11, "touch", "()I"⟩
abbrev cX11_change : ByteArray := prog_13_method_29_code
def yX11_change : MethodName := ⟨RX11, "change", "(I)I"⟩
abbrev cX11_layRounds : ByteArray := prog_13_method_30_code
def yX11_layRounds : MethodName := ⟨RX11, "layRounds", "()V"⟩
abbrev cX11_ring : ByteArray := prog_13_method_31_code
def yX11_ring : MethodName := ⟨RX11, "ring", "(I)V"⟩
abbrev cX11_changeOf : ByteArray := prog_13_method_32_code
def yX11_changeOf : MethodName := ⟨RX11, "changeOf", "(II)I"⟩
abbrev cX11_number : ByteArray := prog_13_method_33_code
def yX11_number : MethodName := ⟨RX11, "number", "()I"⟩
abbrev cX11_rank : ByteArray := prog_13_method_34_code
def yX11_rank : MethodName := ⟨RX11, "rank", "()I"⟩
abbrev cX11_layRank : ByteArray := prog_13_method_35_code
def yX11_layRank : MethodName := ⟨RX11, "layRank", "(I)V"⟩
abbrev cX11_isLiked : ByteArray := prog_13_method_36_code
def yX11_isLiked : MethodName := ⟨RX11, "isLiked", "()Z"⟩
abbrev cX11_layTouch : ByteArray := prog_13_method_37_code
def yX11_layTouch : MethodName := ⟨RX11, "layTouch", "()V"⟩
abbrev cX11_isReady : ByteArray := prog_13_method_38_code
def yX11_isReady : MethodName := ⟨RX11, "isReady", "()Z"⟩
abbrev cX11_row : ByteArray := prog_13_method_39_code
def yX11_row : MethodName := ⟨RX11, "row", "(I)I"⟩
abbrev cX11_isFalse : ByteArray := prog_13_method_40_code
def yX11_isFalse : MethodName := ⟨RX11, "isFalse", "(I)Z"⟩
abbrev cX11_falseMany : ByteArray := prog_13_method_41_code
def yX11_falseMany : MethodName := ⟨RX11, "falseMany", "()I"⟩
abbrev cX11_firstFalse : ByteArray := prog_13_method_42_code
def yX11_firstFalse : MethodName := ⟨RX11, "firstFalse", "()I"⟩
abbrev cX11_comesRound : ByteArray := prog_13_method_43_code
def yX11_comesRound : MethodName := ⟨RX11, "comesRound", "()I"⟩
abbrev cX11_likedMany : ByteArray := prog_13_method_44_code
def yX11_likedMany : MethodName := ⟨RX11, "likedMany", "()I"⟩
abbrev cX11_told : ByteArray := prog_13_method_45_code
def yX11_told : MethodName := ⟨RX11, "told", "(I)I"⟩
abbrev cX11_placeIn : ByteArray := prog_13_method_46_code
def yX11_placeIn : MethodName := ⟨RX11, "placeIn", "(II)I"⟩
abbrev cX11_goesWhere : ByteArray := prog_13_method_47_code
def yX11_goesWhere : MethodName := ⟨RX11, "goesWhere", "(II)I"⟩
abbrev cX11_bell : ByteArray := prog_13_method_48_code
def yX11_bell : MethodName := ⟨RX11, "bell", "(III)I"⟩
abbrev cX11_ringLead : ByteArray := prog_13_method_49_code
def yX11_ringLead : MethodName := ⟨RX11, "ringLead", "(I)V"⟩
abbrev cX11_orderOf : ByteArray := prog_13_method_50_code
def yX11_orderOf : MethodName := ⟨RX11, "orderOf", "(I)I"⟩
abbrev cX11_head : ByteArray := prog_13_method_51_code
def yX11_head : MethodName := ⟨RX11, "head", "(II)I"⟩
abbrev cX11_beginSearch : ByteArray := prog_13_method_52_code
def yX11_beginSearch : MethodName := ⟨RX11, "beginSearch", "()V"⟩
abbrev cX11_meet : ByteArray := prog_13_method_53_code
def yX11_meet : MethodName := ⟨RX11, "meet", "(I)Z"⟩
abbrev cX11_layPlain : ByteArray := prog_13_method_54_code
def yX11_layPlain : MethodName := ⟨RX11, "layPlain", "()V"⟩
abbrev cX11_layHead : ByteArray := prog_13_method_55_code
def yX11_layHead : MethodName := ⟨RX11, "layHead", "(II)V"⟩
abbrev cX11_layFalseHeads : ByteArray := prog_13_method_56_code
def yX11_layFalseHeads : MethodName := ⟨RX11, "layFalseHeads", "()V"⟩
abbrev cX11_falseHead : ByteArray := prog_13_method_57_code
def yX11_falseHead : MethodName := ⟨RX11, "falseHead", "(I)I"⟩
abbrev cX11_goOn : ByteArray := prog_13_method_58_code
def yX11_goOn : MethodName := ⟨RX11, "goOn", "(II)V"⟩
abbrev cX11_layReached : ByteArray := prog_13_method_59_code
def yX11_layReached : MethodName := ⟨RX11, "layReached", "(I)V"⟩
abbrev cX11_reached : ByteArray := prog_13_method_60_code
def yX11_reached : MethodName := ⟨RX11, "reached", "(I)I"⟩
abbrev cX11_layNumber : ByteArray := prog_13_method_61_code
def yX11_layNumber : MethodName := ⟨RX11, "layNumber", "(I)Z"⟩
abbrev cX11_by : ByteArray := prog_13_method_62_code
def yX11_by : MethodName := ⟨RX11, "by", "(II)I"⟩
abbrev cX11_letterIn : ByteArray := prog_13_method_63_code
def yX11_letterIn : MethodName := ⟨RX11, "letterIn", "(III)I"⟩
abbrev cX11_isGood : ByteArray := prog_13_method_64_code
def yX11_isGood : MethodName := ⟨RX11, "isGood", "(II)Z"⟩
abbrev cX11_firstGood : ByteArray := prog_13_method_65_code
def yX11_firstGood : MethodName := ⟨RX11, "firstGood", "(I)I"⟩
abbrev cX11_longest : ByteArray := prog_13_method_66_code
def yX11_longest : MethodName := ⟨RX11, "longest", "(II)I"⟩
abbrev cX11_image : ByteArray := prog_13_method_67_code
def yX11_image : MethodName := ⟨RX11, "image", "(I)I"⟩
abbrev cX11_restore : ByteArray := prog_13_method_68_code
def yX11_restore : MethodName := ⟨RX11, "restore", "(I)I"⟩
abbrev cX11_count : ByteArray := prog_13_method_69_code
def yX11_count : MethodName := ⟨RX11, "count", "(I)I"⟩
def RJ6 : String := "java/lang/Integer"
def TJ6 : u_T := fun k => match k with
  | _ => ("", "", "", false)
def tyJ6 : Nat → FieldType := fun k => match k with
  | _ => .int
abbrev wsJ60 : List Cond := u_ws RJ6 TJ6 0
theorem nmJ6 : ∀ a, a < 0 → ∀ b, b < 0 → a ≠ b → (TJ6 a).2.1 ≠ (TJ6 b).2.1 := by decide +kernel
theorem tyJ6_ok : ∀ k, k < 0 → parseFieldDescriptor (TJ6 k).2.2.1 = some (tyJ6 k) := by decide +kernel
abbrev cJ6_bitCount_0f7a4 : ByteArray := prog_14_method_49_code
def yJ6_bitCount_0f7a4 : MethodName := ⟨RJ6, "bitCount", "(I)I"⟩
def RJ9 : String := "java/lang/Math"
def TJ9 : u_T := fun k => match k with
  | _ => ("", "", "", false)
def tyJ9 : Nat → FieldType := fun k => match k with
  | _ => .int
abbrev wsJ90 : List Cond := u_ws RJ9 TJ9 0
theorem nmJ9 : ∀ a, a < 0 → ∀ b, b < 0 → a ≠ b → (TJ9 a).2.1 ≠ (TJ9 b).2.1 := by decide +kernel
theorem tyJ9_ok : ∀ k, k < 0 → parseFieldDescriptor (TJ9 k).2.2.1 = some (tyJ9 k) := by decide +kernel
abbrev cJ9_max_7cf53 : ByteArray := prog_15_method_65_code
def yJ9_max_7cf53 : MethodName := ⟨RJ9, "max", "(II)I"⟩
abbrev cJ9_min_7cf53 : ByteArray := prog_15_method_69_code
def yJ9_min_7cf53 : MethodName := ⟨RJ9, "min", "(II)I"⟩
def RJ10 : String := "java/lang/System"
def TJ10 : u_T := fun k => match k with
  | _ => ("", "", "", false)
def tyJ10 : Nat → FieldType := fun k => match k with
  | _ => .int
abbrev wsJ100 : List Cond := u_ws RJ10 TJ10 0
theorem nmJ10 : ∀ a, a < 0 → ∀ b, b < 0 → a ≠ b → (TJ10 a).2.1 ≠ (TJ10 b).2.1 := by decide +kernel
theorem tyJ10_ok : ∀ k, k < 0 → parseFieldDescriptor (TJ10 k).2.2.1 = some (tyJ10 k) := by decide +kernel
def RL : String := "BellTouchesLaw"
abbrev cL_law : ByteArray := code
def yL_law : MethodName := ⟨RL, "law", "([I)Z"⟩
abbrev vwCl : List vw_C := [(RX0, TX0, 4), (RX1, TX1, 8), (RX2, TX2, 2), (RX3, TX3, 6), (RX4, TX4, 2), (RX5, TX5, 4), (RX6, TX6, 3), (RX8, TX8, 5), (RX9, TX9, 7), (RX10, TX10, 11), (RX11, TX11, 25)]
theorem mem_r {big : List Cond} (ws : List Cond) (ps : List Nat) (hp : ws = ps.filterMap (fun i => big[i]?)) : ∀ w ∈ ws, w ∈ big := by
  intro w hw
  rw [hp] at hw
  obtain ⟨i, -, hi⟩ := List.mem_filterMap.mp hw
  exact List.mem_of_getElem? hi
theorem inX0 : ∀ w ∈ wsX00, w ∈ lw_tbl := mem_r _ [271, 273, 275, 277] (by decide +kernel)
theorem inX1 : ∀ w ∈ wsX10, w ∈ lw_tbl := mem_r _ [206, 208, 210, 212, 214, 216, 218, 220] (by decide +kernel)
theorem inX2 : ∀ w ∈ wsX20, w ∈ lw_tbl := mem_r _ [314, 316] (by decide +kernel)
theorem inX3 : ∀ w ∈ wsX30, w ∈ lw_tbl := mem_r _ [164, 166, 168, 170, 172, 174] (by decide +kernel)
theorem inX4 : ∀ w ∈ wsX40, w ∈ lw_tbl := mem_r _ [147, 149] (by decide +kernel)
theorem inX5 : ∀ w ∈ wsX50, w ∈ lw_tbl := mem_r _ [251, 253, 255, 257] (by decide +kernel)
theorem inX6 : ∀ w ∈ wsX60, w ∈ lw_tbl := mem_r _ [238, 240, 242] (by decide +kernel)
theorem inX8 : ∀ w ∈ wsX80, w ∈ lw_tbl := mem_r _ [293, 295, 297, 299, 301] (by decide +kernel)
theorem inX9 : ∀ w ∈ wsX90, w ∈ lw_tbl := mem_r _ [120, 122, 124, 126, 128, 130, 132] (by decide +kernel)
theorem inX10 : ∀ w ∈ wsX100, w ∈ lw_tbl := mem_r _ [372, 374, 376, 378, 380, 382, 384, 386, 388, 390, 392] (by decide +kernel)
theorem inX11 : ∀ w ∈ wsX110, w ∈ lw_tbl := mem_r _ [794, 796, 798, 800, 802, 804, 806, 808, 810, 812, 814, 816, 818, 820, 822, 824, 826, 828, 830, 832, 834, 836, 838, 840, 842] (by decide +kernel)
def nestW : Cond → Bool
  | .fieldLinkNest .. => true
  | .methodLinkNest .. => true
  | _ => false
def gtb : List Cond := lw_tbl.filter goodWord
def ntb : List Cond := lw_tbl.filter nestW
theorem gtb_in {w : Cond} (i : Nat) (h : lw_tbl[i]? = some w) (hg : goodWord w = true) : w ∈ gtb := List.mem_filter.mpr ⟨List.mem_of_getElem? h, hg⟩
theorem ntb_in {w : Cond} (i : Nat) (h : lw_tbl[i]? = some w) (hg : nestW w = true) : w ∈ ntb := List.mem_filter.mpr ⟨List.mem_of_getElem? h, hg⟩
end
section
theorem g_0 : Cond.selects RX10 yX10_settle yX10_settle ∈ gtb := gtb_in 0 (by decide +kernel) (by decide +kernel)
theorem g_1 : Cond.selects RX5 yX5_add yX5_add ∈ gtb := gtb_in 1 (by decide +kernel) (by decide +kernel)
theorem g_2 : Cond.selects RX3 yX3_take yX3_take ∈ gtb := gtb_in 2 (by decide +kernel) (by decide +kernel)
theorem g_3 : Cond.selects RX3 yX3_takeCross yX3_takeCross ∈ gtb := gtb_in 3 (by decide +kernel) (by decide +kernel)
theorem g_4 : Cond.selects RX3 yX3_changeCanEnd yX3_changeCanEnd ∈ gtb := gtb_in 4 (by decide +kernel) (by decide +kernel)
theorem g_5 : Cond.selects RX3 yX3_addSet yX3_addSet ∈ gtb := gtb_in 5 (by decide +kernel) (by decide +kernel)
theorem g_6 : Cond.selects RX3 yX3_takePoint yX3_takePoint ∈ gtb := gtb_in 6 (by decide +kernel) (by decide +kernel)
theorem g_7 : Cond.selects RX3 yX3_takeComma yX3_takeComma ∈ gtb := gtb_in 7 (by decide +kernel) (by decide +kernel)
theorem g_8 : Cond.selects RX3 yX3_takeFigure yX3_takeFigure ∈ gtb := gtb_in 8 (by decide +kernel) (by decide +kernel)
theorem g_9 : Cond.selects RX3 yX3_writeThereAndBack yX3_writeThereAndBack ∈ gtb := gtb_in 9 (by decide +kernel) (by decide +kernel)
theorem g_10 : Cond.selects RX10 yX10_hasMethodAndTouch yX10_hasMethodAndTouch ∈ gtb := gtb_in 10 (by decide +kernel) (by decide +kernel)
theorem g_11 : Cond.selects RX6 yX6_slotOf yX6_slotOf ∈ gtb := gtb_in 11 (by decide +kernel) (by decide +kernel)
theorem g_12 : Cond.selects RX6 yX6_isTaken yX6_isTaken ∈ gtb := gtb_in 12 (by decide +kernel) (by decide +kernel)
theorem g_13 : Cond.selects RX10 yX10_hasMethod yX10_hasMethod ∈ gtb := gtb_in 13 (by decide +kernel) (by decide +kernel)
theorem g_14 : Cond.selects RX0 yX0_ringPlainRows yX0_ringPlainRows ∈ gtb := gtb_in 14 (by decide +kernel) (by decide +kernel)
theorem g_15 : Cond.selects RX0 yX0_keep yX0_keep ∈ gtb := gtb_in 15 (by decide +kernel) (by decide +kernel)
theorem g_16 : Cond.selects RX0 yX0_firstNotBelow yX0_firstNotBelow ∈ gtb := gtb_in 16 (by decide +kernel) (by decide +kernel)
theorem g_17 : Cond.selects RX8 yX8_find yX8_find ∈ gtb := gtb_in 17 (by decide +kernel) (by decide +kernel)
theorem g_18 : Cond.selects RX8 yX8_add yX8_add ∈ gtb := gtb_in 18 (by decide +kernel) (by decide +kernel)
theorem g_19 : Cond.selects RX2 yX2_growTo yX2_growTo ∈ gtb := gtb_in 19 (by decide +kernel) (by decide +kernel)
theorem g_20 : Cond.selects RX2 yX2_isTrue yX2_isTrue ∈ gtb := gtb_in 20 (by decide +kernel) (by decide +kernel)
theorem g_21 : Cond.selects RX2 yX2_insideIsNew yX2_insideIsNew ∈ gtb := gtb_in 21 (by decide +kernel) (by decide +kernel)
theorem g_22 : Cond.selects RX10 yX10_imageOf yX10_imageOf ∈ gtb := gtb_in 22 (by decide +kernel) (by decide +kernel)
theorem g_23 : Cond.selects RX11 yX11_lay yX11_lay ∈ gtb := gtb_in 23 (by decide +kernel) (by decide +kernel)
theorem g_24 : Cond.selects RX11 yX11_many yX11_many ∈ gtb := gtb_in 24 (by decide +kernel) (by decide +kernel)
theorem g_25 : Cond.selects RX11 yX11_methodFault yX11_methodFault ∈ gtb := gtb_in 25 (by decide +kernel) (by decide +kernel)
theorem g_26 : Cond.selects RX11 yX11_begin yX11_begin ∈ gtb := gtb_in 26 (by decide +kernel) (by decide +kernel)
theorem g_27 : Cond.selects RX11 yX11_readSign yX11_readSign ∈ gtb := gtb_in 27 (by decide +kernel) (by decide +kernel)
theorem g_28 : Cond.selects RX11 yX11_readCross yX11_readCross ∈ gtb := gtb_in 28 (by decide +kernel) (by decide +kernel)
theorem g_29 : Cond.selects RX11 yX11_isWhole yX11_isWhole ∈ gtb := gtb_in 29 (by decide +kernel) (by decide +kernel)
theorem g_30 : Cond.selects RX11 yX11_close yX11_close ∈ gtb := gtb_in 30 (by decide +kernel) (by decide +kernel)
theorem g_31 : Cond.selects RX11 yX11_addChange yX11_addChange ∈ gtb := gtb_in 31 (by decide +kernel) (by decide +kernel)
theorem g_32 : Cond.selects RX11 yX11_readPoint yX11_readPoint ∈ gtb := gtb_in 32 (by decide +kernel) (by decide +kernel)
theorem g_33 : Cond.selects RX11 yX11_readComma yX11_readComma ∈ gtb := gtb_in 33 (by decide +kernel) (by decide +kernel)
theorem g_34 : Cond.selects RX11 yX11_mayEnd yX11_mayEnd ∈ gtb := gtb_in 34 (by decide +kernel) (by decide +kernel)
theorem g_35 : Cond.selects RX11 yX11_readFigure yX11_readFigure ∈ gtb := gtb_in 35 (by decide +kernel) (by decide +kernel)
theorem g_36 : Cond.selects RX11 yX11_canStay yX11_canStay ∈ gtb := gtb_in 36 (by decide +kernel) (by decide +kernel)
theorem g_37 : Cond.selects RX11 yX11_changeFault yX11_changeFault ∈ gtb := gtb_in 37 (by decide +kernel) (by decide +kernel)
theorem g_38 : Cond.selects RX11 yX11_touchFault yX11_touchFault ∈ gtb := gtb_in 38 (by decide +kernel) (by decide +kernel)
theorem g_39 : Cond.selects RX11 yX11_putThere yX11_putThere ∈ gtb := gtb_in 39 (by decide +kernel) (by decide +kernel)
theorem g_40 : Cond.selects RX11 yX11_isReady yX11_isReady ∈ gtb := gtb_in 40 (by decide +kernel) (by decide +kernel)
theorem g_41 : Cond.selects RX11 yX11_layTouch yX11_layTouch ∈ gtb := gtb_in 41 (by decide +kernel) (by decide +kernel)
theorem g_42 : Cond.selects RX11 yX11_layRounds yX11_layRounds ∈ gtb := gtb_in 42 (by decide +kernel) (by decide +kernel)
theorem g_43 : Cond.selects RX11 yX11_changeOf yX11_changeOf ∈ gtb := gtb_in 43 (by decide +kernel) (by decide +kernel)
theorem g_44 : Cond.selects RX11 yX11_ring yX11_ring ∈ gtb := gtb_in 44 (by decide +kernel) (by decide +kernel)
theorem g_45 : Cond.selects RX11 yX11_rank yX11_rank ∈ gtb := gtb_in 45 (by decide +kernel) (by decide +kernel)
theorem g_46 : Cond.selects RX11 yX11_layRank yX11_layRank ∈ gtb := gtb_in 46 (by decide +kernel) (by decide +kernel)
theorem g_47 : Cond.selects RX11 yX11_number yX11_number ∈ gtb := gtb_in 47 (by decide +kernel) (by decide +kernel)
theorem g_48 : Cond.selects RX11 yX11_firstFalse yX11_firstFalse ∈ gtb := gtb_in 48 (by decide +kernel) (by decide +kernel)
theorem g_49 : Cond.selects RX11 yX11_isFalse yX11_isFalse ∈ gtb := gtb_in 49 (by decide +kernel) (by decide +kernel)
theorem g_50 : Cond.selects RX11 yX11_falseMany yX11_falseMany ∈ gtb := gtb_in 50 (by decide +kernel) (by decide +kernel)
theorem g_51 : Cond.selects RX11 yX11_comesRound yX11_comesRound ∈ gtb := gtb_in 51 (by decide +kernel) (by decide +kernel)
theorem g_52 : Cond.selects RX11 yX11_likedMany yX11_likedMany ∈ gtb := gtb_in 52 (by decide +kernel) (by decide +kernel)
theorem g_53 : Cond.selects RX11 yX11_isLiked yX11_isLiked ∈ gtb := gtb_in 53 (by decide +kernel) (by decide +kernel)
theorem g_54 : Cond.selects RX11 yX11_goesWhere yX11_goesWhere ∈ gtb := gtb_in 54 (by decide +kernel) (by decide +kernel)
theorem g_55 : Cond.selects RX11 yX11_placeIn yX11_placeIn ∈ gtb := gtb_in 55 (by decide +kernel) (by decide +kernel)
theorem g_56 : Cond.selects RX11 yX11_orderOf yX11_orderOf ∈ gtb := gtb_in 56 (by decide +kernel) (by decide +kernel)
theorem g_57 : Cond.selects RX11 yX11_ringLead yX11_ringLead ∈ gtb := gtb_in 57 (by decide +kernel) (by decide +kernel)
theorem g_58 : Cond.selects RX11 yX11_layFalseHeads yX11_layFalseHeads ∈ gtb := gtb_in 58 (by decide +kernel) (by decide +kernel)
theorem g_59 : Cond.selects RX11 yX11_layPlain yX11_layPlain ∈ gtb := gtb_in 59 (by decide +kernel) (by decide +kernel)
theorem g_60 : Cond.selects RX11 yX11_beginSearch yX11_beginSearch ∈ gtb := gtb_in 60 (by decide +kernel) (by decide +kernel)
theorem g_61 : Cond.selects RX11 yX11_layHead yX11_layHead ∈ gtb := gtb_in 61 (by decide +kernel) (by decide +kernel)
theorem g_62 : Cond.selects RX11 yX11_meet yX11_meet ∈ gtb := gtb_in 62 (by decide +kernel) (by decide +kernel)
theorem g_63 : Cond.selects RX11 yX11_layReached yX11_layReached ∈ gtb := gtb_in 63 (by decide +kernel) (by decide +kernel)
theorem g_64 : Cond.selects RX11 yX11_goOn yX11_goOn ∈ gtb := gtb_in 64 (by decide +kernel) (by decide +kernel)
theorem g_65 : Cond.selects RX11 yX11_layNumber yX11_layNumber ∈ gtb := gtb_in 65 (by decide +kernel) (by decide +kernel)
theorem g_66 : Cond.selects RX11 yX11_firstGood yX11_firstGood ∈ gtb := gtb_in 66 (by decide +kernel) (by decide +kernel)
theorem g_67 : Cond.selects RX11 yX11_isGood yX11_isGood ∈ gtb := gtb_in 67 (by decide +kernel) (by decide +kernel)
theorem g_68 : Cond.selects RX11 yX11_letterIn yX11_letterIn ∈ gtb := gtb_in 68 (by decide +kernel) (by decide +kernel)
theorem g_70 : Cond.initialized "BellTouches" ∈ gtb := gtb_in 70 (by decide +kernel) (by decide +kernel)
theorem g_71 : Cond.initialized "BellTouches$Setting" ∈ gtb := gtb_in 71 (by decide +kernel) (by decide +kernel)
theorem g_72 : Cond.initialized "BellTouches$Pad" ∈ gtb := gtb_in 72 (by decide +kernel) (by decide +kernel)
theorem g_73 : Cond.initialized "BellTouches$Notation" ∈ gtb := gtb_in 73 (by decide +kernel) (by decide +kernel)
theorem g_74 : Cond.initialized "BellTouches$Leads" ∈ gtb := gtb_in 74 (by decide +kernel) (by decide +kernel)
theorem g_75 : Cond.initialized "BellTouches$Ringing" ∈ gtb := gtb_in 75 (by decide +kernel) (by decide +kernel)
theorem g_76 : Cond.initialized "BellTouches$RowTable" ∈ gtb := gtb_in 76 (by decide +kernel) (by decide +kernel)
theorem g_77 : Cond.initialized "BellTouches$FalseHeads" ∈ gtb := gtb_in 77 (by decide +kernel) (by decide +kernel)
theorem g_78 : Cond.initialized "BellTouches$Search" ∈ gtb := gtb_in 78 (by decide +kernel) (by decide +kernel)
theorem g_79 : Cond.initialized "BellTouches$Longest" ∈ gtb := gtb_in 79 (by decide +kernel) (by decide +kernel)
theorem g_80 : Cond.initialized "BellTouches$Rows" ∈ gtb := gtb_in 80 (by decide +kernel) (by decide +kernel)
theorem g_81 : Cond.initialized "BellTouchesModel" ∈ gtb := gtb_in 81 (by decide +kernel) (by decide +kernel)
theorem g_82 : Cond.initialized "java/lang/Math" ∈ gtb := gtb_in 82 (by decide +kernel) (by decide +kernel)
theorem g_83 : Cond.initialized "java/lang/System" ∈ gtb := gtb_in 83 (by decide +kernel) (by decide +kernel)
theorem g_84 : Cond.initialized "java/lang/Integer" ∈ gtb := gtb_in 84 (by decide +kernel) (by decide +kernel)
theorem g_85 : Cond.classLink RL 7 RX10 ∈ gtb := gtb_in 85 (by decide +kernel) (by decide +kernel)
theorem g_86 : Cond.instantiable RX10 11 ∈ gtb := gtb_in 86 (by decide +kernel) (by decide +kernel)
theorem g_87 : Cond.methodLink RL 9 yX10_init ∈ gtb := gtb_in 87 (by decide +kernel) (by decide +kernel)
theorem g_88 : Cond.instanceMethod yX10_init ∈ gtb := gtb_in 88 (by decide +kernel) (by decide +kernel)
theorem g_89 : Cond.code yX10_init cX10_init 1 none ∈ gtb := gtb_in 89 (by decide +kernel) (by decide +kernel)
theorem g_90 : Cond.methodLink RX10 1 objectInit ∈ gtb := gtb_in 90 (by decide +kernel) (by decide +kernel)
theorem g_91 : Cond.instanceMethod objectInit ∈ gtb := gtb_in 91 (by decide +kernel) (by decide +kernel)
theorem g_92 : Cond.code objectInit ⟨#[0xb1]⟩ 1 none ∈ gtb := gtb_in 92 (by decide +kernel) (by decide +kernel)
theorem g_93 : Cond.classLink RX10 7 RX9 ∈ gtb := gtb_in 93 (by decide +kernel) (by decide +kernel)
theorem g_94 : Cond.instantiable RX9 7 ∈ gtb := gtb_in 94 (by decide +kernel) (by decide +kernel)
theorem g_95 : Cond.methodLinkNest RX10 9 yX9_init "BellTouches" ∈ ntb := ntb_in 95 (by decide +kernel) (by decide +kernel)
theorem g_96 : Cond.instanceMethod yX9_init ∈ gtb := gtb_in 96 (by decide +kernel) (by decide +kernel)
theorem g_97 : Cond.code yX9_init cX9_init 1 none ∈ gtb := gtb_in 97 (by decide +kernel) (by decide +kernel)
theorem g_98 : Cond.methodLink RX9 3 objectInit ∈ gtb := gtb_in 98 (by decide +kernel) (by decide +kernel)
theorem g_99 : Cond.fieldLink RX9 9 "BellTouches$Setting" "many" "I" ∈ gtb := gtb_in 99 (by decide +kernel) (by decide +kernel)
theorem g_100 : Cond.fieldLinkNest RX1 37 "BellTouches$Setting" "many" "I" "BellTouches" ∈ ntb := ntb_in 100 (by decide +kernel) (by decide +kernel)
theorem g_101 : Cond.fieldLinkNest RX10 82 "BellTouches$Setting" "many" "I" "BellTouches" ∈ ntb := ntb_in 101 (by decide +kernel) (by decide +kernel)
theorem g_102 : Cond.fieldLink RX9 15 "BellTouches$Setting" "changes" "[I" ∈ gtb := gtb_in 102 (by decide +kernel) (by decide +kernel)
theorem g_103 : Cond.fieldLinkNest RX1 48 "BellTouches$Setting" "changes" "[I" "BellTouches" ∈ ntb := ntb_in 103 (by decide +kernel) (by decide +kernel)
theorem g_104 : Cond.fieldLinkNest RX10 103 "BellTouches$Setting" "changes" "[I" "BellTouches" ∈ ntb := ntb_in 104 (by decide +kernel) (by decide +kernel)
theorem g_105 : Cond.fieldLink RX9 19 "BellTouches$Setting" "changeCount" "I" ∈ gtb := gtb_in 105 (by decide +kernel) (by decide +kernel)
theorem g_106 : Cond.fieldLinkNest RX1 45 "BellTouches$Setting" "changeCount" "I" "BellTouches" ∈ ntb := ntb_in 106 (by decide +kernel) (by decide +kernel)
theorem g_107 : Cond.fieldLinkNest RX10 111 "BellTouches$Setting" "changeCount" "I" "BellTouches" ∈ ntb := ntb_in 107 (by decide +kernel) (by decide +kernel)
theorem g_108 : Cond.fieldLink RX9 22 "BellTouches$Setting" "bob" "I" ∈ gtb := gtb_in 108 (by decide +kernel) (by decide +kernel)
theorem g_109 : Cond.fieldLinkNest RX1 58 "BellTouches$Setting" "bob" "I" "BellTouches" ∈ ntb := ntb_in 109 (by decide +kernel) (by decide +kernel)
theorem g_110 : Cond.fieldLinkNest RX10 117 "BellTouches$Setting" "bob" "I" "BellTouches" ∈ ntb := ntb_in 110 (by decide +kernel) (by decide +kernel)
theorem g_111 : Cond.fieldLink RX9 25 "BellTouches$Setting" "single" "I" ∈ gtb := gtb_in 111 (by decide +kernel) (by decide +kernel)
theorem g_112 : Cond.fieldLinkNest RX1 61 "BellTouches$Setting" "single" "I" "BellTouches" ∈ ntb := ntb_in 112 (by decide +kernel) (by decide +kernel)
theorem g_113 : Cond.fieldLinkNest RX10 120 "BellTouches$Setting" "single" "I" "BellTouches" ∈ ntb := ntb_in 113 (by decide +kernel) (by decide +kernel)
theorem g_114 : Cond.fieldLink RX9 28 "BellTouches$Setting" "letters" "[I" ∈ gtb := gtb_in 114 (by decide +kernel) (by decide +kernel)
theorem g_115 : Cond.fieldLinkNest RX5 50 "BellTouches$Setting" "letters" "[I" "BellTouches" ∈ ntb := ntb_in 115 (by decide +kernel) (by decide +kernel)
theorem g_116 : Cond.fieldLinkNest RX10 129 "BellTouches$Setting" "letters" "[I" "BellTouches" ∈ ntb := ntb_in 116 (by decide +kernel) (by decide +kernel)
theorem g_117 : Cond.fieldLink RX9 31 "BellTouches$Setting" "leadCount" "I" ∈ gtb := gtb_in 117 (by decide +kernel) (by decide +kernel)
theorem g_118 : Cond.fieldLinkNest RX5 35 "BellTouches$Setting" "leadCount" "I" "BellTouches" ∈ ntb := ntb_in 118 (by decide +kernel) (by decide +kernel)
theorem g_119 : Cond.fieldLinkNest RX10 135 "BellTouches$Setting" "leadCount" "I" "BellTouches" ∈ ntb := ntb_in 119 (by decide +kernel) (by decide +kernel)
theorem g_135 : Cond.arrayClass .int ∈ gtb := gtb_in 135 (by decide +kernel) (by decide +kernel)
theorem g_136 : Cond.classLink RX10 26 RX4 ∈ gtb := gtb_in 136 (by decide +kernel) (by decide +kernel)
theorem g_137 : Cond.instantiable RX4 2 ∈ gtb := gtb_in 137 (by decide +kernel) (by decide +kernel)
theorem g_138 : Cond.methodLinkNest RX10 28 yX4_init "BellTouches" ∈ ntb := ntb_in 138 (by decide +kernel) (by decide +kernel)
theorem g_139 : Cond.instanceMethod yX4_init ∈ gtb := gtb_in 139 (by decide +kernel) (by decide +kernel)
theorem g_140 : Cond.code yX4_init cX4_init 1 none ∈ gtb := gtb_in 140 (by decide +kernel) (by decide +kernel)
theorem g_141 : Cond.methodLink RX4 3 objectInit ∈ gtb := gtb_in 141 (by decide +kernel) (by decide +kernel)
theorem g_142 : Cond.fieldLink RX4 9 "BellTouches$Pad" "signs" "[I" ∈ gtb := gtb_in 142 (by decide +kernel) (by decide +kernel)
theorem g_143 : Cond.fieldLinkNest RX3 37 "BellTouches$Pad" "signs" "[I" "BellTouches" ∈ ntb := ntb_in 143 (by decide +kernel) (by decide +kernel)
theorem g_144 : Cond.fieldLink RX4 15 "BellTouches$Pad" "size" "I" ∈ gtb := gtb_in 144 (by decide +kernel) (by decide +kernel)
theorem g_145 : Cond.fieldLinkNest RX3 32 "BellTouches$Pad" "size" "I" "BellTouches" ∈ ntb := ntb_in 145 (by decide +kernel) (by decide +kernel)
theorem g_146 : Cond.fieldLinkNest RX10 89 "BellTouches$Pad" "size" "I" "BellTouches" ∈ ntb := ntb_in 146 (by decide +kernel) (by decide +kernel)
theorem g_152 : Cond.classLink RX10 33 RX3 ∈ gtb := gtb_in 152 (by decide +kernel) (by decide +kernel)
theorem g_153 : Cond.instantiable RX3 6 ∈ gtb := gtb_in 153 (by decide +kernel) (by decide +kernel)
theorem g_154 : Cond.methodLinkNest RX10 35 yX3_init "BellTouches" ∈ ntb := ntb_in 154 (by decide +kernel) (by decide +kernel)
theorem g_155 : Cond.instanceMethod yX3_init ∈ gtb := gtb_in 155 (by decide +kernel) (by decide +kernel)
theorem g_156 : Cond.code yX3_init cX3_init 1 none ∈ gtb := gtb_in 156 (by decide +kernel) (by decide +kernel)
theorem g_157 : Cond.methodLink RX3 3 objectInit ∈ gtb := gtb_in 157 (by decide +kernel) (by decide +kernel)
theorem g_158 : Cond.fieldLink RX3 9 "BellTouches$Notation" "many" "I" ∈ gtb := gtb_in 158 (by decide +kernel) (by decide +kernel)
theorem g_159 : Cond.fieldLink RX3 15 "BellTouches$Notation" "asMethod" "Z" ∈ gtb := gtb_in 159 (by decide +kernel) (by decide +kernel)
theorem g_160 : Cond.fieldLink RX3 19 "BellTouches$Notation" "last" "I" ∈ gtb := gtb_in 160 (by decide +kernel) (by decide +kernel)
theorem g_161 : Cond.fieldLink RX3 22 "BellTouches$Notation" "sets" "[I" ∈ gtb := gtb_in 161 (by decide +kernel) (by decide +kernel)
theorem g_162 : Cond.fieldLink RX3 26 "BellTouches$Notation" "setCount" "I" ∈ gtb := gtb_in 162 (by decide +kernel) (by decide +kernel)
theorem g_163 : Cond.fieldLink RX3 29 "BellTouches$Notation" "aheadOfComma" "I" ∈ gtb := gtb_in 163 (by decide +kernel) (by decide +kernel)
theorem g_177 : Cond.classLink RX10 40 RX1 ∈ gtb := gtb_in 177 (by decide +kernel) (by decide +kernel)
theorem g_178 : Cond.instantiable RX1 8 ∈ gtb := gtb_in 178 (by decide +kernel) (by decide +kernel)
theorem g_179 : Cond.methodLinkNest RX10 42 yX1_init "BellTouches" ∈ ntb := ntb_in 179 (by decide +kernel) (by decide +kernel)
theorem g_180 : Cond.instanceMethod yX1_init ∈ gtb := gtb_in 180 (by decide +kernel) (by decide +kernel)
theorem g_181 : Cond.code yX1_init cX1_init 1 none ∈ gtb := gtb_in 181 (by decide +kernel) (by decide +kernel)
theorem g_182 : Cond.methodLink RX1 3 objectInit ∈ gtb := gtb_in 182 (by decide +kernel) (by decide +kernel)
theorem g_183 : Cond.fieldLink RX1 9 "BellTouches$Leads" "many" "I" ∈ gtb := gtb_in 183 (by decide +kernel) (by decide +kernel)
theorem g_184 : Cond.fieldLinkNest RX5 29 "BellTouches$Leads" "many" "I" "BellTouches" ∈ ntb := ntb_in 184 (by decide +kernel) (by decide +kernel)
theorem g_185 : Cond.fieldLinkNest RX0 33 "BellTouches$Leads" "many" "I" "BellTouches" ∈ ntb := ntb_in 185 (by decide +kernel) (by decide +kernel)
theorem g_186 : Cond.fieldLinkNest RX8 46 "BellTouches$Leads" "many" "I" "BellTouches" ∈ ntb := ntb_in 186 (by decide +kernel) (by decide +kernel)
theorem g_187 : Cond.fieldLink RX1 15 "BellTouches$Leads" "rounds" "I" ∈ gtb := gtb_in 187 (by decide +kernel) (by decide +kernel)
theorem g_188 : Cond.fieldLinkNest RX5 32 "BellTouches$Leads" "rounds" "I" "BellTouches" ∈ ntb := ntb_in 188 (by decide +kernel) (by decide +kernel)
theorem g_189 : Cond.fieldLinkNest RX2 36 "BellTouches$Leads" "rounds" "I" "BellTouches" ∈ ntb := ntb_in 189 (by decide +kernel) (by decide +kernel)
theorem g_190 : Cond.fieldLinkNest RX0 53 "BellTouches$Leads" "rounds" "I" "BellTouches" ∈ ntb := ntb_in 190 (by decide +kernel) (by decide +kernel)
theorem g_191 : Cond.fieldLinkNest RX8 58 "BellTouches$Leads" "rounds" "I" "BellTouches" ∈ ntb := ntb_in 191 (by decide +kernel) (by decide +kernel)
theorem g_192 : Cond.fieldLinkNest RX10 189 "BellTouches$Leads" "rounds" "I" "BellTouches" ∈ ntb := ntb_in 192 (by decide +kernel) (by decide +kernel)
theorem g_193 : Cond.fieldLink RX1 18 "BellTouches$Leads" "steps" "[I" ∈ gtb := gtb_in 193 (by decide +kernel) (by decide +kernel)
theorem g_194 : Cond.fieldLinkNest RX5 43 "BellTouches$Leads" "steps" "[I" "BellTouches" ∈ ntb := ntb_in 194 (by decide +kernel) (by decide +kernel)
theorem g_195 : Cond.fieldLinkNest RX0 56 "BellTouches$Leads" "steps" "[I" "BellTouches" ∈ ntb := ntb_in 195 (by decide +kernel) (by decide +kernel)
theorem g_196 : Cond.fieldLinkNest RX2 72 "BellTouches$Leads" "steps" "[I" "BellTouches" ∈ ntb := ntb_in 196 (by decide +kernel) (by decide +kernel)
theorem g_197 : Cond.fieldLink RX1 22 "BellTouches$Leads" "size" "I" ∈ gtb := gtb_in 197 (by decide +kernel) (by decide +kernel)
theorem g_198 : Cond.fieldLinkNest RX5 40 "BellTouches$Leads" "size" "I" "BellTouches" ∈ ntb := ntb_in 198 (by decide +kernel) (by decide +kernel)
theorem g_199 : Cond.fieldLinkNest RX0 30 "BellTouches$Leads" "size" "I" "BellTouches" ∈ ntb := ntb_in 199 (by decide +kernel) (by decide +kernel)
theorem g_200 : Cond.fieldLinkNest RX2 69 "BellTouches$Leads" "size" "I" "BellTouches" ∈ ntb := ntb_in 200 (by decide +kernel) (by decide +kernel)
theorem g_201 : Cond.fieldLink RX1 25 "BellTouches$Leads" "body" "I" ∈ gtb := gtb_in 201 (by decide +kernel) (by decide +kernel)
theorem g_202 : Cond.fieldLinkNest RX8 65 "BellTouches$Leads" "body" "I" "BellTouches" ∈ ntb := ntb_in 202 (by decide +kernel) (by decide +kernel)
theorem g_203 : Cond.fieldLink RX1 28 "BellTouches$Leads" "plainEnd" "I" ∈ gtb := gtb_in 203 (by decide +kernel) (by decide +kernel)
theorem g_204 : Cond.fieldLink RX1 31 "BellTouches$Leads" "bobEnd" "I" ∈ gtb := gtb_in 204 (by decide +kernel) (by decide +kernel)
theorem g_205 : Cond.fieldLink RX1 34 "BellTouches$Leads" "singleEnd" "I" ∈ gtb := gtb_in 205 (by decide +kernel) (by decide +kernel)
theorem g_223 : Cond.classLink RX10 47 RX5 ∈ gtb := gtb_in 223 (by decide +kernel) (by decide +kernel)
theorem g_224 : Cond.instantiable RX5 4 ∈ gtb := gtb_in 224 (by decide +kernel) (by decide +kernel)
theorem g_225 : Cond.methodLinkNest RX10 49 yX5_init "BellTouches" ∈ ntb := ntb_in 225 (by decide +kernel) (by decide +kernel)
theorem g_226 : Cond.instanceMethod yX5_init ∈ gtb := gtb_in 226 (by decide +kernel) (by decide +kernel)
theorem g_227 : Cond.code yX5_init cX5_init 1 none ∈ gtb := gtb_in 227 (by decide +kernel) (by decide +kernel)
theorem g_228 : Cond.methodLink RX5 3 objectInit ∈ gtb := gtb_in 228 (by decide +kernel) (by decide +kernel)
theorem g_229 : Cond.classLink RX5 22 RX6 ∈ gtb := gtb_in 229 (by decide +kernel) (by decide +kernel)
theorem g_230 : Cond.instantiable RX6 3 ∈ gtb := gtb_in 230 (by decide +kernel) (by decide +kernel)
theorem g_231 : Cond.methodLinkNest RX5 24 yX6_init "BellTouches" ∈ ntb := ntb_in 231 (by decide +kernel) (by decide +kernel)
theorem g_232 : Cond.instanceMethod yX6_init ∈ gtb := gtb_in 232 (by decide +kernel) (by decide +kernel)
theorem g_233 : Cond.code yX6_init cX6_init 1 none ∈ gtb := gtb_in 233 (by decide +kernel) (by decide +kernel)
theorem g_234 : Cond.methodLink RX6 5 objectInit ∈ gtb := gtb_in 234 (by decide +kernel) (by decide +kernel)
theorem g_235 : Cond.fieldLink RX6 11 "BellTouches$RowTable" "slots" "[J" ∈ gtb := gtb_in 235 (by decide +kernel) (by decide +kernel)
theorem g_236 : Cond.fieldLink RX6 15 "BellTouches$RowTable" "bits" "I" ∈ gtb := gtb_in 236 (by decide +kernel) (by decide +kernel)
theorem g_237 : Cond.fieldLink RX6 19 "BellTouches$RowTable" "fill" "I" ∈ gtb := gtb_in 237 (by decide +kernel) (by decide +kernel)
theorem g_245 : Cond.arrayClass .long ∈ gtb := gtb_in 245 (by decide +kernel) (by decide +kernel)
theorem g_246 : Cond.fieldLink RX5 9 "BellTouches$Ringing" "rows" "[I" ∈ gtb := gtb_in 246 (by decide +kernel) (by decide +kernel)
theorem g_247 : Cond.fieldLink RX5 15 "BellTouches$Ringing" "last" "I" ∈ gtb := gtb_in 247 (by decide +kernel) (by decide +kernel)
theorem g_248 : Cond.fieldLinkNest RX10 158 "BellTouches$Ringing" "last" "I" "BellTouches" ∈ ntb := ntb_in 248 (by decide +kernel) (by decide +kernel)
theorem g_249 : Cond.fieldLink RX5 19 "BellTouches$Ringing" "many" "I" ∈ gtb := gtb_in 249 (by decide +kernel) (by decide +kernel)
theorem g_250 : Cond.fieldLink RX5 25 "BellTouches$Ringing" "seen" "LBellTouches$RowTable;" ∈ gtb := gtb_in 250 (by decide +kernel) (by decide +kernel)
theorem g_260 : Cond.classLink RX10 54 RX0 ∈ gtb := gtb_in 260 (by decide +kernel) (by decide +kernel)
theorem g_261 : Cond.instantiable RX0 4 ∈ gtb := gtb_in 261 (by decide +kernel) (by decide +kernel)
theorem g_262 : Cond.methodLinkNest RX10 56 yX0_init "BellTouches" ∈ ntb := ntb_in 262 (by decide +kernel) (by decide +kernel)
theorem g_263 : Cond.instanceMethod yX0_init ∈ gtb := gtb_in 263 (by decide +kernel) (by decide +kernel)
theorem g_264 : Cond.code yX0_init cX0_init 1 none ∈ gtb := gtb_in 264 (by decide +kernel) (by decide +kernel)
theorem g_265 : Cond.methodLink RX0 3 objectInit ∈ gtb := gtb_in 265 (by decide +kernel) (by decide +kernel)
theorem g_266 : Cond.fieldLink RX0 9 "BellTouches$FalseHeads" "plainRows" "[I" ∈ gtb := gtb_in 266 (by decide +kernel) (by decide +kernel)
theorem g_267 : Cond.fieldLink RX0 15 "BellTouches$FalseHeads" "numbers" "[I" ∈ gtb := gtb_in 267 (by decide +kernel) (by decide +kernel)
theorem g_268 : Cond.fieldLink RX0 18 "BellTouches$FalseHeads" "size" "I" ∈ gtb := gtb_in 268 (by decide +kernel) (by decide +kernel)
theorem g_269 : Cond.fieldLinkNest RX10 202 "BellTouches$FalseHeads" "size" "I" "BellTouches" ∈ ntb := ntb_in 269 (by decide +kernel) (by decide +kernel)
theorem g_270 : Cond.fieldLink RX0 22 "BellTouches$FalseHeads" "known" "Z" ∈ gtb := gtb_in 270 (by decide +kernel) (by decide +kernel)
theorem g_280 : Cond.classLink RX10 61 RX8 ∈ gtb := gtb_in 280 (by decide +kernel) (by decide +kernel)
theorem g_281 : Cond.instantiable RX8 5 ∈ gtb := gtb_in 281 (by decide +kernel) (by decide +kernel)
theorem g_282 : Cond.methodLinkNest RX10 63 yX8_init "BellTouches" ∈ ntb := ntb_in 282 (by decide +kernel) (by decide +kernel)
theorem g_283 : Cond.instanceMethod yX8_init ∈ gtb := gtb_in 283 (by decide +kernel) (by decide +kernel)
theorem g_284 : Cond.code yX8_init cX8_init 1 none ∈ gtb := gtb_in 284 (by decide +kernel) (by decide +kernel)
theorem g_285 : Cond.methodLink RX8 3 objectInit ∈ gtb := gtb_in 285 (by decide +kernel) (by decide +kernel)
theorem g_286 : Cond.classLink RX8 9 RX6 ∈ gtb := gtb_in 286 (by decide +kernel) (by decide +kernel)
theorem g_287 : Cond.methodLinkNest RX8 11 yX6_init "BellTouches" ∈ ntb := ntb_in 287 (by decide +kernel) (by decide +kernel)
theorem g_288 : Cond.fieldLink RX8 12 "BellTouches$Search" "found" "LBellTouches$RowTable;" ∈ gtb := gtb_in 288 (by decide +kernel) (by decide +kernel)
theorem g_289 : Cond.fieldLink RX8 18 "BellTouches$Search" "queue" "[I" ∈ gtb := gtb_in 289 (by decide +kernel) (by decide +kernel)
theorem g_290 : Cond.fieldLink RX8 22 "BellTouches$Search" "size" "I" ∈ gtb := gtb_in 290 (by decide +kernel) (by decide +kernel)
theorem g_291 : Cond.fieldLink RX8 26 "BellTouches$Search" "lettersFound" "I" ∈ gtb := gtb_in 291 (by decide +kernel) (by decide +kernel)
theorem g_292 : Cond.fieldLink RX8 29 "BellTouches$Search" "reachedCounts" "[I" ∈ gtb := gtb_in 292 (by decide +kernel) (by decide +kernel)
theorem g_304 : Cond.classLink RX10 68 RX2 ∈ gtb := gtb_in 304 (by decide +kernel) (by decide +kernel)
theorem g_305 : Cond.instantiable RX2 2 ∈ gtb := gtb_in 305 (by decide +kernel) (by decide +kernel)
theorem g_306 : Cond.methodLinkNest RX10 70 yX2_init "BellTouches" ∈ ntb := ntb_in 306 (by decide +kernel) (by decide +kernel)
theorem g_307 : Cond.instanceMethod yX2_init ∈ gtb := gtb_in 307 (by decide +kernel) (by decide +kernel)
theorem g_308 : Cond.code yX2_init cX2_init 1 none ∈ gtb := gtb_in 308 (by decide +kernel) (by decide +kernel)
theorem g_309 : Cond.methodLink RX2 3 objectInit ∈ gtb := gtb_in 309 (by decide +kernel) (by decide +kernel)
theorem g_310 : Cond.classLink RX2 15 RX6 ∈ gtb := gtb_in 310 (by decide +kernel) (by decide +kernel)
theorem g_311 : Cond.methodLinkNest RX2 17 yX6_init "BellTouches" ∈ ntb := ntb_in 311 (by decide +kernel) (by decide +kernel)
theorem g_312 : Cond.fieldLink RX2 11 "BellTouches$Longest" "ends" "[I" ∈ gtb := gtb_in 312 (by decide +kernel) (by decide +kernel)
theorem g_313 : Cond.fieldLink RX2 18 "BellTouches$Longest" "rung" "LBellTouches$RowTable;" ∈ gtb := gtb_in 313 (by decide +kernel) (by decide +kernel)
theorem g_319 : Cond.methodLink RX10 75 yX9_begin ∈ gtb := gtb_in 319 (by decide +kernel) (by decide +kernel)
theorem g_320 : Cond.instanceMethod yX9_begin ∈ gtb := gtb_in 320 (by decide +kernel) (by decide +kernel)
theorem g_321 : Cond.selects RX9 yX9_begin yX9_begin ∈ gtb := gtb_in 321 (by decide +kernel) (by decide +kernel)
theorem g_322 : Cond.code yX9_begin cX9_begin 3 none ∈ gtb := gtb_in 322 (by decide +kernel) (by decide +kernel)
theorem g_323 : Cond.methodLink RX10 79 yX10_settle ∈ gtb := gtb_in 323 (by decide +kernel) (by decide +kernel)
theorem g_325 : Cond.instanceMethod yX10_settle ∈ gtb := gtb_in 325 (by decide +kernel) (by decide +kernel)
theorem g_326 : Cond.code yX10_settle cX10_settle 1 none ∈ gtb := gtb_in 326 (by decide +kernel) (by decide +kernel)
theorem g_327 : Cond.methodLink RX10 236 yX1_prepare ∈ gtb := gtb_in 327 (by decide +kernel) (by decide +kernel)
theorem g_328 : Cond.instanceMethod yX1_prepare ∈ gtb := gtb_in 328 (by decide +kernel) (by decide +kernel)
theorem g_329 : Cond.selects RX1 yX1_prepare yX1_prepare ∈ gtb := gtb_in 329 (by decide +kernel) (by decide +kernel)
theorem g_330 : Cond.code yX1_prepare cX1_prepare 3 none ∈ gtb := gtb_in 330 (by decide +kernel) (by decide +kernel)
theorem g_331 : Cond.methodLink RX1 40 yX7_rounds ∈ gtb := gtb_in 331 (by decide +kernel) (by decide +kernel)
theorem g_332 : Cond.static yX7_rounds ∈ gtb := gtb_in 332 (by decide +kernel) (by decide +kernel)
theorem g_333 : Cond.code yX7_rounds cX7_rounds 3 (some .int) ∈ gtb := gtb_in 333 (by decide +kernel) (by decide +kernel)
theorem g_334 : Cond.methodLink RX1 51 yX7_step ∈ gtb := gtb_in 334 (by decide +kernel) (by decide +kernel)
theorem g_335 : Cond.static yX7_step ∈ gtb := gtb_in 335 (by decide +kernel) (by decide +kernel)
theorem g_336 : Cond.code yX7_step cX7_step 4 (some .int) ∈ gtb := gtb_in 336 (by decide +kernel) (by decide +kernel)
theorem g_337 : Cond.methodLink RX1 55 yX7_stepped ∈ gtb := gtb_in 337 (by decide +kernel) (by decide +kernel)
theorem g_338 : Cond.static yX7_stepped ∈ gtb := gtb_in 338 (by decide +kernel) (by decide +kernel)
theorem g_339 : Cond.code yX7_stepped cX7_stepped 3 (some .int) ∈ gtb := gtb_in 339 (by decide +kernel) (by decide +kernel)
theorem g_340 : Cond.methodLink RX10 138 yX5_ring ∈ gtb := gtb_in 340 (by decide +kernel) (by decide +kernel)
theorem g_341 : Cond.instanceMethod yX5_ring ∈ gtb := gtb_in 341 (by decide +kernel) (by decide +kernel)
theorem g_342 : Cond.selects RX5 yX5_ring yX5_ring ∈ gtb := gtb_in 342 (by decide +kernel) (by decide +kernel)
theorem g_343 : Cond.code yX5_ring cX5_ring 5 none ∈ gtb := gtb_in 343 (by decide +kernel) (by decide +kernel)
theorem g_344 : Cond.methodLink RX5 46 yX5_add ∈ gtb := gtb_in 344 (by decide +kernel) (by decide +kernel)
theorem g_346 : Cond.instanceMethod yX5_add ∈ gtb := gtb_in 346 (by decide +kernel) (by decide +kernel)
theorem g_347 : Cond.code yX5_add cX5_add 2 none ∈ gtb := gtb_in 347 (by decide +kernel) (by decide +kernel)
theorem g_348 : Cond.methodLink RX5 57 yX7_stepped ∈ gtb := gtb_in 348 (by decide +kernel) (by decide +kernel)
theorem g_349 : Cond.methodLink RX5 53 yX1_endOf ∈ gtb := gtb_in 349 (by decide +kernel) (by decide +kernel)
theorem g_350 : Cond.instanceMethod yX1_endOf ∈ gtb := gtb_in 350 (by decide +kernel) (by decide +kernel)
theorem g_351 : Cond.selects RX1 yX1_endOf yX1_endOf ∈ gtb := gtb_in 351 (by decide +kernel) (by decide +kernel)
theorem g_352 : Cond.code yX1_endOf cX1_endOf 2 (some .int) ∈ gtb := gtb_in 352 (by decide +kernel) (by decide +kernel)
theorem g_353 : Cond.methodLink RX10 239 yX0_forget ∈ gtb := gtb_in 353 (by decide +kernel) (by decide +kernel)
theorem g_354 : Cond.instanceMethod yX0_forget ∈ gtb := gtb_in 354 (by decide +kernel) (by decide +kernel)
theorem g_355 : Cond.selects RX0 yX0_forget yX0_forget ∈ gtb := gtb_in 355 (by decide +kernel) (by decide +kernel)
theorem g_356 : Cond.code yX0_forget cX0_forget 1 none ∈ gtb := gtb_in 356 (by decide +kernel) (by decide +kernel)
theorem g_357 : Cond.methodLink RX10 242 yX8_forget ∈ gtb := gtb_in 357 (by decide +kernel) (by decide +kernel)
theorem g_358 : Cond.instanceMethod yX8_forget ∈ gtb := gtb_in 358 (by decide +kernel) (by decide +kernel)
theorem g_359 : Cond.selects RX8 yX8_forget yX8_forget ∈ gtb := gtb_in 359 (by decide +kernel) (by decide +kernel)
theorem g_360 : Cond.code yX8_forget cX8_forget 2 none ∈ gtb := gtb_in 360 (by decide +kernel) (by decide +kernel)
theorem g_361 : Cond.fieldLink RX10 10 "BellTouches" "now" "LBellTouches$Setting;" ∈ gtb := gtb_in 361 (by decide +kernel) (by decide +kernel)
theorem g_362 : Cond.fieldLink RX10 16 "BellTouches" "firstImage" "LBellTouches$Setting;" ∈ gtb := gtb_in 362 (by decide +kernel) (by decide +kernel)
theorem g_363 : Cond.fieldLink RX10 19 "BellTouches" "secondImage" "LBellTouches$Setting;" ∈ gtb := gtb_in 363 (by decide +kernel) (by decide +kernel)
theorem g_364 : Cond.fieldLink RX10 22 "BellTouches" "imagesKept" "I" ∈ gtb := gtb_in 364 (by decide +kernel) (by decide +kernel)
theorem g_365 : Cond.fieldLink RX10 29 "BellTouches" "pad" "LBellTouches$Pad;" ∈ gtb := gtb_in 365 (by decide +kernel) (by decide +kernel)
theorem g_366 : Cond.fieldLink RX10 36 "BellTouches" "notation" "LBellTouches$Notation;" ∈ gtb := gtb_in 366 (by decide +kernel) (by decide +kernel)
theorem g_367 : Cond.fieldLink RX10 43 "BellTouches" "leads" "LBellTouches$Leads;" ∈ gtb := gtb_in 367 (by decide +kernel) (by decide +kernel)
theorem g_368 : Cond.fieldLink RX10 50 "BellTouches" "ringing" "LBellTouches$Ringing;" ∈ gtb := gtb_in 368 (by decide +kernel) (by decide +kernel)
theorem g_369 : Cond.fieldLink RX10 57 "BellTouches" "falseHeads" "LBellTouches$FalseHeads;" ∈ gtb := gtb_in 369 (by decide +kernel) (by decide +kernel)
theorem g_370 : Cond.fieldLink RX10 64 "BellTouches" "search" "LBellTouches$Search;" ∈ gtb := gtb_in 370 (by decide +kernel) (by decide +kernel)
theorem g_371 : Cond.fieldLink RX10 71 "BellTouches" "touches" "LBellTouches$Longest;" ∈ gtb := gtb_in 371 (by decide +kernel) (by decide +kernel)
theorem g_395 : Cond.methodLink RL 13 yX10_bells ∈ gtb := gtb_in 395 (by decide +kernel) (by decide +kernel)
theorem g_396 : Cond.instanceMethod yX10_bells ∈ gtb := gtb_in 396 (by decide +kernel) (by decide +kernel)
theorem g_397 : Cond.selects RX10 yX10_bells yX10_bells ∈ gtb := gtb_in 397 (by decide +kernel) (by decide +kernel)
theorem g_398 : Cond.code yX10_bells cX10_bells 3 (some .int) ∈ gtb := gtb_in 398 (by decide +kernel) (by decide +kernel)
theorem g_399 : Cond.methodLink RL 18 yX10_say ∈ gtb := gtb_in 399 (by decide +kernel) (by decide +kernel)
theorem g_400 : Cond.instanceMethod yX10_say ∈ gtb := gtb_in 400 (by decide +kernel) (by decide +kernel)
theorem g_401 : Cond.selects RX10 yX10_say yX10_say ∈ gtb := gtb_in 401 (by decide +kernel) (by decide +kernel)
theorem g_402 : Cond.code yX10_say cX10_say 2 (some .int) ∈ gtb := gtb_in 402 (by decide +kernel) (by decide +kernel)
theorem g_403 : Cond.methodLink RX10 85 yX4_add ∈ gtb := gtb_in 403 (by decide +kernel) (by decide +kernel)
theorem g_404 : Cond.instanceMethod yX4_add ∈ gtb := gtb_in 404 (by decide +kernel) (by decide +kernel)
theorem g_405 : Cond.selects RX4 yX4_add yX4_add ∈ gtb := gtb_in 405 (by decide +kernel) (by decide +kernel)
theorem g_406 : Cond.code yX4_add cX4_add 2 (some .boolean) ∈ gtb := gtb_in 406 (by decide +kernel) (by decide +kernel)
theorem g_407 : Cond.methodLink RL 22 yX10_wipe ∈ gtb := gtb_in 407 (by decide +kernel) (by decide +kernel)
theorem g_408 : Cond.instanceMethod yX10_wipe ∈ gtb := gtb_in 408 (by decide +kernel) (by decide +kernel)
theorem g_409 : Cond.selects RX10 yX10_wipe yX10_wipe ∈ gtb := gtb_in 409 (by decide +kernel) (by decide +kernel)
theorem g_410 : Cond.code yX10_wipe cX10_wipe 2 (some .int) ∈ gtb := gtb_in 410 (by decide +kernel) (by decide +kernel)
theorem g_411 : Cond.methodLink RL 27 yX10_fault ∈ gtb := gtb_in 411 (by decide +kernel) (by decide +kernel)
theorem g_412 : Cond.instanceMethod yX10_fault ∈ gtb := gtb_in 412 (by decide +kernel) (by decide +kernel)
theorem g_413 : Cond.selects RX10 yX10_fault yX10_fault ∈ gtb := gtb_in 413 (by decide +kernel) (by decide +kernel)
theorem g_414 : Cond.code yX10_fault cX10_fault 2 (some .int) ∈ gtb := gtb_in 414 (by decide +kernel) (by decide +kernel)
theorem g_415 : Cond.methodLink RX10 92 yX3_read ∈ gtb := gtb_in 415 (by decide +kernel) (by decide +kernel)
theorem g_416 : Cond.instanceMethod yX3_read ∈ gtb := gtb_in 416 (by decide +kernel) (by decide +kernel)
theorem g_417 : Cond.selects RX3 yX3_read yX3_read ∈ gtb := gtb_in 417 (by decide +kernel) (by decide +kernel)
theorem g_418 : Cond.code yX3_read cX3_read 5 (some .int) ∈ gtb := gtb_in 418 (by decide +kernel) (by decide +kernel)
theorem g_419 : Cond.methodLink RX3 40 yX3_take ∈ gtb := gtb_in 419 (by decide +kernel) (by decide +kernel)
theorem g_421 : Cond.instanceMethod yX3_take ∈ gtb := gtb_in 421 (by decide +kernel) (by decide +kernel)
theorem g_422 : Cond.code yX3_take cX3_take 2 (some .boolean) ∈ gtb := gtb_in 422 (by decide +kernel) (by decide +kernel)
theorem g_423 : Cond.methodLink RX3 62 yX3_takeCross ∈ gtb := gtb_in 423 (by decide +kernel) (by decide +kernel)
theorem g_425 : Cond.instanceMethod yX3_takeCross ∈ gtb := gtb_in 425 (by decide +kernel) (by decide +kernel)
theorem g_426 : Cond.code yX3_takeCross cX3_takeCross 2 (some .boolean) ∈ gtb := gtb_in 426 (by decide +kernel) (by decide +kernel)
theorem g_427 : Cond.methodLink RX3 44 yX3_changeCanEnd ∈ gtb := gtb_in 427 (by decide +kernel) (by decide +kernel)
theorem g_429 : Cond.instanceMethod yX3_changeCanEnd ∈ gtb := gtb_in 429 (by decide +kernel) (by decide +kernel)
theorem g_430 : Cond.code yX3_changeCanEnd cX3_changeCanEnd 1 (some .boolean) ∈ gtb := gtb_in 430 (by decide +kernel) (by decide +kernel)
theorem g_431 : Cond.methodLink RX3 74 yX3_addSet ∈ gtb := gtb_in 431 (by decide +kernel) (by decide +kernel)
theorem g_433 : Cond.instanceMethod yX3_addSet ∈ gtb := gtb_in 433 (by decide +kernel) (by decide +kernel)
theorem g_434 : Cond.code yX3_addSet cX3_addSet 1 (some .boolean) ∈ gtb := gtb_in 434 (by decide +kernel) (by decide +kernel)
theorem g_435 : Cond.methodLink RX3 65 yX3_takePoint ∈ gtb := gtb_in 435 (by decide +kernel) (by decide +kernel)
theorem g_437 : Cond.instanceMethod yX3_takePoint ∈ gtb := gtb_in 437 (by decide +kernel) (by decide +kernel)
theorem g_438 : Cond.code yX3_takePoint cX3_takePoint 1 (some .boolean) ∈ gtb := gtb_in 438 (by decide +kernel) (by decide +kernel)
theorem g_439 : Cond.methodLink RX3 68 yX3_takeComma ∈ gtb := gtb_in 439 (by decide +kernel) (by decide +kernel)
theorem g_441 : Cond.instanceMethod yX3_takeComma ∈ gtb := gtb_in 441 (by decide +kernel) (by decide +kernel)
theorem g_442 : Cond.code yX3_takeComma cX3_takeComma 1 (some .boolean) ∈ gtb := gtb_in 442 (by decide +kernel) (by decide +kernel)
theorem g_443 : Cond.methodLink RX3 71 yX3_takeFigure ∈ gtb := gtb_in 443 (by decide +kernel) (by decide +kernel)
theorem g_445 : Cond.instanceMethod yX3_takeFigure ∈ gtb := gtb_in 445 (by decide +kernel) (by decide +kernel)
theorem g_446 : Cond.code yX3_takeFigure cX3_takeFigure 4 (some .boolean) ∈ gtb := gtb_in 446 (by decide +kernel) (by decide +kernel)
theorem g_447 : Cond.methodLink RX3 77 Lib.Math.max.name ∈ gtb := gtb_in 447 (by decide +kernel) (by decide +kernel)
theorem g_448 : Cond.static Lib.Math.max.name ∈ gtb := gtb_in 448 (by decide +kernel) (by decide +kernel)
theorem g_449 : Cond.code Lib.Math.max.name Lib.Math.max.code 2 (some .int) ∈ gtb := gtb_in 449 (by decide +kernel) (by decide +kernel)
theorem g_450 : Cond.methodLink RX10 96 yX4_faultAsTouch ∈ gtb := gtb_in 450 (by decide +kernel) (by decide +kernel)
theorem g_451 : Cond.instanceMethod yX4_faultAsTouch ∈ gtb := gtb_in 451 (by decide +kernel) (by decide +kernel)
theorem g_452 : Cond.selects RX4 yX4_faultAsTouch yX4_faultAsTouch ∈ gtb := gtb_in 452 (by decide +kernel) (by decide +kernel)
theorem g_453 : Cond.code yX4_faultAsTouch cX4_faultAsTouch 2 (some .int) ∈ gtb := gtb_in 453 (by decide +kernel) (by decide +kernel)
theorem g_454 : Cond.methodLink RX4 19 yX4_kindOf ∈ gtb := gtb_in 454 (by decide +kernel) (by decide +kernel)
theorem g_455 : Cond.static yX4_kindOf ∈ gtb := gtb_in 455 (by decide +kernel) (by decide +kernel)
theorem g_456 : Cond.code yX4_kindOf cX4_kindOf 1 (some .int) ∈ gtb := gtb_in 456 (by decide +kernel) (by decide +kernel)
theorem g_457 : Cond.methodLink RL 31 yX10_method ∈ gtb := gtb_in 457 (by decide +kernel) (by decide +kernel)
theorem g_458 : Cond.instanceMethod yX10_method ∈ gtb := gtb_in 458 (by decide +kernel) (by decide +kernel)
theorem g_459 : Cond.selects RX10 yX10_method yX10_method ∈ gtb := gtb_in 459 (by decide +kernel) (by decide +kernel)
theorem g_460 : Cond.code yX10_method cX10_method 1 (some .int) ∈ gtb := gtb_in 460 (by decide +kernel) (by decide +kernel)
theorem g_461 : Cond.methodLink RX10 100 yX3_length ∈ gtb := gtb_in 461 (by decide +kernel) (by decide +kernel)
theorem g_462 : Cond.instanceMethod yX3_length ∈ gtb := gtb_in 462 (by decide +kernel) (by decide +kernel)
theorem g_463 : Cond.selects RX3 yX3_length yX3_length ∈ gtb := gtb_in 463 (by decide +kernel) (by decide +kernel)
theorem g_464 : Cond.code yX3_length cX3_length 1 (some .int) ∈ gtb := gtb_in 464 (by decide +kernel) (by decide +kernel)
theorem g_465 : Cond.methodLink RX10 107 yX3_writeTo ∈ gtb := gtb_in 465 (by decide +kernel) (by decide +kernel)
theorem g_466 : Cond.instanceMethod yX3_writeTo ∈ gtb := gtb_in 466 (by decide +kernel) (by decide +kernel)
theorem g_467 : Cond.selects RX3 yX3_writeTo yX3_writeTo ∈ gtb := gtb_in 467 (by decide +kernel) (by decide +kernel)
theorem g_468 : Cond.code yX3_writeTo cX3_writeTo 3 (some .int) ∈ gtb := gtb_in 468 (by decide +kernel) (by decide +kernel)
theorem g_469 : Cond.methodLink RX3 48 yX3_length ∈ gtb := gtb_in 469 (by decide +kernel) (by decide +kernel)
theorem g_470 : Cond.methodLink RX3 52 arraycopyName ∈ gtb := gtb_in 470 (by decide +kernel) (by decide +kernel)
theorem g_471 : Cond.static arraycopyName ∈ gtb := gtb_in 471 (by decide +kernel) (by decide +kernel)
theorem g_472 : Cond.native arraycopyName ∈ gtb := gtb_in 472 (by decide +kernel) (by decide +kernel)
theorem g_473 : Cond.methodLink RX3 58 yX3_writeThereAndBack ∈ gtb := gtb_in 473 (by decide +kernel) (by decide +kernel)
theorem g_475 : Cond.instanceMethod yX3_writeThereAndBack ∈ gtb := gtb_in 475 (by decide +kernel) (by decide +kernel)
theorem g_476 : Cond.code yX3_writeThereAndBack cX3_writeThereAndBack 7 (some .int) ∈ gtb := gtb_in 476 (by decide +kernel) (by decide +kernel)
theorem g_477 : Cond.methodLink RL 35 yX10_call ∈ gtb := gtb_in 477 (by decide +kernel) (by decide +kernel)
theorem g_478 : Cond.instanceMethod yX10_call ∈ gtb := gtb_in 478 (by decide +kernel) (by decide +kernel)
theorem g_479 : Cond.selects RX10 yX10_call yX10_call ∈ gtb := gtb_in 479 (by decide +kernel) (by decide +kernel)
theorem g_480 : Cond.code yX10_call cX10_call 3 (some .int) ∈ gtb := gtb_in 480 (by decide +kernel) (by decide +kernel)
theorem g_481 : Cond.methodLink RX10 114 yX3_firstChange ∈ gtb := gtb_in 481 (by decide +kernel) (by decide +kernel)
theorem g_482 : Cond.instanceMethod yX3_firstChange ∈ gtb := gtb_in 482 (by decide +kernel) (by decide +kernel)
theorem g_483 : Cond.selects RX3 yX3_firstChange yX3_firstChange ∈ gtb := gtb_in 483 (by decide +kernel) (by decide +kernel)
theorem g_484 : Cond.code yX3_firstChange cX3_firstChange 1 (some .int) ∈ gtb := gtb_in 484 (by decide +kernel) (by decide +kernel)
theorem g_485 : Cond.methodLink RX10 123 yJ6_bitCount_0f7a4 ∈ gtb := gtb_in 485 (by decide +kernel) (by decide +kernel)
theorem g_486 : Cond.static yJ6_bitCount_0f7a4 ∈ gtb := gtb_in 486 (by decide +kernel) (by decide +kernel)
theorem g_487 : Cond.code yJ6_bitCount_0f7a4 cJ6_bitCount_0f7a4 1 (some .int) ∈ gtb := gtb_in 487 (by decide +kernel) (by decide +kernel)
theorem g_488 : Cond.constant RJ6 265 (1431655765) ∈ gtb := gtb_in 488 (by decide +kernel) (by decide +kernel)
theorem g_489 : Cond.constant RJ6 266 (858993459) ∈ gtb := gtb_in 489 (by decide +kernel) (by decide +kernel)
theorem g_490 : Cond.constant RJ6 267 (252645135) ∈ gtb := gtb_in 490 (by decide +kernel) (by decide +kernel)
theorem g_491 : Cond.methodLink RL 39 yX10_touch ∈ gtb := gtb_in 491 (by decide +kernel) (by decide +kernel)
theorem g_492 : Cond.instanceMethod yX10_touch ∈ gtb := gtb_in 492 (by decide +kernel) (by decide +kernel)
theorem g_493 : Cond.selects RX10 yX10_touch yX10_touch ∈ gtb := gtb_in 493 (by decide +kernel) (by decide +kernel)
theorem g_494 : Cond.code yX10_touch cX10_touch 1 (some .int) ∈ gtb := gtb_in 494 (by decide +kernel) (by decide +kernel)
theorem g_495 : Cond.methodLink RX10 132 yX4_writeTouchTo ∈ gtb := gtb_in 495 (by decide +kernel) (by decide +kernel)
theorem g_496 : Cond.instanceMethod yX4_writeTouchTo ∈ gtb := gtb_in 496 (by decide +kernel) (by decide +kernel)
theorem g_497 : Cond.selects RX4 yX4_writeTouchTo yX4_writeTouchTo ∈ gtb := gtb_in 497 (by decide +kernel) (by decide +kernel)
theorem g_498 : Cond.code yX4_writeTouchTo cX4_writeTouchTo 4 (some .int) ∈ gtb := gtb_in 498 (by decide +kernel) (by decide +kernel)
theorem g_499 : Cond.methodLink RX4 23 Lib.Math.min.name ∈ gtb := gtb_in 499 (by decide +kernel) (by decide +kernel)
theorem g_500 : Cond.static Lib.Math.min.name ∈ gtb := gtb_in 500 (by decide +kernel) (by decide +kernel)
theorem g_501 : Cond.code Lib.Math.min.name Lib.Math.min.code 2 (some .int) ∈ gtb := gtb_in 501 (by decide +kernel) (by decide +kernel)
theorem g_502 : Cond.methodLink RL 43 yX10_change ∈ gtb := gtb_in 502 (by decide +kernel) (by decide +kernel)
theorem g_503 : Cond.instanceMethod yX10_change ∈ gtb := gtb_in 503 (by decide +kernel) (by decide +kernel)
theorem g_504 : Cond.selects RX10 yX10_change yX10_change ∈ gtb := gtb_in 504 (by decide +kernel) (by decide +kernel)
theorem g_505 : Cond.code yX10_change cX10_change 2 (some .int) ∈ gtb := gtb_in 505 (by decide +kernel) (by decide +kernel)
theorem g_506 : Cond.methodLink RL 47 yX10_row ∈ gtb := gtb_in 506 (by decide +kernel) (by decide +kernel)
theorem g_507 : Cond.instanceMethod yX10_row ∈ gtb := gtb_in 507 (by decide +kernel) (by decide +kernel)
theorem g_508 : Cond.selects RX10 yX10_row yX10_row ∈ gtb := gtb_in 508 (by decide +kernel) (by decide +kernel)
theorem g_509 : Cond.code yX10_row cX10_row 2 (some .int) ∈ gtb := gtb_in 509 (by decide +kernel) (by decide +kernel)
theorem g_510 : Cond.methodLink RX10 142 yX10_hasMethodAndTouch ∈ gtb := gtb_in 510 (by decide +kernel) (by decide +kernel)
theorem g_512 : Cond.instanceMethod yX10_hasMethodAndTouch ∈ gtb := gtb_in 512 (by decide +kernel) (by decide +kernel)
theorem g_513 : Cond.code yX10_hasMethodAndTouch cX10_hasMethodAndTouch 1 (some .boolean) ∈ gtb := gtb_in 513 (by decide +kernel) (by decide +kernel)
theorem g_514 : Cond.methodLink RX10 146 yX5_has ∈ gtb := gtb_in 514 (by decide +kernel) (by decide +kernel)
theorem g_515 : Cond.instanceMethod yX5_has ∈ gtb := gtb_in 515 (by decide +kernel) (by decide +kernel)
theorem g_516 : Cond.selects RX5 yX5_has yX5_has ∈ gtb := gtb_in 516 (by decide +kernel) (by decide +kernel)
theorem g_517 : Cond.code yX5_has cX5_has 2 (some .boolean) ∈ gtb := gtb_in 517 (by decide +kernel) (by decide +kernel)
theorem g_518 : Cond.methodLink RX10 149 yX5_rowAt ∈ gtb := gtb_in 518 (by decide +kernel) (by decide +kernel)
theorem g_519 : Cond.instanceMethod yX5_rowAt ∈ gtb := gtb_in 519 (by decide +kernel) (by decide +kernel)
theorem g_520 : Cond.selects RX5 yX5_rowAt yX5_rowAt ∈ gtb := gtb_in 520 (by decide +kernel) (by decide +kernel)
theorem g_521 : Cond.code yX5_rowAt cX5_rowAt 2 (some .int) ∈ gtb := gtb_in 521 (by decide +kernel) (by decide +kernel)
theorem g_522 : Cond.methodLink RX5 63 yX5_has ∈ gtb := gtb_in 522 (by decide +kernel) (by decide +kernel)
theorem g_523 : Cond.methodLink RX10 152 yX7_number ∈ gtb := gtb_in 523 (by decide +kernel) (by decide +kernel)
theorem g_524 : Cond.static yX7_number ∈ gtb := gtb_in 524 (by decide +kernel) (by decide +kernel)
theorem g_525 : Cond.code yX7_number cX7_number 4 (some .int) ∈ gtb := gtb_in 525 (by decide +kernel) (by decide +kernel)
theorem g_526 : Cond.methodLink RX7 11 yX7_bellAt ∈ gtb := gtb_in 526 (by decide +kernel) (by decide +kernel)
theorem g_527 : Cond.static yX7_bellAt ∈ gtb := gtb_in 527 (by decide +kernel) (by decide +kernel)
theorem g_528 : Cond.code yX7_bellAt cX7_bellAt 2 (some .int) ∈ gtb := gtb_in 528 (by decide +kernel) (by decide +kernel)
theorem g_529 : Cond.methodLink RL 51 yX10_told ∈ gtb := gtb_in 529 (by decide +kernel) (by decide +kernel)
theorem g_530 : Cond.instanceMethod yX10_told ∈ gtb := gtb_in 530 (by decide +kernel) (by decide +kernel)
theorem g_531 : Cond.selects RX10 yX10_told yX10_told ∈ gtb := gtb_in 531 (by decide +kernel) (by decide +kernel)
theorem g_532 : Cond.code yX10_told cX10_told 2 (some .int) ∈ gtb := gtb_in 532 (by decide +kernel) (by decide +kernel)
theorem g_533 : Cond.methodLink RX10 161 yX5_firstFalse ∈ gtb := gtb_in 533 (by decide +kernel) (by decide +kernel)
theorem g_534 : Cond.instanceMethod yX5_firstFalse ∈ gtb := gtb_in 534 (by decide +kernel) (by decide +kernel)
theorem g_535 : Cond.selects RX5 yX5_firstFalse yX5_firstFalse ∈ gtb := gtb_in 535 (by decide +kernel) (by decide +kernel)
theorem g_536 : Cond.code yX5_firstFalse cX5_firstFalse 2 (some .int) ∈ gtb := gtb_in 536 (by decide +kernel) (by decide +kernel)
theorem g_537 : Cond.methodLink RX5 67 yX6_empty ∈ gtb := gtb_in 537 (by decide +kernel) (by decide +kernel)
theorem g_538 : Cond.instanceMethod yX6_empty ∈ gtb := gtb_in 538 (by decide +kernel) (by decide +kernel)
theorem g_539 : Cond.selects RX6 yX6_empty yX6_empty ∈ gtb := gtb_in 539 (by decide +kernel) (by decide +kernel)
theorem g_540 : Cond.code yX6_empty cX6_empty 2 none ∈ gtb := gtb_in 540 (by decide +kernel) (by decide +kernel)
theorem g_541 : Cond.methodLink RX5 70 yX6_put ∈ gtb := gtb_in 541 (by decide +kernel) (by decide +kernel)
theorem g_542 : Cond.instanceMethod yX6_put ∈ gtb := gtb_in 542 (by decide +kernel) (by decide +kernel)
theorem g_543 : Cond.selects RX6 yX6_put yX6_put ∈ gtb := gtb_in 543 (by decide +kernel) (by decide +kernel)
theorem g_544 : Cond.code yX6_put cX6_put 4 (some .boolean) ∈ gtb := gtb_in 544 (by decide +kernel) (by decide +kernel)
theorem g_545 : Cond.methodLink RX6 22 yX6_slotOf ∈ gtb := gtb_in 545 (by decide +kernel) (by decide +kernel)
theorem g_547 : Cond.instanceMethod yX6_slotOf ∈ gtb := gtb_in 547 (by decide +kernel) (by decide +kernel)
theorem g_548 : Cond.code yX6_slotOf cX6_slotOf 7 (some .int) ∈ gtb := gtb_in 548 (by decide +kernel) (by decide +kernel)
theorem g_549 : Cond.constant RX6 31 (-1640531535) ∈ gtb := gtb_in 549 (by decide +kernel) (by decide +kernel)
theorem g_550 : Cond.constant RX6 30 (16777215) ∈ gtb := gtb_in 550 (by decide +kernel) (by decide +kernel)
theorem g_551 : Cond.methodLink RX6 26 yX6_isTaken ∈ gtb := gtb_in 551 (by decide +kernel) (by decide +kernel)
theorem g_553 : Cond.instanceMethod yX6_isTaken ∈ gtb := gtb_in 553 (by decide +kernel) (by decide +kernel)
theorem g_554 : Cond.code yX6_isTaken cX6_isTaken 2 (some .boolean) ∈ gtb := gtb_in 554 (by decide +kernel) (by decide +kernel)
theorem g_555 : Cond.methodLink RX10 164 yX5_falseRows ∈ gtb := gtb_in 555 (by decide +kernel) (by decide +kernel)
theorem g_556 : Cond.instanceMethod yX5_falseRows ∈ gtb := gtb_in 556 (by decide +kernel) (by decide +kernel)
theorem g_557 : Cond.selects RX5 yX5_falseRows yX5_falseRows ∈ gtb := gtb_in 557 (by decide +kernel) (by decide +kernel)
theorem g_558 : Cond.code yX5_falseRows cX5_falseRows 3 (some .int) ∈ gtb := gtb_in 558 (by decide +kernel) (by decide +kernel)
theorem g_559 : Cond.methodLink RX10 167 yX5_comesRoundAt ∈ gtb := gtb_in 559 (by decide +kernel) (by decide +kernel)
theorem g_560 : Cond.instanceMethod yX5_comesRoundAt ∈ gtb := gtb_in 560 (by decide +kernel) (by decide +kernel)
theorem g_561 : Cond.selects RX5 yX5_comesRoundAt yX5_comesRoundAt ∈ gtb := gtb_in 561 (by decide +kernel) (by decide +kernel)
theorem g_562 : Cond.code yX5_comesRoundAt cX5_comesRoundAt 2 (some .int) ∈ gtb := gtb_in 562 (by decide +kernel) (by decide +kernel)
theorem g_563 : Cond.methodLink RX10 170 yX5_likedRows ∈ gtb := gtb_in 563 (by decide +kernel) (by decide +kernel)
theorem g_564 : Cond.instanceMethod yX5_likedRows ∈ gtb := gtb_in 564 (by decide +kernel) (by decide +kernel)
theorem g_565 : Cond.selects RX5 yX5_likedRows yX5_likedRows ∈ gtb := gtb_in 565 (by decide +kernel) (by decide +kernel)
theorem g_566 : Cond.code yX5_likedRows cX5_likedRows 3 (some .int) ∈ gtb := gtb_in 566 (by decide +kernel) (by decide +kernel)
theorem g_567 : Cond.methodLink RX5 74 yX7_liked ∈ gtb := gtb_in 567 (by decide +kernel) (by decide +kernel)
theorem g_568 : Cond.static yX7_liked ∈ gtb := gtb_in 568 (by decide +kernel) (by decide +kernel)
theorem g_569 : Cond.code yX7_liked cX7_liked 3 (some .boolean) ∈ gtb := gtb_in 569 (by decide +kernel) (by decide +kernel)
theorem g_570 : Cond.methodLink RL 55 yX10_bell ∈ gtb := gtb_in 570 (by decide +kernel) (by decide +kernel)
theorem g_571 : Cond.instanceMethod yX10_bell ∈ gtb := gtb_in 571 (by decide +kernel) (by decide +kernel)
theorem g_572 : Cond.selects RX10 yX10_bell yX10_bell ∈ gtb := gtb_in 572 (by decide +kernel) (by decide +kernel)
theorem g_573 : Cond.code yX10_bell cX10_bell 4 (some .int) ∈ gtb := gtb_in 573 (by decide +kernel) (by decide +kernel)
theorem g_574 : Cond.methodLink RX10 173 yX7_placeOf ∈ gtb := gtb_in 574 (by decide +kernel) (by decide +kernel)
theorem g_575 : Cond.static yX7_placeOf ∈ gtb := gtb_in 575 (by decide +kernel) (by decide +kernel)
theorem g_576 : Cond.code yX7_placeOf cX7_placeOf 4 (some .int) ∈ gtb := gtb_in 576 (by decide +kernel) (by decide +kernel)
theorem g_577 : Cond.methodLink RX10 177 yX5_placesEverOf ∈ gtb := gtb_in 577 (by decide +kernel) (by decide +kernel)
theorem g_578 : Cond.instanceMethod yX5_placesEverOf ∈ gtb := gtb_in 578 (by decide +kernel) (by decide +kernel)
theorem g_579 : Cond.selects RX5 yX5_placesEverOf yX5_placesEverOf ∈ gtb := gtb_in 579 (by decide +kernel) (by decide +kernel)
theorem g_580 : Cond.code yX5_placesEverOf cX5_placesEverOf 4 (some .int) ∈ gtb := gtb_in 580 (by decide +kernel) (by decide +kernel)
theorem g_581 : Cond.methodLink RX5 77 yX7_placeOf ∈ gtb := gtb_in 581 (by decide +kernel) (by decide +kernel)
theorem g_582 : Cond.methodLink RX5 81 yJ6_bitCount_0f7a4 ∈ gtb := gtb_in 582 (by decide +kernel) (by decide +kernel)
theorem g_583 : Cond.methodLink RX10 180 yX5_timesFirst ∈ gtb := gtb_in 583 (by decide +kernel) (by decide +kernel)
theorem g_584 : Cond.instanceMethod yX5_timesFirst ∈ gtb := gtb_in 584 (by decide +kernel) (by decide +kernel)
theorem g_585 : Cond.selects RX5 yX5_timesFirst yX5_timesFirst ∈ gtb := gtb_in 585 (by decide +kernel) (by decide +kernel)
theorem g_586 : Cond.code yX5_timesFirst cX5_timesFirst 4 (some .int) ∈ gtb := gtb_in 586 (by decide +kernel) (by decide +kernel)
theorem g_587 : Cond.methodLink RX5 86 yX7_bellAt ∈ gtb := gtb_in 587 (by decide +kernel) (by decide +kernel)
theorem g_588 : Cond.methodLink RX10 183 yX5_longestStay ∈ gtb := gtb_in 588 (by decide +kernel) (by decide +kernel)
theorem g_589 : Cond.instanceMethod yX5_longestStay ∈ gtb := gtb_in 589 (by decide +kernel) (by decide +kernel)
theorem g_590 : Cond.selects RX5 yX5_longestStay yX5_longestStay ∈ gtb := gtb_in 590 (by decide +kernel) (by decide +kernel)
theorem g_591 : Cond.code yX5_longestStay cX5_longestStay 7 (some .int) ∈ gtb := gtb_in 591 (by decide +kernel) (by decide +kernel)
theorem g_592 : Cond.methodLink RX5 89 Lib.Math.max.name ∈ gtb := gtb_in 592 (by decide +kernel) (by decide +kernel)
theorem g_593 : Cond.methodLink RL 60 yX10_head ∈ gtb := gtb_in 593 (by decide +kernel) (by decide +kernel)
theorem g_594 : Cond.instanceMethod yX10_head ∈ gtb := gtb_in 594 (by decide +kernel) (by decide +kernel)
theorem g_595 : Cond.selects RX10 yX10_head yX10_head ∈ gtb := gtb_in 595 (by decide +kernel) (by decide +kernel)
theorem g_596 : Cond.code yX10_head cX10_head 3 (some .int) ∈ gtb := gtb_in 596 (by decide +kernel) (by decide +kernel)
theorem g_597 : Cond.methodLink RX10 186 yX10_hasMethod ∈ gtb := gtb_in 597 (by decide +kernel) (by decide +kernel)
theorem g_599 : Cond.instanceMethod yX10_hasMethod ∈ gtb := gtb_in 599 (by decide +kernel) (by decide +kernel)
theorem g_600 : Cond.code yX10_hasMethod cX10_hasMethod 1 (some .boolean) ∈ gtb := gtb_in 600 (by decide +kernel) (by decide +kernel)
theorem g_601 : Cond.methodLink RX10 192 yX1_after ∈ gtb := gtb_in 601 (by decide +kernel) (by decide +kernel)
theorem g_602 : Cond.instanceMethod yX1_after ∈ gtb := gtb_in 602 (by decide +kernel) (by decide +kernel)
theorem g_603 : Cond.selects RX1 yX1_after yX1_after ∈ gtb := gtb_in 603 (by decide +kernel) (by decide +kernel)
theorem g_604 : Cond.code yX1_after cX1_after 3 (some .int) ∈ gtb := gtb_in 604 (by decide +kernel) (by decide +kernel)
theorem g_605 : Cond.methodLink RX1 64 yX7_through ∈ gtb := gtb_in 605 (by decide +kernel) (by decide +kernel)
theorem g_606 : Cond.static yX7_through ∈ gtb := gtb_in 606 (by decide +kernel) (by decide +kernel)
theorem g_607 : Cond.code yX7_through cX7_through 6 (some .int) ∈ gtb := gtb_in 607 (by decide +kernel) (by decide +kernel)
theorem g_608 : Cond.methodLink RX1 68 yX1_endOf ∈ gtb := gtb_in 608 (by decide +kernel) (by decide +kernel)
theorem g_609 : Cond.methodLink RX10 195 yX1_untilRounds ∈ gtb := gtb_in 609 (by decide +kernel) (by decide +kernel)
theorem g_610 : Cond.instanceMethod yX1_untilRounds ∈ gtb := gtb_in 610 (by decide +kernel) (by decide +kernel)
theorem g_611 : Cond.selects RX1 yX1_untilRounds yX1_untilRounds ∈ gtb := gtb_in 611 (by decide +kernel) (by decide +kernel)
theorem g_612 : Cond.code yX1_untilRounds cX1_untilRounds 5 (some .int) ∈ gtb := gtb_in 612 (by decide +kernel) (by decide +kernel)
theorem g_613 : Cond.methodLink RX1 74 yX7_howMany ∈ gtb := gtb_in 613 (by decide +kernel) (by decide +kernel)
theorem g_614 : Cond.static yX7_howMany ∈ gtb := gtb_in 614 (by decide +kernel) (by decide +kernel)
theorem g_615 : Cond.code yX7_howMany cX7_howMany 3 (some .int) ∈ gtb := gtb_in 615 (by decide +kernel) (by decide +kernel)
theorem g_616 : Cond.methodLink RX1 77 yX1_after ∈ gtb := gtb_in 616 (by decide +kernel) (by decide +kernel)
theorem g_617 : Cond.methodLink RL 65 yX10_falseHead ∈ gtb := gtb_in 617 (by decide +kernel) (by decide +kernel)
theorem g_618 : Cond.instanceMethod yX10_falseHead ∈ gtb := gtb_in 618 (by decide +kernel) (by decide +kernel)
theorem g_619 : Cond.selects RX10 yX10_falseHead yX10_falseHead ∈ gtb := gtb_in 619 (by decide +kernel) (by decide +kernel)
theorem g_620 : Cond.code yX10_falseHead cX10_falseHead 2 (some .int) ∈ gtb := gtb_in 620 (by decide +kernel) (by decide +kernel)
theorem g_621 : Cond.methodLink RX10 198 yX0_collect ∈ gtb := gtb_in 621 (by decide +kernel) (by decide +kernel)
theorem g_622 : Cond.instanceMethod yX0_collect ∈ gtb := gtb_in 622 (by decide +kernel) (by decide +kernel)
theorem g_623 : Cond.selects RX0 yX0_collect yX0_collect ∈ gtb := gtb_in 623 (by decide +kernel) (by decide +kernel)
theorem g_624 : Cond.code yX0_collect cX0_collect 5 none ∈ gtb := gtb_in 624 (by decide +kernel) (by decide +kernel)
theorem g_625 : Cond.methodLink RX0 26 yX0_ringPlainRows ∈ gtb := gtb_in 625 (by decide +kernel) (by decide +kernel)
theorem g_627 : Cond.instanceMethod yX0_ringPlainRows ∈ gtb := gtb_in 627 (by decide +kernel) (by decide +kernel)
theorem g_628 : Cond.code yX0_ringPlainRows cX0_ringPlainRows 4 none ∈ gtb := gtb_in 628 (by decide +kernel) (by decide +kernel)
theorem g_629 : Cond.methodLink RX0 59 yX7_stepped ∈ gtb := gtb_in 629 (by decide +kernel) (by decide +kernel)
theorem g_630 : Cond.methodLink RX0 36 yX7_back ∈ gtb := gtb_in 630 (by decide +kernel) (by decide +kernel)
theorem g_631 : Cond.static yX7_back ∈ gtb := gtb_in 631 (by decide +kernel) (by decide +kernel)
theorem g_632 : Cond.code yX7_back cX7_back 6 (some .int) ∈ gtb := gtb_in 632 (by decide +kernel) (by decide +kernel)
theorem g_633 : Cond.methodLink RX0 42 yX7_bellAt ∈ gtb := gtb_in 633 (by decide +kernel) (by decide +kernel)
theorem g_634 : Cond.methodLink RX0 46 yX7_number ∈ gtb := gtb_in 634 (by decide +kernel) (by decide +kernel)
theorem g_635 : Cond.methodLink RX0 49 yX0_keep ∈ gtb := gtb_in 635 (by decide +kernel) (by decide +kernel)
theorem g_637 : Cond.instanceMethod yX0_keep ∈ gtb := gtb_in 637 (by decide +kernel) (by decide +kernel)
theorem g_638 : Cond.code yX0_keep cX0_keep 3 none ∈ gtb := gtb_in 638 (by decide +kernel) (by decide +kernel)
theorem g_639 : Cond.methodLink RX0 62 yX0_firstNotBelow ∈ gtb := gtb_in 639 (by decide +kernel) (by decide +kernel)
theorem g_641 : Cond.instanceMethod yX0_firstNotBelow ∈ gtb := gtb_in 641 (by decide +kernel) (by decide +kernel)
theorem g_642 : Cond.code yX0_firstNotBelow cX0_firstNotBelow 6 (some .int) ∈ gtb := gtb_in 642 (by decide +kernel) (by decide +kernel)
theorem g_643 : Cond.methodLink RX0 66 arraycopyName ∈ gtb := gtb_in 643 (by decide +kernel) (by decide +kernel)
theorem g_644 : Cond.methodLink RX10 203 yX0_numberAt ∈ gtb := gtb_in 644 (by decide +kernel) (by decide +kernel)
theorem g_645 : Cond.instanceMethod yX0_numberAt ∈ gtb := gtb_in 645 (by decide +kernel) (by decide +kernel)
theorem g_646 : Cond.selects RX0 yX0_numberAt yX0_numberAt ∈ gtb := gtb_in 646 (by decide +kernel) (by decide +kernel)
theorem g_647 : Cond.code yX0_numberAt cX0_numberAt 2 (some .int) ∈ gtb := gtb_in 647 (by decide +kernel) (by decide +kernel)
theorem g_648 : Cond.methodLink RL 69 yX10_reached ∈ gtb := gtb_in 648 (by decide +kernel) (by decide +kernel)
theorem g_649 : Cond.instanceMethod yX10_reached ∈ gtb := gtb_in 649 (by decide +kernel) (by decide +kernel)
theorem g_650 : Cond.selects RX10 yX10_reached yX10_reached ∈ gtb := gtb_in 650 (by decide +kernel) (by decide +kernel)
theorem g_651 : Cond.code yX10_reached cX10_reached 2 (some .int) ∈ gtb := gtb_in 651 (by decide +kernel) (by decide +kernel)
theorem g_652 : Cond.methodLink RX10 206 yX8_rowsReached ∈ gtb := gtb_in 652 (by decide +kernel) (by decide +kernel)
theorem g_653 : Cond.instanceMethod yX8_rowsReached ∈ gtb := gtb_in 653 (by decide +kernel) (by decide +kernel)
theorem g_654 : Cond.selects RX8 yX8_rowsReached yX8_rowsReached ∈ gtb := gtb_in 654 (by decide +kernel) (by decide +kernel)
theorem g_655 : Cond.code yX8_rowsReached cX8_rowsReached 3 (some .int) ∈ gtb := gtb_in 655 (by decide +kernel) (by decide +kernel)
theorem g_656 : Cond.methodLink RX8 32 yX8_find ∈ gtb := gtb_in 656 (by decide +kernel) (by decide +kernel)
theorem g_658 : Cond.instanceMethod yX8_find ∈ gtb := gtb_in 658 (by decide +kernel) (by decide +kernel)
theorem g_659 : Cond.code yX8_find cX8_find 7 none ∈ gtb := gtb_in 659 (by decide +kernel) (by decide +kernel)
theorem g_660 : Cond.methodLink RX8 49 yX7_howMany ∈ gtb := gtb_in 660 (by decide +kernel) (by decide +kernel)
theorem g_661 : Cond.methodLink RX8 54 yX6_empty ∈ gtb := gtb_in 661 (by decide +kernel) (by decide +kernel)
theorem g_662 : Cond.methodLink RX8 61 yX8_add ∈ gtb := gtb_in 662 (by decide +kernel) (by decide +kernel)
theorem g_664 : Cond.instanceMethod yX8_add ∈ gtb := gtb_in 664 (by decide +kernel) (by decide +kernel)
theorem g_665 : Cond.code yX8_add cX8_add 3 none ∈ gtb := gtb_in 665 (by decide +kernel) (by decide +kernel)
theorem g_666 : Cond.methodLink RX8 78 yX6_put ∈ gtb := gtb_in 666 (by decide +kernel) (by decide +kernel)
theorem g_667 : Cond.methodLink RX8 68 yX7_through ∈ gtb := gtb_in 667 (by decide +kernel) (by decide +kernel)
theorem g_668 : Cond.methodLink RX8 72 yX1_endOf ∈ gtb := gtb_in 668 (by decide +kernel) (by decide +kernel)
theorem g_669 : Cond.methodLink RX8 75 yX7_stepped ∈ gtb := gtb_in 669 (by decide +kernel) (by decide +kernel)
theorem g_670 : Cond.methodLink RL 73 yX10_by ∈ gtb := gtb_in 670 (by decide +kernel) (by decide +kernel)
theorem g_671 : Cond.instanceMethod yX10_by ∈ gtb := gtb_in 671 (by decide +kernel) (by decide +kernel)
theorem g_672 : Cond.selects RX10 yX10_by yX10_by ∈ gtb := gtb_in 672 (by decide +kernel) (by decide +kernel)
theorem g_673 : Cond.code yX10_by cX10_by 5 (some .int) ∈ gtb := gtb_in 673 (by decide +kernel) (by decide +kernel)
theorem g_674 : Cond.methodLink RX10 210 yX7_ofNumber ∈ gtb := gtb_in 674 (by decide +kernel) (by decide +kernel)
theorem g_675 : Cond.static yX7_ofNumber ∈ gtb := gtb_in 675 (by decide +kernel) (by decide +kernel)
theorem g_676 : Cond.code yX7_ofNumber cX7_ofNumber 7 (some .int) ∈ gtb := gtb_in 676 (by decide +kernel) (by decide +kernel)
theorem g_677 : Cond.methodLink RX10 213 yX8_fewestLeads ∈ gtb := gtb_in 677 (by decide +kernel) (by decide +kernel)
theorem g_678 : Cond.instanceMethod yX8_fewestLeads ∈ gtb := gtb_in 678 (by decide +kernel) (by decide +kernel)
theorem g_679 : Cond.selects RX8 yX8_fewestLeads yX8_fewestLeads ∈ gtb := gtb_in 679 (by decide +kernel) (by decide +kernel)
theorem g_680 : Cond.code yX8_fewestLeads cX8_fewestLeads 6 (some .int) ∈ gtb := gtb_in 680 (by decide +kernel) (by decide +kernel)
theorem g_681 : Cond.methodLink RX8 36 yX6_tagOf ∈ gtb := gtb_in 681 (by decide +kernel) (by decide +kernel)
theorem g_682 : Cond.instanceMethod yX6_tagOf ∈ gtb := gtb_in 682 (by decide +kernel) (by decide +kernel)
theorem g_683 : Cond.selects RX6 yX6_tagOf yX6_tagOf ∈ gtb := gtb_in 683 (by decide +kernel) (by decide +kernel)
theorem g_684 : Cond.code yX6_tagOf cX6_tagOf 3 (some .int) ∈ gtb := gtb_in 684 (by decide +kernel) (by decide +kernel)
theorem g_685 : Cond.methodLink RX8 40 yX1_ahead ∈ gtb := gtb_in 685 (by decide +kernel) (by decide +kernel)
theorem g_686 : Cond.instanceMethod yX1_ahead ∈ gtb := gtb_in 686 (by decide +kernel) (by decide +kernel)
theorem g_687 : Cond.selects RX1 yX1_ahead yX1_ahead ∈ gtb := gtb_in 687 (by decide +kernel) (by decide +kernel)
theorem g_688 : Cond.code yX1_ahead cX1_ahead 3 (some .int) ∈ gtb := gtb_in 688 (by decide +kernel) (by decide +kernel)
theorem g_689 : Cond.methodLink RX1 71 yX7_back ∈ gtb := gtb_in 689 (by decide +kernel) (by decide +kernel)
theorem g_690 : Cond.methodLink RX10 216 yX8_letterFromEnd ∈ gtb := gtb_in 690 (by decide +kernel) (by decide +kernel)
theorem g_691 : Cond.instanceMethod yX8_letterFromEnd ∈ gtb := gtb_in 691 (by decide +kernel) (by decide +kernel)
theorem g_692 : Cond.selects RX8 yX8_letterFromEnd yX8_letterFromEnd ∈ gtb := gtb_in 692 (by decide +kernel) (by decide +kernel)
theorem g_693 : Cond.code yX8_letterFromEnd cX8_letterFromEnd 6 (some .int) ∈ gtb := gtb_in 693 (by decide +kernel) (by decide +kernel)
theorem g_694 : Cond.methodLink RL 77 yX10_longest ∈ gtb := gtb_in 694 (by decide +kernel) (by decide +kernel)
theorem g_695 : Cond.instanceMethod yX10_longest ∈ gtb := gtb_in 695 (by decide +kernel) (by decide +kernel)
theorem g_696 : Cond.selects RX10 yX10_longest yX10_longest ∈ gtb := gtb_in 696 (by decide +kernel) (by decide +kernel)
theorem g_697 : Cond.code yX10_longest cX10_longest 5 (some .int) ∈ gtb := gtb_in 697 (by decide +kernel) (by decide +kernel)
theorem g_698 : Cond.methodLink RX10 220 yX2_find ∈ gtb := gtb_in 698 (by decide +kernel) (by decide +kernel)
theorem g_699 : Cond.instanceMethod yX2_find ∈ gtb := gtb_in 699 (by decide +kernel) (by decide +kernel)
theorem g_700 : Cond.selects RX2 yX2_find yX2_find ∈ gtb := gtb_in 700 (by decide +kernel) (by decide +kernel)
theorem g_701 : Cond.code yX2_find cX2_find 7 (some .int) ∈ gtb := gtb_in 701 (by decide +kernel) (by decide +kernel)
theorem g_702 : Cond.methodLink RX2 22 yX2_firstOfDepth ∈ gtb := gtb_in 702 (by decide +kernel) (by decide +kernel)
theorem g_703 : Cond.static yX2_firstOfDepth ∈ gtb := gtb_in 703 (by decide +kernel) (by decide +kernel)
theorem g_704 : Cond.code yX2_firstOfDepth cX2_firstOfDepth 3 (some .int) ∈ gtb := gtb_in 704 (by decide +kernel) (by decide +kernel)
theorem g_705 : Cond.methodLink RX2 26 Lib.Math.min.name ∈ gtb := gtb_in 705 (by decide +kernel) (by decide +kernel)
theorem g_706 : Cond.methodLink RX2 32 yX2_growTo ∈ gtb := gtb_in 706 (by decide +kernel) (by decide +kernel)
theorem g_708 : Cond.instanceMethod yX2_growTo ∈ gtb := gtb_in 708 (by decide +kernel) (by decide +kernel)
theorem g_709 : Cond.code yX2_growTo cX2_growTo 4 none ∈ gtb := gtb_in 709 (by decide +kernel) (by decide +kernel)
theorem g_710 : Cond.methodLink RX2 46 yX2_parentOf ∈ gtb := gtb_in 710 (by decide +kernel) (by decide +kernel)
theorem g_711 : Cond.static yX2_parentOf ∈ gtb := gtb_in 711 (by decide +kernel) (by decide +kernel)
theorem g_712 : Cond.code yX2_parentOf cX2_parentOf 1 (some .int) ∈ gtb := gtb_in 712 (by decide +kernel) (by decide +kernel)
theorem g_713 : Cond.methodLink RX2 49 yX2_letterOf ∈ gtb := gtb_in 713 (by decide +kernel) (by decide +kernel)
theorem g_714 : Cond.static yX2_letterOf ∈ gtb := gtb_in 714 (by decide +kernel) (by decide +kernel)
theorem g_715 : Cond.code yX2_letterOf cX2_letterOf 1 (some .int) ∈ gtb := gtb_in 715 (by decide +kernel) (by decide +kernel)
theorem g_716 : Cond.methodLink RX2 52 yX1_after ∈ gtb := gtb_in 716 (by decide +kernel) (by decide +kernel)
theorem g_717 : Cond.methodLink RX2 42 yX2_isTrue ∈ gtb := gtb_in 717 (by decide +kernel) (by decide +kernel)
theorem g_719 : Cond.instanceMethod yX2_isTrue ∈ gtb := gtb_in 719 (by decide +kernel) (by decide +kernel)
theorem g_720 : Cond.code yX2_isTrue cX2_isTrue 6 (some .boolean) ∈ gtb := gtb_in 720 (by decide +kernel) (by decide +kernel)
theorem g_721 : Cond.methodLink RX2 55 yX6_empty ∈ gtb := gtb_in 721 (by decide +kernel) (by decide +kernel)
theorem g_722 : Cond.methodLink RX2 59 yX2_depthOf ∈ gtb := gtb_in 722 (by decide +kernel) (by decide +kernel)
theorem g_723 : Cond.instanceMethod yX2_depthOf ∈ gtb := gtb_in 723 (by decide +kernel) (by decide +kernel)
theorem g_724 : Cond.selects RX2 yX2_depthOf yX2_depthOf ∈ gtb := gtb_in 724 (by decide +kernel) (by decide +kernel)
theorem g_725 : Cond.code yX2_depthOf cX2_depthOf 4 (some .int) ∈ gtb := gtb_in 725 (by decide +kernel) (by decide +kernel)
theorem g_726 : Cond.methodLink RX2 62 yX6_put ∈ gtb := gtb_in 726 (by decide +kernel) (by decide +kernel)
theorem g_727 : Cond.methodLink RX2 66 yX2_insideIsNew ∈ gtb := gtb_in 727 (by decide +kernel) (by decide +kernel)
theorem g_729 : Cond.instanceMethod yX2_insideIsNew ∈ gtb := gtb_in 729 (by decide +kernel) (by decide +kernel)
theorem g_730 : Cond.code yX2_insideIsNew cX2_insideIsNew 5 (some .boolean) ∈ gtb := gtb_in 730 (by decide +kernel) (by decide +kernel)
theorem g_731 : Cond.methodLink RX2 75 yX7_stepped ∈ gtb := gtb_in 731 (by decide +kernel) (by decide +kernel)
theorem g_732 : Cond.methodLink RX10 223 yX2_depthOf ∈ gtb := gtb_in 732 (by decide +kernel) (by decide +kernel)
theorem g_733 : Cond.methodLink RX10 226 yX2_letterFromEnd ∈ gtb := gtb_in 733 (by decide +kernel) (by decide +kernel)
theorem g_734 : Cond.instanceMethod yX2_letterFromEnd ∈ gtb := gtb_in 734 (by decide +kernel) (by decide +kernel)
theorem g_735 : Cond.selects RX2 yX2_letterFromEnd yX2_letterFromEnd ∈ gtb := gtb_in 735 (by decide +kernel) (by decide +kernel)
theorem g_736 : Cond.code yX2_letterFromEnd cX2_letterFromEnd 5 (some .int) ∈ gtb := gtb_in 736 (by decide +kernel) (by decide +kernel)
theorem g_737 : Cond.methodLink RL 81 yX10_image ∈ gtb := gtb_in 737 (by decide +kernel) (by decide +kernel)
theorem g_738 : Cond.instanceMethod yX10_image ∈ gtb := gtb_in 738 (by decide +kernel) (by decide +kernel)
theorem g_739 : Cond.selects RX10 yX10_image yX10_image ∈ gtb := gtb_in 739 (by decide +kernel) (by decide +kernel)
theorem g_740 : Cond.code yX10_image cX10_image 2 (some .int) ∈ gtb := gtb_in 740 (by decide +kernel) (by decide +kernel)
theorem g_741 : Cond.methodLink RX10 228 yX10_imageOf ∈ gtb := gtb_in 741 (by decide +kernel) (by decide +kernel)
theorem g_743 : Cond.instanceMethod yX10_imageOf ∈ gtb := gtb_in 743 (by decide +kernel) (by decide +kernel)
theorem g_744 : Cond.code yX10_imageOf cX10_imageOf 2 (some (.object "BellTouches$Setting")) ∈ gtb := gtb_in 744 (by decide +kernel) (by decide +kernel)
theorem g_745 : Cond.methodLink RX10 232 yX9_copyFrom ∈ gtb := gtb_in 745 (by decide +kernel) (by decide +kernel)
theorem g_746 : Cond.instanceMethod yX9_copyFrom ∈ gtb := gtb_in 746 (by decide +kernel) (by decide +kernel)
theorem g_747 : Cond.selects RX9 yX9_copyFrom yX9_copyFrom ∈ gtb := gtb_in 747 (by decide +kernel) (by decide +kernel)
theorem g_748 : Cond.code yX9_copyFrom cX9_copyFrom 2 none ∈ gtb := gtb_in 748 (by decide +kernel) (by decide +kernel)
theorem g_749 : Cond.methodLink RX9 34 arraycopyName ∈ gtb := gtb_in 749 (by decide +kernel) (by decide +kernel)
theorem g_750 : Cond.methodLink RL 85 yX10_restore ∈ gtb := gtb_in 750 (by decide +kernel) (by decide +kernel)
theorem g_751 : Cond.instanceMethod yX10_restore ∈ gtb := gtb_in 751 (by decide +kernel) (by decide +kernel)
theorem g_752 : Cond.selects RX10 yX10_restore yX10_restore ∈ gtb := gtb_in 752 (by decide +kernel) (by decide +kernel)
theorem g_753 : Cond.code yX10_restore cX10_restore 2 (some .int) ∈ gtb := gtb_in 753 (by decide +kernel) (by decide +kernel)
theorem g_754 : Cond.methodLink RL 89 yX10_count ∈ gtb := gtb_in 754 (by decide +kernel) (by decide +kernel)
theorem g_755 : Cond.instanceMethod yX10_count ∈ gtb := gtb_in 755 (by decide +kernel) (by decide +kernel)
theorem g_756 : Cond.selects RX10 yX10_count yX10_count ∈ gtb := gtb_in 756 (by decide +kernel) (by decide +kernel)
theorem g_757 : Cond.code yX10_count cX10_count 2 (some .int) ∈ gtb := gtb_in 757 (by decide +kernel) (by decide +kernel)
theorem g_758 : Cond.classLink RL 10 RX11 ∈ gtb := gtb_in 758 (by decide +kernel) (by decide +kernel)
theorem g_759 : Cond.instantiable RX11 25 ∈ gtb := gtb_in 759 (by decide +kernel) (by decide +kernel)
theorem g_760 : Cond.methodLink RL 12 yX11_init ∈ gtb := gtb_in 760 (by decide +kernel) (by decide +kernel)
theorem g_761 : Cond.instanceMethod yX11_init ∈ gtb := gtb_in 761 (by decide +kernel) (by decide +kernel)
theorem g_762 : Cond.code yX11_init cX11_init 1 none ∈ gtb := gtb_in 762 (by decide +kernel) (by decide +kernel)
theorem g_763 : Cond.methodLink RX11 1 objectInit ∈ gtb := gtb_in 763 (by decide +kernel) (by decide +kernel)
theorem g_764 : Cond.constant RX11 35 (40320) ∈ gtb := gtb_in 764 (by decide +kernel) (by decide +kernel)
theorem g_765 : Cond.methodLink RX11 57 yX11_lay ∈ gtb := gtb_in 765 (by decide +kernel) (by decide +kernel)
theorem g_767 : Cond.instanceMethod yX11_lay ∈ gtb := gtb_in 767 (by decide +kernel) (by decide +kernel)
theorem g_768 : Cond.code yX11_lay cX11_lay 3 none ∈ gtb := gtb_in 768 (by decide +kernel) (by decide +kernel)
theorem g_769 : Cond.fieldLink RX11 7 "BellTouchesModel" "state" "[I" ∈ gtb := gtb_in 769 (by decide +kernel) (by decide +kernel)
theorem g_770 : Cond.fieldLink RX11 13 "BellTouchesModel" "images" "[I" ∈ gtb := gtb_in 770 (by decide +kernel) (by decide +kernel)
theorem g_771 : Cond.fieldLink RX11 16 "BellTouchesModel" "isKept" "[Z" ∈ gtb := gtb_in 771 (by decide +kernel) (by decide +kernel)
theorem g_772 : Cond.fieldLink RX11 20 "BellTouchesModel" "pad" "[I" ∈ gtb := gtb_in 772 (by decide +kernel) (by decide +kernel)
theorem g_773 : Cond.fieldLink RX11 69 "BellTouchesModel" "said" "I" ∈ gtb := gtb_in 773 (by decide +kernel) (by decide +kernel)
theorem g_774 : Cond.fieldLink RX11 23 "BellTouchesModel" "read" "[I" ∈ gtb := gtb_in 774 (by decide +kernel) (by decide +kernel)
theorem g_775 : Cond.fieldLink RX11 73 "BellTouchesModel" "reads" "I" ∈ gtb := gtb_in 775 (by decide +kernel) (by decide +kernel)
theorem g_776 : Cond.fieldLink RX11 76 "BellTouchesModel" "firsts" "I" ∈ gtb := gtb_in 776 (by decide +kernel) (by decide +kernel)
theorem g_777 : Cond.fieldLink RX11 79 "BellTouchesModel" "last" "I" ∈ gtb := gtb_in 777 (by decide +kernel) (by decide +kernel)
theorem g_778 : Cond.fieldLink RX11 82 "BellTouchesModel" "isOpen" "Z" ∈ gtb := gtb_in 778 (by decide +kernel) (by decide +kernel)
theorem g_779 : Cond.fieldLink RX11 86 "BellTouchesModel" "isBehindPoint" "Z" ∈ gtb := gtb_in 779 (by decide +kernel) (by decide +kernel)
theorem g_780 : Cond.fieldLink RX11 137 "BellTouchesModel" "place" "I" ∈ gtb := gtb_in 780 (by decide +kernel) (by decide +kernel)
theorem g_781 : Cond.fieldLink RX11 26 "BellTouchesModel" "row" "[I" ∈ gtb := gtb_in 781 (by decide +kernel) (by decide +kernel)
theorem g_782 : Cond.fieldLink RX11 29 "BellTouchesModel" "isUsed" "[Z" ∈ gtb := gtb_in 782 (by decide +kernel) (by decide +kernel)
theorem g_783 : Cond.fieldLink RX11 32 "BellTouchesModel" "rows" "[I" ∈ gtb := gtb_in 783 (by decide +kernel) (by decide +kernel)
theorem g_784 : Cond.fieldLink RX11 150 "BellTouchesModel" "rowMany" "I" ∈ gtb := gtb_in 784 (by decide +kernel) (by decide +kernel)
theorem g_785 : Cond.fieldLink RX11 36 "BellTouchesModel" "met" "[I" ∈ gtb := gtb_in 785 (by decide +kernel) (by decide +kernel)
theorem g_786 : Cond.fieldLink RX11 205 "BellTouchesModel" "search" "I" ∈ gtb := gtb_in 786 (by decide +kernel) (by decide +kernel)
theorem g_787 : Cond.fieldLink RX11 39 "BellTouchesModel" "wave" "[I" ∈ gtb := gtb_in 787 (by decide +kernel) (by decide +kernel)
theorem g_788 : Cond.fieldLink RX11 208 "BellTouchesModel" "waved" "I" ∈ gtb := gtb_in 788 (by decide +kernel) (by decide +kernel)
theorem g_789 : Cond.fieldLink RX11 42 "BellTouchesModel" "one" "[I" ∈ gtb := gtb_in 789 (by decide +kernel) (by decide +kernel)
theorem g_790 : Cond.fieldLink RX11 45 "BellTouchesModel" "wrapped" "[I" ∈ gtb := gtb_in 790 (by decide +kernel) (by decide +kernel)
theorem g_791 : Cond.fieldLink RX11 48 "BellTouchesModel" "cameFrom" "[I" ∈ gtb := gtb_in 791 (by decide +kernel) (by decide +kernel)
theorem g_792 : Cond.fieldLink RX11 51 "BellTouchesModel" "cameBy" "[I" ∈ gtb := gtb_in 792 (by decide +kernel) (by decide +kernel)
theorem g_793 : Cond.fieldLink RX11 54 "BellTouchesModel" "deep" "[I" ∈ gtb := gtb_in 793 (by decide +kernel) (by decide +kernel)
theorem g_845 : Cond.arrayClass .boolean ∈ gtb := gtb_in 845 (by decide +kernel) (by decide +kernel)
theorem g_846 : Cond.methodLink RL 17 yX11_bells ∈ gtb := gtb_in 846 (by decide +kernel) (by decide +kernel)
theorem g_847 : Cond.instanceMethod yX11_bells ∈ gtb := gtb_in 847 (by decide +kernel) (by decide +kernel)
theorem g_848 : Cond.selects RX11 yX11_bells yX11_bells ∈ gtb := gtb_in 848 (by decide +kernel) (by decide +kernel)
theorem g_849 : Cond.code yX11_bells cX11_bells 3 (some .int) ∈ gtb := gtb_in 849 (by decide +kernel) (by decide +kernel)
theorem g_850 : Cond.methodLink RX11 61 yX11_in ∈ gtb := gtb_in 850 (by decide +kernel) (by decide +kernel)
theorem g_851 : Cond.static yX11_in ∈ gtb := gtb_in 851 (by decide +kernel) (by decide +kernel)
theorem g_852 : Cond.code yX11_in cX11_in 3 (some .boolean) ∈ gtb := gtb_in 852 (by decide +kernel) (by decide +kernel)
theorem g_853 : Cond.methodLink RX11 65 yX11_many ∈ gtb := gtb_in 853 (by decide +kernel) (by decide +kernel)
theorem g_855 : Cond.instanceMethod yX11_many ∈ gtb := gtb_in 855 (by decide +kernel) (by decide +kernel)
theorem g_856 : Cond.code yX11_many cX11_many 1 (some .int) ∈ gtb := gtb_in 856 (by decide +kernel) (by decide +kernel)
theorem g_857 : Cond.methodLink RL 21 yX11_say ∈ gtb := gtb_in 857 (by decide +kernel) (by decide +kernel)
theorem g_858 : Cond.instanceMethod yX11_say ∈ gtb := gtb_in 858 (by decide +kernel) (by decide +kernel)
theorem g_859 : Cond.selects RX11 yX11_say yX11_say ∈ gtb := gtb_in 859 (by decide +kernel) (by decide +kernel)
theorem g_860 : Cond.code yX11_say cX11_say 2 (some .int) ∈ gtb := gtb_in 860 (by decide +kernel) (by decide +kernel)
theorem g_861 : Cond.methodLink RL 26 yX11_wipe ∈ gtb := gtb_in 861 (by decide +kernel) (by decide +kernel)
theorem g_862 : Cond.instanceMethod yX11_wipe ∈ gtb := gtb_in 862 (by decide +kernel) (by decide +kernel)
theorem g_863 : Cond.selects RX11 yX11_wipe yX11_wipe ∈ gtb := gtb_in 863 (by decide +kernel) (by decide +kernel)
theorem g_864 : Cond.code yX11_wipe cX11_wipe 2 (some .int) ∈ gtb := gtb_in 864 (by decide +kernel) (by decide +kernel)
theorem g_865 : Cond.methodLink RL 30 yX11_fault ∈ gtb := gtb_in 865 (by decide +kernel) (by decide +kernel)
theorem g_866 : Cond.instanceMethod yX11_fault ∈ gtb := gtb_in 866 (by decide +kernel) (by decide +kernel)
theorem g_867 : Cond.selects RX11 yX11_fault yX11_fault ∈ gtb := gtb_in 867 (by decide +kernel) (by decide +kernel)
theorem g_868 : Cond.code yX11_fault cX11_fault 2 (some .int) ∈ gtb := gtb_in 868 (by decide +kernel) (by decide +kernel)
theorem g_869 : Cond.methodLink RX11 128 yX11_methodFault ∈ gtb := gtb_in 869 (by decide +kernel) (by decide +kernel)
theorem g_871 : Cond.instanceMethod yX11_methodFault ∈ gtb := gtb_in 871 (by decide +kernel) (by decide +kernel)
theorem g_872 : Cond.code yX11_methodFault cX11_methodFault 2 (some .int) ∈ gtb := gtb_in 872 (by decide +kernel) (by decide +kernel)
theorem g_873 : Cond.methodLink RX11 118 yX11_begin ∈ gtb := gtb_in 873 (by decide +kernel) (by decide +kernel)
theorem g_875 : Cond.instanceMethod yX11_begin ∈ gtb := gtb_in 875 (by decide +kernel) (by decide +kernel)
theorem g_876 : Cond.code yX11_begin cX11_begin 1 none ∈ gtb := gtb_in 876 (by decide +kernel) (by decide +kernel)
theorem g_877 : Cond.methodLink RX11 121 yX11_readSign ∈ gtb := gtb_in 877 (by decide +kernel) (by decide +kernel)
theorem g_879 : Cond.instanceMethod yX11_readSign ∈ gtb := gtb_in 879 (by decide +kernel) (by decide +kernel)
theorem g_880 : Cond.code yX11_readSign cX11_readSign 2 (some .boolean) ∈ gtb := gtb_in 880 (by decide +kernel) (by decide +kernel)
theorem g_881 : Cond.methodLink RX11 106 yX11_readCross ∈ gtb := gtb_in 881 (by decide +kernel) (by decide +kernel)
theorem g_883 : Cond.instanceMethod yX11_readCross ∈ gtb := gtb_in 883 (by decide +kernel) (by decide +kernel)
theorem g_884 : Cond.code yX11_readCross cX11_readCross 1 (some .boolean) ∈ gtb := gtb_in 884 (by decide +kernel) (by decide +kernel)
theorem g_885 : Cond.methodLink RX11 96 yX11_isWhole ∈ gtb := gtb_in 885 (by decide +kernel) (by decide +kernel)
theorem g_887 : Cond.instanceMethod yX11_isWhole ∈ gtb := gtb_in 887 (by decide +kernel) (by decide +kernel)
theorem g_888 : Cond.code yX11_isWhole cX11_isWhole 1 (some .boolean) ∈ gtb := gtb_in 888 (by decide +kernel) (by decide +kernel)
theorem g_889 : Cond.methodLink RX11 100 yX11_close ∈ gtb := gtb_in 889 (by decide +kernel) (by decide +kernel)
theorem g_891 : Cond.instanceMethod yX11_close ∈ gtb := gtb_in 891 (by decide +kernel) (by decide +kernel)
theorem g_892 : Cond.code yX11_close cX11_close 1 none ∈ gtb := gtb_in 892 (by decide +kernel) (by decide +kernel)
theorem g_893 : Cond.methodLink RX11 93 yX11_addChange ∈ gtb := gtb_in 893 (by decide +kernel) (by decide +kernel)
theorem g_895 : Cond.instanceMethod yX11_addChange ∈ gtb := gtb_in 895 (by decide +kernel) (by decide +kernel)
theorem g_896 : Cond.code yX11_addChange cX11_addChange 2 none ∈ gtb := gtb_in 896 (by decide +kernel) (by decide +kernel)
theorem g_897 : Cond.methodLink RX11 109 yX11_readPoint ∈ gtb := gtb_in 897 (by decide +kernel) (by decide +kernel)
theorem g_899 : Cond.instanceMethod yX11_readPoint ∈ gtb := gtb_in 899 (by decide +kernel) (by decide +kernel)
theorem g_900 : Cond.code yX11_readPoint cX11_readPoint 1 (some .boolean) ∈ gtb := gtb_in 900 (by decide +kernel) (by decide +kernel)
theorem g_901 : Cond.methodLink RX11 112 yX11_readComma ∈ gtb := gtb_in 901 (by decide +kernel) (by decide +kernel)
theorem g_903 : Cond.instanceMethod yX11_readComma ∈ gtb := gtb_in 903 (by decide +kernel) (by decide +kernel)
theorem g_904 : Cond.code yX11_readComma cX11_readComma 1 (some .boolean) ∈ gtb := gtb_in 904 (by decide +kernel) (by decide +kernel)
theorem g_905 : Cond.methodLink RX11 103 yX11_mayEnd ∈ gtb := gtb_in 905 (by decide +kernel) (by decide +kernel)
theorem g_907 : Cond.instanceMethod yX11_mayEnd ∈ gtb := gtb_in 907 (by decide +kernel) (by decide +kernel)
theorem g_908 : Cond.code yX11_mayEnd cX11_mayEnd 1 (some .boolean) ∈ gtb := gtb_in 908 (by decide +kernel) (by decide +kernel)
theorem g_909 : Cond.methodLink RX11 115 yX11_readFigure ∈ gtb := gtb_in 909 (by decide +kernel) (by decide +kernel)
theorem g_911 : Cond.instanceMethod yX11_readFigure ∈ gtb := gtb_in 911 (by decide +kernel) (by decide +kernel)
theorem g_912 : Cond.code yX11_readFigure cX11_readFigure 2 (some .boolean) ∈ gtb := gtb_in 912 (by decide +kernel) (by decide +kernel)
theorem g_913 : Cond.methodLink RX11 89 yX11_canStay ∈ gtb := gtb_in 913 (by decide +kernel) (by decide +kernel)
theorem g_915 : Cond.instanceMethod yX11_canStay ∈ gtb := gtb_in 915 (by decide +kernel) (by decide +kernel)
theorem g_916 : Cond.code yX11_canStay cX11_canStay 3 (some .boolean) ∈ gtb := gtb_in 916 (by decide +kernel) (by decide +kernel)
theorem g_917 : Cond.methodLink RX11 131 yX11_changeFault ∈ gtb := gtb_in 917 (by decide +kernel) (by decide +kernel)
theorem g_919 : Cond.instanceMethod yX11_changeFault ∈ gtb := gtb_in 919 (by decide +kernel) (by decide +kernel)
theorem g_920 : Cond.code yX11_changeFault cX11_changeFault 3 (some .int) ∈ gtb := gtb_in 920 (by decide +kernel) (by decide +kernel)
theorem g_921 : Cond.methodLink RX11 134 yX11_touchFault ∈ gtb := gtb_in 921 (by decide +kernel) (by decide +kernel)
theorem g_923 : Cond.instanceMethod yX11_touchFault ∈ gtb := gtb_in 923 (by decide +kernel) (by decide +kernel)
theorem g_924 : Cond.code yX11_touchFault cX11_touchFault 2 (some .int) ∈ gtb := gtb_in 924 (by decide +kernel) (by decide +kernel)
theorem g_925 : Cond.methodLink RX11 124 yX11_letterOf ∈ gtb := gtb_in 925 (by decide +kernel) (by decide +kernel)
theorem g_926 : Cond.static yX11_letterOf ∈ gtb := gtb_in 926 (by decide +kernel) (by decide +kernel)
theorem g_927 : Cond.code yX11_letterOf cX11_letterOf 1 (some .int) ∈ gtb := gtb_in 927 (by decide +kernel) (by decide +kernel)
theorem g_928 : Cond.methodLink RL 34 yX11_method ∈ gtb := gtb_in 928 (by decide +kernel) (by decide +kernel)
theorem g_929 : Cond.instanceMethod yX11_method ∈ gtb := gtb_in 929 (by decide +kernel) (by decide +kernel)
theorem g_930 : Cond.selects RX11 yX11_method yX11_method ∈ gtb := gtb_in 930 (by decide +kernel) (by decide +kernel)
theorem g_931 : Cond.code yX11_method cX11_method 3 (some .int) ∈ gtb := gtb_in 931 (by decide +kernel) (by decide +kernel)
theorem g_932 : Cond.methodLink RX11 140 yX11_putThere ∈ gtb := gtb_in 932 (by decide +kernel) (by decide +kernel)
theorem g_934 : Cond.instanceMethod yX11_putThere ∈ gtb := gtb_in 934 (by decide +kernel) (by decide +kernel)
theorem g_935 : Cond.code yX11_putThere cX11_putThere 4 none ∈ gtb := gtb_in 935 (by decide +kernel) (by decide +kernel)
theorem g_936 : Cond.methodLink RL 38 yX11_call ∈ gtb := gtb_in 936 (by decide +kernel) (by decide +kernel)
theorem g_937 : Cond.instanceMethod yX11_call ∈ gtb := gtb_in 937 (by decide +kernel) (by decide +kernel)
theorem g_938 : Cond.selects RX11 yX11_call yX11_call ∈ gtb := gtb_in 938 (by decide +kernel) (by decide +kernel)
theorem g_939 : Cond.code yX11_call cX11_call 2 (some .int) ∈ gtb := gtb_in 939 (by decide +kernel) (by decide +kernel)
theorem g_940 : Cond.methodLink RX11 144 yX11_size ∈ gtb := gtb_in 940 (by decide +kernel) (by decide +kernel)
theorem g_941 : Cond.static yX11_size ∈ gtb := gtb_in 941 (by decide +kernel) (by decide +kernel)
theorem g_942 : Cond.code yX11_size cX11_size 3 (some .int) ∈ gtb := gtb_in 942 (by decide +kernel) (by decide +kernel)
theorem g_943 : Cond.methodLink RL 42 yX11_touch ∈ gtb := gtb_in 943 (by decide +kernel) (by decide +kernel)
theorem g_944 : Cond.instanceMethod yX11_touch ∈ gtb := gtb_in 944 (by decide +kernel) (by decide +kernel)
theorem g_945 : Cond.selects RX11 yX11_touch yX11_touch ∈ gtb := gtb_in 945 (by decide +kernel) (by decide +kernel)
theorem g_946 : Cond.code yX11_touch cX11_touch 2 (some .int) ∈ gtb := gtb_in 946 (by decide +kernel) (by decide +kernel)
theorem g_947 : Cond.methodLink RL 46 yX11_change ∈ gtb := gtb_in 947 (by decide +kernel) (by decide +kernel)
theorem g_948 : Cond.instanceMethod yX11_change ∈ gtb := gtb_in 948 (by decide +kernel) (by decide +kernel)
theorem g_949 : Cond.selects RX11 yX11_change yX11_change ∈ gtb := gtb_in 949 (by decide +kernel) (by decide +kernel)
theorem g_950 : Cond.code yX11_change cX11_change 2 (some .int) ∈ gtb := gtb_in 950 (by decide +kernel) (by decide +kernel)
theorem g_951 : Cond.methodLink RL 50 yX11_row ∈ gtb := gtb_in 951 (by decide +kernel) (by decide +kernel)
theorem g_952 : Cond.instanceMethod yX11_row ∈ gtb := gtb_in 952 (by decide +kernel) (by decide +kernel)
theorem g_953 : Cond.selects RX11 yX11_row yX11_row ∈ gtb := gtb_in 953 (by decide +kernel) (by decide +kernel)
theorem g_954 : Cond.code yX11_row cX11_row 2 (some .int) ∈ gtb := gtb_in 954 (by decide +kernel) (by decide +kernel)
theorem g_955 : Cond.methodLink RX11 163 yX11_isReady ∈ gtb := gtb_in 955 (by decide +kernel) (by decide +kernel)
theorem g_957 : Cond.instanceMethod yX11_isReady ∈ gtb := gtb_in 957 (by decide +kernel) (by decide +kernel)
theorem g_958 : Cond.code yX11_isReady cX11_isReady 1 (some .boolean) ∈ gtb := gtb_in 958 (by decide +kernel) (by decide +kernel)
theorem g_959 : Cond.methodLink RX11 166 yX11_layTouch ∈ gtb := gtb_in 959 (by decide +kernel) (by decide +kernel)
theorem g_961 : Cond.instanceMethod yX11_layTouch ∈ gtb := gtb_in 961 (by decide +kernel) (by decide +kernel)
theorem g_962 : Cond.code yX11_layTouch cX11_layTouch 3 none ∈ gtb := gtb_in 962 (by decide +kernel) (by decide +kernel)
theorem g_963 : Cond.methodLink RX11 147 yX11_layRounds ∈ gtb := gtb_in 963 (by decide +kernel) (by decide +kernel)
theorem g_965 : Cond.instanceMethod yX11_layRounds ∈ gtb := gtb_in 965 (by decide +kernel) (by decide +kernel)
theorem g_966 : Cond.code yX11_layRounds cX11_layRounds 2 none ∈ gtb := gtb_in 966 (by decide +kernel) (by decide +kernel)
theorem g_967 : Cond.methodLink RX11 153 yX11_changeOf ∈ gtb := gtb_in 967 (by decide +kernel) (by decide +kernel)
theorem g_969 : Cond.instanceMethod yX11_changeOf ∈ gtb := gtb_in 969 (by decide +kernel) (by decide +kernel)
theorem g_970 : Cond.code yX11_changeOf cX11_changeOf 3 (some .int) ∈ gtb := gtb_in 970 (by decide +kernel) (by decide +kernel)
theorem g_971 : Cond.methodLink RX11 157 yX11_ring ∈ gtb := gtb_in 971 (by decide +kernel) (by decide +kernel)
theorem g_973 : Cond.instanceMethod yX11_ring ∈ gtb := gtb_in 973 (by decide +kernel) (by decide +kernel)
theorem g_974 : Cond.code yX11_ring cX11_ring 4 none ∈ gtb := gtb_in 974 (by decide +kernel) (by decide +kernel)
theorem g_975 : Cond.methodLink RX11 160 yX11_rank ∈ gtb := gtb_in 975 (by decide +kernel) (by decide +kernel)
theorem g_977 : Cond.instanceMethod yX11_rank ∈ gtb := gtb_in 977 (by decide +kernel) (by decide +kernel)
theorem g_978 : Cond.code yX11_rank cX11_rank 5 (some .int) ∈ gtb := gtb_in 978 (by decide +kernel) (by decide +kernel)
theorem g_979 : Cond.methodLink RX11 169 yX11_layRank ∈ gtb := gtb_in 979 (by decide +kernel) (by decide +kernel)
theorem g_981 : Cond.instanceMethod yX11_layRank ∈ gtb := gtb_in 981 (by decide +kernel) (by decide +kernel)
theorem g_982 : Cond.code yX11_layRank cX11_layRank 6 none ∈ gtb := gtb_in 982 (by decide +kernel) (by decide +kernel)
theorem g_983 : Cond.methodLink RX11 172 yX11_number ∈ gtb := gtb_in 983 (by decide +kernel) (by decide +kernel)
theorem g_985 : Cond.instanceMethod yX11_number ∈ gtb := gtb_in 985 (by decide +kernel) (by decide +kernel)
theorem g_986 : Cond.code yX11_number cX11_number 3 (some .int) ∈ gtb := gtb_in 986 (by decide +kernel) (by decide +kernel)
theorem g_987 : Cond.methodLink RL 54 yX11_told ∈ gtb := gtb_in 987 (by decide +kernel) (by decide +kernel)
theorem g_988 : Cond.instanceMethod yX11_told ∈ gtb := gtb_in 988 (by decide +kernel) (by decide +kernel)
theorem g_989 : Cond.selects RX11 yX11_told yX11_told ∈ gtb := gtb_in 989 (by decide +kernel) (by decide +kernel)
theorem g_990 : Cond.code yX11_told cX11_told 2 (some .int) ∈ gtb := gtb_in 990 (by decide +kernel) (by decide +kernel)
theorem g_991 : Cond.methodLink RX11 181 yX11_firstFalse ∈ gtb := gtb_in 991 (by decide +kernel) (by decide +kernel)
theorem g_993 : Cond.instanceMethod yX11_firstFalse ∈ gtb := gtb_in 993 (by decide +kernel) (by decide +kernel)
theorem g_994 : Cond.code yX11_firstFalse cX11_firstFalse 2 (some .int) ∈ gtb := gtb_in 994 (by decide +kernel) (by decide +kernel)
theorem g_995 : Cond.methodLink RX11 175 yX11_isFalse ∈ gtb := gtb_in 995 (by decide +kernel) (by decide +kernel)
theorem g_997 : Cond.instanceMethod yX11_isFalse ∈ gtb := gtb_in 997 (by decide +kernel) (by decide +kernel)
theorem g_998 : Cond.code yX11_isFalse cX11_isFalse 4 (some .boolean) ∈ gtb := gtb_in 998 (by decide +kernel) (by decide +kernel)
theorem g_999 : Cond.methodLink RX11 184 yX11_falseMany ∈ gtb := gtb_in 999 (by decide +kernel) (by decide +kernel)
theorem g_1001 : Cond.instanceMethod yX11_falseMany ∈ gtb := gtb_in 1001 (by decide +kernel) (by decide +kernel)
theorem g_1002 : Cond.code yX11_falseMany cX11_falseMany 3 (some .int) ∈ gtb := gtb_in 1002 (by decide +kernel) (by decide +kernel)
theorem g_1003 : Cond.methodLink RX11 187 yX11_comesRound ∈ gtb := gtb_in 1003 (by decide +kernel) (by decide +kernel)
theorem g_1005 : Cond.instanceMethod yX11_comesRound ∈ gtb := gtb_in 1005 (by decide +kernel) (by decide +kernel)
theorem g_1006 : Cond.code yX11_comesRound cX11_comesRound 2 (some .int) ∈ gtb := gtb_in 1006 (by decide +kernel) (by decide +kernel)
theorem g_1007 : Cond.methodLink RX11 190 yX11_likedMany ∈ gtb := gtb_in 1007 (by decide +kernel) (by decide +kernel)
theorem g_1009 : Cond.instanceMethod yX11_likedMany ∈ gtb := gtb_in 1009 (by decide +kernel) (by decide +kernel)
theorem g_1010 : Cond.code yX11_likedMany cX11_likedMany 3 (some .int) ∈ gtb := gtb_in 1010 (by decide +kernel) (by decide +kernel)
theorem g_1011 : Cond.methodLink RX11 178 yX11_isLiked ∈ gtb := gtb_in 1011 (by decide +kernel) (by decide +kernel)
theorem g_1013 : Cond.instanceMethod yX11_isLiked ∈ gtb := gtb_in 1013 (by decide +kernel) (by decide +kernel)
theorem g_1014 : Cond.code yX11_isLiked cX11_isLiked 4 (some .boolean) ∈ gtb := gtb_in 1014 (by decide +kernel) (by decide +kernel)
theorem g_1015 : Cond.methodLink RL 59 yX11_bell ∈ gtb := gtb_in 1015 (by decide +kernel) (by decide +kernel)
theorem g_1016 : Cond.instanceMethod yX11_bell ∈ gtb := gtb_in 1016 (by decide +kernel) (by decide +kernel)
theorem g_1017 : Cond.selects RX11 yX11_bell yX11_bell ∈ gtb := gtb_in 1017 (by decide +kernel) (by decide +kernel)
theorem g_1018 : Cond.code yX11_bell cX11_bell 4 (some .int) ∈ gtb := gtb_in 1018 (by decide +kernel) (by decide +kernel)
theorem g_1019 : Cond.methodLink RX11 196 yX11_goesWhere ∈ gtb := gtb_in 1019 (by decide +kernel) (by decide +kernel)
theorem g_1021 : Cond.instanceMethod yX11_goesWhere ∈ gtb := gtb_in 1021 (by decide +kernel) (by decide +kernel)
theorem g_1022 : Cond.code yX11_goesWhere cX11_goesWhere 10 (some .int) ∈ gtb := gtb_in 1022 (by decide +kernel) (by decide +kernel)
theorem g_1023 : Cond.methodLink RX11 193 yX11_placeIn ∈ gtb := gtb_in 1023 (by decide +kernel) (by decide +kernel)
theorem g_1025 : Cond.instanceMethod yX11_placeIn ∈ gtb := gtb_in 1025 (by decide +kernel) (by decide +kernel)
theorem g_1026 : Cond.code yX11_placeIn cX11_placeIn 4 (some .int) ∈ gtb := gtb_in 1026 (by decide +kernel) (by decide +kernel)
theorem g_1027 : Cond.methodLink RL 64 yX11_head ∈ gtb := gtb_in 1027 (by decide +kernel) (by decide +kernel)
theorem g_1028 : Cond.instanceMethod yX11_head ∈ gtb := gtb_in 1028 (by decide +kernel) (by decide +kernel)
theorem g_1029 : Cond.selects RX11 yX11_head yX11_head ∈ gtb := gtb_in 1029 (by decide +kernel) (by decide +kernel)
theorem g_1030 : Cond.code yX11_head cX11_head 3 (some .int) ∈ gtb := gtb_in 1030 (by decide +kernel) (by decide +kernel)
theorem g_1031 : Cond.methodLink RX11 202 yX11_orderOf ∈ gtb := gtb_in 1031 (by decide +kernel) (by decide +kernel)
theorem g_1033 : Cond.instanceMethod yX11_orderOf ∈ gtb := gtb_in 1033 (by decide +kernel) (by decide +kernel)
theorem g_1034 : Cond.code yX11_orderOf cX11_orderOf 4 (some .int) ∈ gtb := gtb_in 1034 (by decide +kernel) (by decide +kernel)
theorem g_1035 : Cond.methodLink RX11 199 yX11_ringLead ∈ gtb := gtb_in 1035 (by decide +kernel) (by decide +kernel)
theorem g_1037 : Cond.instanceMethod yX11_ringLead ∈ gtb := gtb_in 1037 (by decide +kernel) (by decide +kernel)
theorem g_1038 : Cond.code yX11_ringLead cX11_ringLead 3 none ∈ gtb := gtb_in 1038 (by decide +kernel) (by decide +kernel)
theorem g_1039 : Cond.methodLink RL 68 yX11_falseHead ∈ gtb := gtb_in 1039 (by decide +kernel) (by decide +kernel)
theorem g_1040 : Cond.instanceMethod yX11_falseHead ∈ gtb := gtb_in 1040 (by decide +kernel) (by decide +kernel)
theorem g_1041 : Cond.selects RX11 yX11_falseHead yX11_falseHead ∈ gtb := gtb_in 1041 (by decide +kernel) (by decide +kernel)
theorem g_1042 : Cond.code yX11_falseHead cX11_falseHead 4 (some .int) ∈ gtb := gtb_in 1042 (by decide +kernel) (by decide +kernel)
theorem g_1043 : Cond.methodLink RX11 223 yX11_layFalseHeads ∈ gtb := gtb_in 1043 (by decide +kernel) (by decide +kernel)
theorem g_1045 : Cond.instanceMethod yX11_layFalseHeads ∈ gtb := gtb_in 1045 (by decide +kernel) (by decide +kernel)
theorem g_1046 : Cond.code yX11_layFalseHeads cX11_layFalseHeads 3 none ∈ gtb := gtb_in 1046 (by decide +kernel) (by decide +kernel)
theorem g_1047 : Cond.methodLink RX11 211 yX11_layPlain ∈ gtb := gtb_in 1047 (by decide +kernel) (by decide +kernel)
theorem g_1049 : Cond.instanceMethod yX11_layPlain ∈ gtb := gtb_in 1049 (by decide +kernel) (by decide +kernel)
theorem g_1050 : Cond.code yX11_layPlain cX11_layPlain 2 none ∈ gtb := gtb_in 1050 (by decide +kernel) (by decide +kernel)
theorem g_1051 : Cond.methodLink RX11 214 yX11_beginSearch ∈ gtb := gtb_in 1051 (by decide +kernel) (by decide +kernel)
theorem g_1053 : Cond.instanceMethod yX11_beginSearch ∈ gtb := gtb_in 1053 (by decide +kernel) (by decide +kernel)
theorem g_1054 : Cond.code yX11_beginSearch cX11_beginSearch 1 none ∈ gtb := gtb_in 1054 (by decide +kernel) (by decide +kernel)
theorem g_1055 : Cond.methodLink RX11 217 yX11_layHead ∈ gtb := gtb_in 1055 (by decide +kernel) (by decide +kernel)
theorem g_1057 : Cond.instanceMethod yX11_layHead ∈ gtb := gtb_in 1057 (by decide +kernel) (by decide +kernel)
theorem g_1058 : Cond.code yX11_layHead cX11_layHead 5 none ∈ gtb := gtb_in 1058 (by decide +kernel) (by decide +kernel)
theorem g_1059 : Cond.methodLink RX11 220 yX11_meet ∈ gtb := gtb_in 1059 (by decide +kernel) (by decide +kernel)
theorem g_1061 : Cond.instanceMethod yX11_meet ∈ gtb := gtb_in 1061 (by decide +kernel) (by decide +kernel)
theorem g_1062 : Cond.code yX11_meet cX11_meet 2 (some .boolean) ∈ gtb := gtb_in 1062 (by decide +kernel) (by decide +kernel)
theorem g_1063 : Cond.methodLink RL 72 yX11_reached ∈ gtb := gtb_in 1063 (by decide +kernel) (by decide +kernel)
theorem g_1064 : Cond.instanceMethod yX11_reached ∈ gtb := gtb_in 1064 (by decide +kernel) (by decide +kernel)
theorem g_1065 : Cond.selects RX11 yX11_reached yX11_reached ∈ gtb := gtb_in 1065 (by decide +kernel) (by decide +kernel)
theorem g_1066 : Cond.code yX11_reached cX11_reached 2 (some .int) ∈ gtb := gtb_in 1066 (by decide +kernel) (by decide +kernel)
theorem g_1067 : Cond.methodLink RX11 229 yX11_layReached ∈ gtb := gtb_in 1067 (by decide +kernel) (by decide +kernel)
theorem g_1069 : Cond.instanceMethod yX11_layReached ∈ gtb := gtb_in 1069 (by decide +kernel) (by decide +kernel)
theorem g_1070 : Cond.code yX11_layReached cX11_layReached 4 none ∈ gtb := gtb_in 1070 (by decide +kernel) (by decide +kernel)
theorem g_1071 : Cond.methodLink RX11 226 yX11_goOn ∈ gtb := gtb_in 1071 (by decide +kernel) (by decide +kernel)
theorem g_1073 : Cond.instanceMethod yX11_goOn ∈ gtb := gtb_in 1073 (by decide +kernel) (by decide +kernel)
theorem g_1074 : Cond.code yX11_goOn cX11_goOn 4 none ∈ gtb := gtb_in 1074 (by decide +kernel) (by decide +kernel)
theorem g_1075 : Cond.methodLink RL 76 yX11_by ∈ gtb := gtb_in 1075 (by decide +kernel) (by decide +kernel)
theorem g_1076 : Cond.instanceMethod yX11_by ∈ gtb := gtb_in 1076 (by decide +kernel) (by decide +kernel)
theorem g_1077 : Cond.selects RX11 yX11_by yX11_by ∈ gtb := gtb_in 1077 (by decide +kernel) (by decide +kernel)
theorem g_1078 : Cond.code yX11_by cX11_by 5 (some .int) ∈ gtb := gtb_in 1078 (by decide +kernel) (by decide +kernel)
theorem g_1079 : Cond.methodLink RX11 232 yX11_layNumber ∈ gtb := gtb_in 1079 (by decide +kernel) (by decide +kernel)
theorem g_1081 : Cond.instanceMethod yX11_layNumber ∈ gtb := gtb_in 1081 (by decide +kernel) (by decide +kernel)
theorem g_1082 : Cond.code yX11_layNumber cX11_layNumber 5 (some .boolean) ∈ gtb := gtb_in 1082 (by decide +kernel) (by decide +kernel)
theorem g_1083 : Cond.methodLink RL 80 yX11_longest ∈ gtb := gtb_in 1083 (by decide +kernel) (by decide +kernel)
theorem g_1084 : Cond.instanceMethod yX11_longest ∈ gtb := gtb_in 1084 (by decide +kernel) (by decide +kernel)
theorem g_1085 : Cond.selects RX11 yX11_longest yX11_longest ∈ gtb := gtb_in 1085 (by decide +kernel) (by decide +kernel)
theorem g_1086 : Cond.code yX11_longest cX11_longest 5 (some .int) ∈ gtb := gtb_in 1086 (by decide +kernel) (by decide +kernel)
theorem g_1087 : Cond.methodLink RX11 243 yX11_firstGood ∈ gtb := gtb_in 1087 (by decide +kernel) (by decide +kernel)
theorem g_1089 : Cond.instanceMethod yX11_firstGood ∈ gtb := gtb_in 1089 (by decide +kernel) (by decide +kernel)
theorem g_1090 : Cond.code yX11_firstGood cX11_firstGood 4 (some .int) ∈ gtb := gtb_in 1090 (by decide +kernel) (by decide +kernel)
theorem g_1091 : Cond.methodLink RX11 239 yX11_isGood ∈ gtb := gtb_in 1091 (by decide +kernel) (by decide +kernel)
theorem g_1093 : Cond.instanceMethod yX11_isGood ∈ gtb := gtb_in 1093 (by decide +kernel) (by decide +kernel)
theorem g_1094 : Cond.code yX11_isGood cX11_isGood 8 (some .boolean) ∈ gtb := gtb_in 1094 (by decide +kernel) (by decide +kernel)
theorem g_1095 : Cond.methodLink RX11 235 yX11_letterIn ∈ gtb := gtb_in 1095 (by decide +kernel) (by decide +kernel)
theorem g_1097 : Cond.instanceMethod yX11_letterIn ∈ gtb := gtb_in 1097 (by decide +kernel) (by decide +kernel)
theorem g_1098 : Cond.code yX11_letterIn cX11_letterIn 6 (some .int) ∈ gtb := gtb_in 1098 (by decide +kernel) (by decide +kernel)
theorem g_1099 : Cond.methodLink RL 84 yX11_image ∈ gtb := gtb_in 1099 (by decide +kernel) (by decide +kernel)
theorem g_1100 : Cond.instanceMethod yX11_image ∈ gtb := gtb_in 1100 (by decide +kernel) (by decide +kernel)
theorem g_1101 : Cond.selects RX11 yX11_image yX11_image ∈ gtb := gtb_in 1101 (by decide +kernel) (by decide +kernel)
theorem g_1102 : Cond.code yX11_image cX11_image 3 (some .int) ∈ gtb := gtb_in 1102 (by decide +kernel) (by decide +kernel)
theorem g_1103 : Cond.methodLink RL 88 yX11_restore ∈ gtb := gtb_in 1103 (by decide +kernel) (by decide +kernel)
theorem g_1104 : Cond.instanceMethod yX11_restore ∈ gtb := gtb_in 1104 (by decide +kernel) (by decide +kernel)
theorem g_1105 : Cond.selects RX11 yX11_restore yX11_restore ∈ gtb := gtb_in 1105 (by decide +kernel) (by decide +kernel)
theorem g_1106 : Cond.code yX11_restore cX11_restore 3 (some .int) ∈ gtb := gtb_in 1106 (by decide +kernel) (by decide +kernel)
theorem g_1107 : Cond.methodLink RL 92 yX11_count ∈ gtb := gtb_in 1107 (by decide +kernel) (by decide +kernel)
theorem g_1108 : Cond.instanceMethod yX11_count ∈ gtb := gtb_in 1108 (by decide +kernel) (by decide +kernel)
theorem g_1109 : Cond.selects RX11 yX11_count yX11_count ∈ gtb := gtb_in 1109 (by decide +kernel) (by decide +kernel)
theorem g_1110 : Cond.code yX11_count cX11_count 2 (some .int) ∈ gtb := gtb_in 1110 (by decide +kernel) (by decide +kernel)
end
section
/-! THE ABSTRACT STORE: cells by number (0 .. 48), what each is (its shape: an object's class with its fields, or an array's kind and length), ints by cell and field, ints and longs by cell and place -/
abbrev Shp : Type := (Nat × List Value) ⊕ (Nat × Nat)
abbrev Sto : Type := (Nat → Option Shp) × (Nat → Nat → Int32) × (Nat → Nat → Int32) × (Nat → Nat → Int64)
def up1 {α : Type} (f : Nat → α) (k : Nat) (h : α) : Nat → α := fun a => if a = k then h else f a
theorem up1_s {α : Type} (f : Nat → α) (k : Nat) (h : α) : up1 f k h k = h := if_pos rfl
theorem up1_n {α : Type} (f : Nat → α) {k a : Nat} (h : α) (hn : a ≠ k) : up1 f k h a = f a := if_neg hn
def cnc (ad : Nat → Nat) (v : Value) : Value := match v with
  | .ref k => .ref (ad k)
  | v => v
def fvl (ad : Nat → Nat) (x : Int32) (v : Value) : Value := match v with
  | .int _ => .int x
  | .ref k => .ref (ad k)
  | v => v
def cel (cy : Nat → ClassId) (ad : Nat → Nat) (g : Sto) (k : Nat) (s : Shp) : va_E := match s with
  | .inl (ci, fs) => .inr (ci, fs.mapIdx (fun f v => fvl ad (g.2.1 k f) v))
  | .inr (0, n) => .inl (cy 0, n, .inl (g.2.2.1 k))
  | .inr (1, n) => .inl (cy 1, n, .inr (.inl (g.2.2.2 k)))
  | .inr (_, n) => .inl (cy 2, n, .inl (g.2.2.1 k))
def grw (k : Nat) : Bool := k == 19 || k == 25 || k == 26 || k == 31 || k == 48
def cwt (k : Nat) (s : Option Shp) : Nat := match s with
  | none => 0
  | some (.inl _) => 1
  | some (.inr (_, n)) => if k = 48 then 1 else 1 + Nat.log2 n
def swt (k : Nat) (s : Option Shp) : Nat := match s with
  | none => 0
  | some (.inl (_, fs)) => fs.length
  | some (.inr (_, n)) => if k = 48 then n else 2 * n
def cU (sh : Nat → Option Shp) : Nat := ((List.range 49).map (fun k => cwt k (sh k))).sum
def sU (sh : Nat → Option Shp) : Nat := ((List.range 49).map (fun k => swt k (sh k))).sum
def Fit (sh : Nat → Option Shp) : Prop := cU sh ≤ 60000 ∧ sU sh ≤ 730225
/-- the heap holds the store, cell j at the address ad j; cells are apart, none below bs -/
def Rep (D : va_G) (cy : Nat → ClassId) (bs : Nat) (ad : Nat → Nat) (g : Sto) (H : Heap) : Prop :=
  (∀ (k : Nat) (s : Shp), g.1 k = some s → va_at D vwCl (ad k, cel cy ad g k s) H) ∧ (∀ j k : Nat, g.1 j ≠ none → g.1 k ≠ none → ad j = ad k → j = k) ∧ (∀ k : Nat, g.1 k ≠ none → bs ≤ ad k) ∧ (∀ k : Nat, 49 ≤ k → g.1 k = none) ∧ Fit g.1
/-- a world of the kit with all cells of the store -/
theorem Rep.list {D : va_G} {cy : Nat → ClassId} {bs : Nat} {ad : Nat → Nat} {g : Sto} {H : Heap} (h : Rep D cy bs ad g H) :
    ∃ ws : va_W, va_P D vwCl ws H ∧ va_D (fun q => bs ≤ q) ws ∧ (∀ (k : Nat) (s : Shp), g.1 k = some s → ∃ q0 : Nat, ws[q0]? = some (ad k, cel cy ad g k s)) ∧
      ∀ (q0 k : Nat) (e0 e : va_E) (H1 : Heap), g.1 k ≠ none → ws[q0]? = some (ad k, e0) → va_P D vwCl (ws.set q0 (ad k, e)) H1 → va_at D vwCl (ad k, e) H1 ∧ ∀ (j : Nat) (s : Shp), j ≠ k → g.1 j = some s → va_at D vwCl (ad j, cel cy ad g j s) H1 := by
  obtain ⟨h1, h2, h3, h4, -⟩ := h
  have hm : ∀ q : Nat × va_E, q ∈ (List.range 49).filterMap (fun k => (g.1 k).map (fun s => (ad k, cel cy ad g k s))) ↔ ∃ (k : Nat) (s : Shp), g.1 k = some s ∧ q = (ad k, cel cy ad g k s) := by
    intro q
    rw [List.mem_filterMap]
    constructor
    · rintro ⟨k, -, hk⟩
      cases hs : g.1 k with
      | none => rw [hs] at hk; cases hk
      | some s => rw [hs] at hk; cases hk; exact ⟨k, s, hs, rfl⟩
    · rintro ⟨k, s, hs, rfl⟩
      refine ⟨k, List.mem_range.mpr ?_, by rw [hs]; rfl⟩
      rcases Nat.lt_or_ge k 49 with q | q
      · exact q
      · rw [h4 k q] at hs; cases hs
  generalize hw : (List.range 49).filterMap (fun k => (g.1 k).map (fun s => (ad k, cel cy ad g k s))) = ws at hm
  have hinj : ∀ (i j : Nat) (p q : Nat × va_E), ws[i]? = some p → ws[j]? = some q → p.1 = q.1 → i = j := by
    have hnd : ∀ (l : List Nat), l.Nodup → ∀ (i j : Nat) (p q : Nat × va_E), (l.filterMap (fun k => (g.1 k).map (fun s => (ad k, cel cy ad g k s))))[i]? = some p → (l.filterMap (fun k => (g.1 k).map (fun s => (ad k, cel cy ad g k s))))[j]? = some q → p.1 = q.1 → i = j := by
      intro l
      induction l with
      | nil => intro _ i j p q hi; simp at hi
      | cons a l ih =>
        intro hn i j p q hi hj hpq
        rw [List.nodup_cons] at hn
        cases hs : g.1 a with
        | none =>
          rw [List.filterMap_cons_none (by rw [hs]; rfl)] at hi hj
          exact ih hn.2 i j p q hi hj hpq
        | some s =>
          rw [List.filterMap_cons_some (b := (ad a, cel cy ad g a s)) (by rw [hs]; rfl)] at hi hj
          have hx : ∀ (i : Nat) (p : Nat × va_E), (l.filterMap (fun k => (g.1 k).map (fun s => (ad k, cel cy ad g k s))))[i]? = some p → p.1 ≠ ad a := by
            intro i p hp e
            obtain ⟨k, hk, hk2⟩ := List.mem_filterMap.mp (List.mem_of_getElem? hp)
            cases hs2 : g.1 k with
            | none => rw [hs2] at hk2; cases hk2
            | some s2 =>
              rw [hs2] at hk2
              cases hk2
              have := h2 k a (by rw [hs2]; simp) (by rw [hs]; simp) e
              subst this
              exact hn.1 hk
          cases i with
          | zero =>
            cases j with
            | zero => rfl
            | succ j =>
              rw [List.getElem?_cons_zero] at hi
              rw [List.getElem?_cons_succ] at hj
              cases hi
              exact absurd hpq.symm (hx j q hj)
          | succ i =>
            rw [List.getElem?_cons_succ] at hi
            cases j with
            | zero =>
              rw [List.getElem?_cons_zero] at hj
              cases hj
              exact absurd hpq (hx i p hi)
            | succ j =>
              rw [List.getElem?_cons_succ] at hj
              rw [ih hn.2 i j p q hi hj hpq]
    rw [← hw]
    exact hnd _ List.nodup_range
  refine ⟨ws, ?_, ⟨hinj, ?_⟩, ?_, ?_⟩
  · intro k q hq
    obtain ⟨j, s, hs, rfl⟩ := (hm q).mp (List.mem_of_getElem? hq)
    exact h1 j s hs
  · intro k q hq
    obtain ⟨j, s, hs, rfl⟩ := (hm q).mp (List.mem_of_getElem? hq)
    exact h3 j (by rw [hs]; simp)
  · intro k s hs
    exact List.getElem?_of_mem ((hm _).mpr ⟨k, s, hs, rfl⟩)
  · intro q0 k e0 e H1 hk h0 hP
    have hl := (List.getElem?_eq_some_iff.mp h0).1
    refine ⟨hP q0 _ (List.getElem?_set_self hl), fun j s hj hs => ?_⟩
    obtain ⟨i, hi⟩ := List.getElem?_of_mem ((hm _).mpr ⟨j, s, hs, rfl⟩)
    have hne : q0 ≠ i := by
      intro e1
      subst e1
      rw [h0] at hi
      have e2 := congrArg (fun z : Nat × va_E => z.1) (Option.some.inj hi)
      exact hj (h2 j k (by rw [hs]; simp) hk e2.symm)
    exact hP i _ (by rw [List.getElem?_set_ne hne]; exact hi)
theorem sum_up (f : Nat → Nat) (f' : Nat → Nat) (k : Nat) (hf : ∀ j, j ≠ k → f' j = f j) : ∀ n, k < n → ((List.range n).map f').sum + f k = ((List.range n).map f).sum + f' k := by
  intro n
  induction n with
  | zero => intro h; omega
  | succ n ih =>
    intro h
    rw [List.range_succ, List.map_append, List.map_append, List.sum_append_nat, List.sum_append_nat]
    simp only [List.map_cons, List.map_nil, List.sum_cons, List.sum_nil, Nat.add_zero]
    by_cases hk : k = n
    · subst hk
      have h2 : (List.range k).map f' = (List.range k).map f := List.map_congr_left fun j hj => hf j (by have := List.mem_range.mp hj; omega)
      rw [h2]; omega
    · have := ih (by omega)
      rw [hf n (fun e => hk e.symm)]
      omega
theorem cU_up {sh sh' : Nat → Option Shp} {k : Nat} (hk : k < 49) (h : ∀ j, j ≠ k → sh' j = sh j) : cU sh' + cwt k (sh k) = cU sh + cwt k (sh' k) :=
  sum_up (fun k => cwt k (sh k)) (fun k => cwt k (sh' k)) k (fun j hj => by show cwt j (sh' j) = cwt j (sh j); rw [h j hj]) 49 hk
theorem sU_up {sh sh' : Nat → Option Shp} {k : Nat} (hk : k < 49) (h : ∀ j, j ≠ k → sh' j = sh j) : sU sh' + swt k (sh k) = sU sh + swt k (sh' k) :=
  sum_up (fun k => swt k (sh k)) (fun k => swt k (sh' k)) k (fun j hj => by show swt j (sh' j) = swt j (sh j); rw [h j hj]) 49 hk
end
section
/-! THE ABSTRACT MACHINE: a step says what must hold ahead of an instruction; wp runs a method's table of steps from one cut to the next; Snd: a step is sound for the instruction at pc -/
abbrev Kon : Type := Nat → List Value → List Value → Sto → Prop
abbrev Rsl : Type := Option Value → Sto → Prop
abbrev Stq : Type := List Value → List Value → Sto → Kon → Rsl → Prop
abbrev Spc : Type := List Value → Sto → Rsl → Prop
abbrev Inq : Type := State → Method → (Nat → Nat) → Nat → Prop
def wp (code : Nat → Stq) (cut : Nat → Bool) (K : Kon) (Q : Rsl) : Nat → Kon
  | 0, _, _, _, _ => False
  | n + 1, pc, ls, st, g => code pc ls st g (fun pc' ls' st' g' => cond (cut pc') (K pc' ls' st' g') (wp code cut K Q n pc' ls' st' g')) Q
/-- a list laid open cell by cell (so that a walk shows it evaluated) -/
def frc : List Value → (List Value → Prop) → Prop
  | [], k => k []
  | v :: l, k => frc l (fun l' => k (v :: l'))
theorem frc_eq : ∀ (l : List Value) (k : List Value → Prop), frc l k = k l
  | [], _ => rfl
  | _ :: l, k => frc_eq l _
/-- a local of which nothing is known -/
abbrev U_ : Value := .float 0
def trk (v : Value) : Bool := match v with
  | .float _ => false
  | .double _ => false
  | _ => true
def LR (lsA : Array Slot) (nL : Nat) (ad : Nat → Nat) (ls : List Value) : Prop := ls.length ≤ nL ∧ lsA.size = nL ∧ lv_wf lsA ∧ ∀ (i : Nat) (v : Value), ls[i]? = some v → trk v = true → lsA[i]? = some (.val (cnc ad v))
def lvl (ad : Nat → Nat) (ls : List Value) (nL : Nat) : List (Nat × Value) := (List.range nL).filterMap (fun j => match ls[j]? with
  | some w => if trk w = true then some (j, cnc ad w) else none
  | none => none)
theorem lvl_mem {ad : Nat → Nat} {ls : List Value} {nL : Nat} {q : Nat × Value} : q ∈ lvl ad ls nL ↔ ∃ w, q.1 < nL ∧ ls[q.1]? = some w ∧ trk w = true ∧ q.2 = cnc ad w := by
  unfold lvl
  rw [List.mem_filterMap]
  constructor
  · rintro ⟨j, hj, h⟩
    split at h
    · rename_i w hw
      split at h
      · rename_i ht
        cases h
        exact ⟨w, List.mem_range.mp hj, hw, ht, rfl⟩
      · cases h
    · cases h
  · rintro ⟨w, h1, h2, h3, h4⟩
    refine ⟨q.1, List.mem_range.mpr h1, ?_⟩
    rw [h2]
    simp only [h3, if_true]
    rw [← h4]
theorem LR.has {lsA : Array Slot} {nL : Nat} {ad : Nat → Nat} {ls : List Value} (h : LR lsA nL ad ls) : lv_has lsA nL (lvl ad ls nL) := by
  refine ⟨h.2.1, h.2.2.1, fun q hq => ?_⟩
  obtain ⟨w, h1, h2, h3, h4⟩ := lvl_mem.mp hq
  rw [h4]
  exact h.2.2.2 _ _ h2 h3
def okst (ls : List Value) (i : Nat) : Bool := match i with
  | 0 => true
  | j + 1 => match ls[j]? with
    | some (.long _) => false
    | _ => true
theorem cnc_cat (ad : Nat → Nat) (v : Value) : (cnc ad v).category = v.category := by cases v <;> rfl
theorem LR.of1 {ls' : Array Slot} {nL : Nat} {ad : Nat → Nat} {ls : List Value} {i : Nat} {v : Value} (h : lv_has ls' nL ((i, cnc ad v) :: (lvl ad ls nL).filter (fun q => !(q.1 == i) && !(q.1 + 1 == i && q.2.category == 2)))) (hok : okst ls i = true) (hl : ls.length ≤ nL) : LR ls' nL ad (ls.set i v) := by
  refine ⟨by rw [List.length_set]; exact hl, h.1, h.2.1, fun j w hj hw => ?_⟩
  by_cases hji : j = i
  · subst hji
    have hlt : j < ls.length := by
      have := (List.getElem?_eq_some_iff.mp hj).1
      rwa [List.length_set] at this
    rw [List.getElem?_set_self hlt] at hj
    cases hj
    exact h.2.2 (j, cnc ad v) List.mem_cons_self
  · rw [List.getElem?_set_ne (fun e => hji e.symm)] at hj
    have hlt : j < nL := Nat.lt_of_lt_of_le (List.getElem?_eq_some_iff.mp hj).1 hl
    refine h.2.2 (j, cnc ad w) (List.mem_cons_of_mem _ (List.mem_filter.mpr ⟨lvl_mem.mpr ⟨w, hlt, hj, hw, rfl⟩, ?_⟩))
    show (!(j == i) && !(j + 1 == i && (cnc ad w).category == 2)) = true
    have e1 : (j == i) = false := by simpa using hji
    rw [e1, cnc_cat]
    by_cases h2 : j + 1 = i
    · subst h2
      have h3 : ¬ w.category = 2 := by
        intro hc
        cases w with
        | long x => simp [okst, hj] at hok
        | double x => cases hw
        | _ => simp [Value.category] at hc
      have e2 : (w.category == 2) = false := by simpa using h3
      rw [e2]; simp
    · have e2 : (j + 1 == i) = false := by simpa using h2
      rw [e2]; rfl
theorem LR.of2 {ls' : Array Slot} {nL : Nat} {ad : Nat → Nat} {ls : List Value} {i : Nat} {v : Value} (h : lv_has ls' nL ((i, cnc ad v) :: (lvl ad ls nL).filter (fun q => !(q.1 == i) && (!(q.1 == i + 1) && !(q.1 + 1 == i && q.2.category == 2))))) (hok : okst ls i = true) (hl : ls.length ≤ nL) : LR ls' nL ad ((ls.set i v).set (i + 1) U_) := by
  refine ⟨by rw [List.length_set, List.length_set]; exact hl, h.1, h.2.1, fun j w hj hw => ?_⟩
  by_cases hj1 : j = i + 1
  · subst hj1
    have hlt : i + 1 < (ls.set i v).length := by
      have := (List.getElem?_eq_some_iff.mp hj).1
      rwa [List.length_set] at this
    rw [List.getElem?_set_self hlt] at hj
    cases hj
    cases hw
  · rw [List.getElem?_set_ne (fun e => hj1 e.symm)] at hj
    by_cases hji : j = i
    · subst hji
      have hlt : j < ls.length := by
        have := (List.getElem?_eq_some_iff.mp hj).1
        rwa [List.length_set] at this
      rw [List.getElem?_set_self hlt] at hj
      cases hj
      exact h.2.2 (j, cnc ad v) List.mem_cons_self
    · rw [List.getElem?_set_ne (fun e => hji e.symm)] at hj
      have hlt : j < nL := Nat.lt_of_lt_of_le (List.getElem?_eq_some_iff.mp hj).1 hl
      refine h.2.2 (j, cnc ad w) (List.mem_cons_of_mem _ (List.mem_filter.mpr ⟨lvl_mem.mpr ⟨w, hlt, hj, hw, rfl⟩, ?_⟩))
      show (!(j == i) && (!(j == i + 1) && !(j + 1 == i && (cnc ad w).category == 2))) = true
      have e1 : (j == i) = false := by simpa using hji
      have e3 : (j == i + 1) = false := by simpa using hj1
      rw [e1, e3, cnc_cat]
      by_cases h2 : j + 1 = i
      · subst h2
        have h3 : ¬ w.category = 2 := by
          intro hc
          cases w with
          | long x => simp [okst, hj] at hok
          | double x => cases hw
          | _ => simp [Value.category] at hc
        have e2 : (w.category == 2) = false := by simpa using h3
        rw [e2]; simp
      · have e2 : (j + 1 == i) = false := by simpa using h2
        rw [e2]; rfl
def tysL (cy : Nat → ClassId) : List (ClassId × FieldType) := [(cy 0, .int), (cy 1, .long), (cy 2, .boolean)]
def Cx (own : String) (cc : ByteArray) (nL : Nat) (p : Program) (s : State) (m : MethodId) (args : Array Value) (c : Code) (D : va_G) (cy : Nat → ClassId) (bs : Nat) : Prop :=
  p.tables.exec = Jvm.exec ∧ c.code = cc ∧ c.maxLocals = nL ∧ s.vm.findClass own = some m.cls ∧ (∀ w ∈ gtb, w.before args s = true) ∧ (∀ w ∈ ntb, va_Nw w s) ∧ va_K D vwCl (tysL cy) s ∧ bs ≤ s.heap.size
def Pnt (nL : Nat) (D : va_G) (cy : Nat → ClassId) (bs : Nat) (s : State) (g0 : Sto) (ad0 ad : Nat → Nat) (g : Sto) (H : Heap) (locs : List Loc) (k n : Nat) (lsA : Array Slot) (ls : List Value) : Prop :=
  Rep D cy bs ad g H ∧ va_S (fun q => bs ≤ q) s.heap H locs ∧ (k + cU g0.1 ≤ cU g.1 ∧ n + sU g0.1 ≤ sU g.1) ∧ LR lsA nL ad ls ∧ (∀ j, (49 ≤ j ∨ g0.1 j ≠ none) → grw j = false → ad j = ad0 j) ∧ ∀ j, g0.1 j ≠ none → grw j = false → g.1 j ≠ none
def Lvl (d : Nat) : Room := { frames := d, cells := (d + 1) * 60000, slots := (d + 1) * 730225, locals := 32 * d + 8 }
def rtn (v : Option Value) (i : Instr) (ret : Option FieldType) : Prop :=
  (v = none ∧ i = .return_ ∧ ret = none) ∨ (∃ (x : Int32) (ty : FieldType), v = some (.int x) ∧ i = .ireturn ∧ ret = some ty ∧ narrow ty (.int x) = .int x) ∨ ∃ (x : Nat) (rt : FieldType), v = some (.ref x) ∧ i = .areturn ∧ ret = some rt ∧ ((∃ n, rt = .object n) ∨ ∃ t, rt = .array t)
section BWs
variable (p : Program) (l : Launch) (e : Env) (R : Room) (s : State) (m : MethodId) (args : Array Value) (below : List Frame) (meth : Method) (c : Code) (Q : State → Prop) (nL : Nat) (D : va_G) (cy : Nat → ClassId) (bs : Nat) (g0 : Sto) (ad0 : Nat → Nat)
def BW (pc : Nat) (ls st : List Value) (g : Sto) : Prop := ∀ (ad : Nat → Nat) (H : Heap) (locs : List Loc) (k n : Nat) (lsA : Array Slot), Pnt nL D cy bs s g0 ad0 ad g H locs k n lsA ls → W p l e R s m args below meth c H locs k n Q (F0 m pc lsA (st.map (cnc ad)))
def Fnd (cc : ByteArray) (ret : Option FieldType) (v : Option Value) (g : Sto) : Prop := ∀ (pc : Nat) (i : Instr) (ad : Nat → Nat) (H : Heap) (locs : List Loc) (k n : Nat) (lsA : Array Slot) (ls : List Value), Pnt nL D cy bs s g0 ad0 ad g H locs k n lsA ls → decode cc pc = .ok (i, 1) → rtn v i ret → W p l e R s m args below meth c H locs k n Q (F0 m pc lsA (v.toList.map (cnc ad)))
end BWs
def Snd (d : Nat) (own : String) (cc : ByteArray) (nL : Nat) (ret : Option FieldType) (ini : Inq) (pc : Nat) (f : Stq) : Prop :=
  ∀ (p : Program) (l : Launch) (e : Env) (s : State) (m : MethodId) (args : Array Value) (below : List Frame) (meth : Method) (c : Code) (Q : State → Prop) (D : va_G) (cy : Nat → ClassId) (bs : Nat) (g0 : Sto) (ad0 : Nat → Nat),
    Cx own cc nL p s m args c D cy bs → ini s meth ad0 bs → ∀ (ls st : List Value) (g : Sto) (K : Kon) (Qr : Rsl), f ls st g K Qr →
    (∀ pc ls st g, K pc ls st g → BW p l e (Lvl d) s m args below meth c Q nL D cy bs g0 ad0 pc ls st g) → (∀ v g, Qr v g → Fnd p l e (Lvl d) s m args below meth c Q nL D cy bs g0 ad0 cc ret v g) →
    BW p l e (Lvl d) s m args below meth c Q nL D cy bs g0 ad0 pc ls st g
def s_bad : Stq := fun _ _ _ _ _ => False
section Steps
variable {d : Nat} {own : String} {cc : ByteArray} {nL : Nat} {ret : Option FieldType} {ini : Inq} {pc : Nat}
theorem snd_bad : Snd d own cc nL ret ini pc s_bad := by
  intro p l e s m args below meth c Q D cy bs g0 ad0 C hi ls st g K Qr hf
  exact hf.elim
/-- a table of steps, as a tree -/
theorem snd_ite {P : Prop} {inst : Decidable P} {A B : Stq} (ha : Snd d own cc nL ret ini pc A) (hb : Snd d own cc nL ret ini pc B) : Snd d own cc nL ret ini pc (@ite _ P inst A B) := by
  cases inst with
  | isTrue h => exact ha
  | isFalse h => exact hb
theorem snd_leaf {k : Nat} {A : Stq} (ha : Snd d own cc nL ret ini k A) : Snd d own cc nL ret ini pc (if pc = k then A else s_bad) := by
  by_cases h : pc = k
  · subst h
    rw [if_pos rfl]
    exact ha
  · rw [if_neg h]
    exact snd_bad
/-! constants and locals -/
def s_push (v : Value) (nx : Nat) : Stq := fun ls st g K _ => K nx ls (v :: st) g
theorem snd_iconst {n : Int} {v : Int32} (hd : decode cc pc = .ok (.iconst n, 1)) (hv : Int32.ofInt n = v) : Snd d own cc nL ret ini pc (s_push (.int v) (pc + 1)) := by
  intro p l e s m args below meth c Q D cy bs g0 ad0 C hi ls st g K Qr hf hK hQ ad H locs k n lsA P
  exact lv_iconst C.1 C.2.1 hd hv (hK _ _ _ _ hf ad H locs k n lsA P)
theorem snd_bipush {n : Int} {v : Int32} (hd : decode cc pc = .ok (.bipush n, 2)) (hv : (Int8.ofInt n).toInt32 = v) : Snd d own cc nL ret ini pc (s_push (.int v) (pc + 2)) := by
  intro p l e s m args below meth c Q D cy bs g0 ad0 C hi ls st g K Qr hf hK hQ ad H locs k n lsA P
  exact lv_bipush C.1 C.2.1 hd hv (hK _ _ _ _ hf ad H locs k n lsA P)
theorem snd_sipush {n : Int} {v : Int32} (hd : decode cc pc = .ok (.sipush n, 3)) (hv : (Int16.ofInt n).toInt32 = v) : Snd d own cc nL ret ini pc (s_push (.int v) (pc + 3)) := by
  intro p l e s m args below meth c Q D cy bs g0 ad0 C hi ls st g K Qr hf hK hQ ad H locs k n lsA P
  exact lv_sipush C.1 C.2.1 hd hv (hK _ _ _ _ hf ad H locs k n lsA P)
theorem snd_ldc {index : Nat} {v : Int32} (hd : decode cc pc = .ok (.ldc index, 2)) (hw : Cond.constant own index v ∈ gtb) : Snd d own cc nL ret ini pc (s_push (.int v) (pc + 2)) := by
  intro p l e s m args below meth c Q D cy bs g0 ad0 C hi ls st g K Qr hf hK hQ ad H locs k n lsA P
  exact lv_ldc C.1 C.2.1 C.2.2.2.1 (C.2.2.2.2.1 _ hw) hd (hK _ _ _ _ hf ad H locs k n lsA P)
theorem snd_ldcw {index : Nat} {v : Int32} (hd : decode cc pc = .ok (.ldc_w index, 3)) (hw : Cond.constant own index v ∈ gtb) : Snd d own cc nL ret ini pc (s_push (.int v) (pc + 3)) := by
  intro p l e s m args below meth c Q D cy bs g0 ad0 C hi ls st g K Qr hf hK hQ ad H locs k n lsA P
  exact lv_ldcw C.1 C.2.1 C.2.2.2.1 (C.2.2.2.2.1 _ hw) hd (hK _ _ _ _ hf ad H locs k n lsA P)
def s_ild (i nx : Nat) : Stq := fun ls st g K _ => match ls[i]? with
  | some (.int x) => K nx ls (.int x :: st) g
  | _ => False
def s_ald (i nx : Nat) : Stq := fun ls st g K _ => match ls[i]? with
  | some (.ref x) => K nx ls (.ref x :: st) g
  | _ => False
def s_lld (i nx : Nat) : Stq := fun ls st g K _ => match ls[i]? with
  | some (.long x) => K nx ls (.long x :: st) g
  | _ => False
theorem snd_iload_n {j : Fin 4} {i : Nat} (hd : decode cc pc = .ok (.iload_n j, 1)) (hj : (j : Nat) = i) : Snd d own cc nL ret ini pc (s_ild i (pc + 1)) := by
  intro p l e s m args below meth c Q D cy bs g0 ad0 C hi ls st g K Qr hf hK hQ ad H locs k n lsA P
  simp only [s_ild] at hf
  split at hf
  · rename_i x hx
    exact lv_iload_n C.1 C.2.1 hd hj (P.2.2.2.1.2.2.2 _ _ hx rfl) (hK _ _ _ _ hf ad H locs k n lsA P)
  · exact hf.elim
theorem snd_iload {i : Nat} (hd : decode cc pc = .ok (.iload i, 2)) : Snd d own cc nL ret ini pc (s_ild i (pc + 2)) := by
  intro p l e s m args below meth c Q D cy bs g0 ad0 C hi ls st g K Qr hf hK hQ ad H locs k n lsA P
  simp only [s_ild] at hf
  split at hf
  · rename_i x hx
    exact lv_iload C.1 C.2.1 hd (P.2.2.2.1.2.2.2 _ _ hx rfl) (hK _ _ _ _ hf ad H locs k n lsA P)
  · exact hf.elim
theorem snd_lload {i : Nat} (hd : decode cc pc = .ok (.lload i, 2)) : Snd d own cc nL ret ini pc (s_lld i (pc + 2)) := by
  intro p l e s m args below meth c Q D cy bs g0 ad0 C hi ls st g K Qr hf hK hQ ad H locs k n lsA P
  simp only [s_lld] at hf
  split at hf
  · rename_i x hx
    exact lv_lload C.1 C.2.1 hd (P.2.2.2.1.2.2.2 _ _ hx rfl) (hK _ _ _ _ hf ad H locs k n lsA P)
  · exact hf.elim
theorem snd_aload_n {j : Fin 4} {i : Nat} (hd : decode cc pc = .ok (.aload_n j, 1)) (hj : (j : Nat) = i) : Snd d own cc nL ret ini pc (s_ald i (pc + 1)) := by
  intro p l e s m args below meth c Q D cy bs g0 ad0 C hi ls st g K Qr hf hK hQ ad H locs k n lsA P
  simp only [s_ald] at hf
  split at hf
  · rename_i x hx
    exact lv_aload_n C.1 C.2.1 hd hj (P.2.2.2.1.2.2.2 _ _ hx rfl) (hK _ _ _ _ hf ad H locs k n lsA P)
  · exact hf.elim
theorem snd_aload {i : Nat} (hd : decode cc pc = .ok (.aload i, 2)) : Snd d own cc nL ret ini pc (s_ald i (pc + 2)) := by
  intro p l e s m args below meth c Q D cy bs g0 ad0 C hi ls st g K Qr hf hK hQ ad H locs k n lsA P
  simp only [s_ald] at hf
  split at hf
  · rename_i x hx
    exact lv_aload C.1 C.2.1 hd (P.2.2.2.1.2.2.2 _ _ hx rfl) (hK _ _ _ _ hf ad H locs k n lsA P)
  · exact hf.elim
def lst (ls : List Value) (i : Nat) : Bool := okst ls i && decide (i < ls.length)
def s_ist (i nx : Nat) : Stq := fun ls st g K _ => match st with
  | .int x :: st => cond (lst ls i) (K nx (ls.set i (.int x)) st g) False
  | _ => False
def s_ast (i nx : Nat) : Stq := fun ls st g K _ => match st with
  | .ref x :: st => cond (lst ls i) (K nx (ls.set i (.ref x)) st g) False
  | _ => False
def s_lst (i nx : Nat) : Stq := fun ls st g K _ => match st with
  | .long x :: st => cond (lst ls i && decide (i + 1 < ls.length)) (K nx ((ls.set i (.long x)).set (i + 1) U_) st g) False
  | _ => False
def s_inc (i : Nat) (y : Int32) (nx : Nat) : Stq := fun ls st g K _ => match ls[i]? with
  | some (.int x) => cond (lst ls i) (K nx (ls.set i (.int (x + y))) st g) False
  | _ => False
theorem Pnt.ls {D : va_G} {cy : Nat → ClassId} {bs : Nat} {s : State} {g0 : Sto} {ad0 ad : Nat → Nat} {g : Sto} {H : Heap} {locs : List Loc} {k n : Nat} {lsA lsB : Array Slot} {ls ls' : List Value} (P : Pnt nL D cy bs s g0 ad0 ad g H locs k n lsA ls) (h : LR lsB nL ad ls') : Pnt nL D cy bs s g0 ad0 ad g H locs k n lsB ls' := ⟨P.1, P.2.1, P.2.2.1, h, P.2.2.2.2⟩
theorem snd_istore_n {j : Fin 4} {i : Nat} (hd : decode cc pc = .ok (.istore_n j, 1)) (hj : (j : Nat) = i) : Snd d own cc nL ret ini pc (s_ist i (pc + 1)) := by
  intro p l e s m args below meth c Q D cy bs g0 ad0 C hi ls st g K Qr hf hK hQ ad H locs k n lsA P
  simp only [s_ist] at hf
  split at hf
  · rename_i x st
    cases hc : lst ls i with
    | false => rw [hc] at hf; exact hf.elim
    | true =>
      rw [hc] at hf
      simp only [lst, Bool.and_eq_true, decide_eq_true_eq] at hc
      exact lv_istore_n C.1 C.2.1 hd hj P.2.2.2.1.has (Nat.lt_of_lt_of_le hc.2 P.2.2.2.1.1) rfl (fun ls' hl => hK _ _ _ _ hf ad H locs k n ls' (P.ls (LR.of1 (v := .int x) hl hc.1 P.2.2.2.1.1)))
  · exact hf.elim
theorem snd_istore {i : Nat} (hd : decode cc pc = .ok (.istore i, 2)) : Snd d own cc nL ret ini pc (s_ist i (pc + 2)) := by
  intro p l e s m args below meth c Q D cy bs g0 ad0 C hi ls st g K Qr hf hK hQ ad H locs k n lsA P
  simp only [s_ist] at hf
  split at hf
  · rename_i x st
    cases hc : lst ls i with
    | false => rw [hc] at hf; exact hf.elim
    | true =>
      rw [hc] at hf
      simp only [lst, Bool.and_eq_true, decide_eq_true_eq] at hc
      exact lv_istore C.1 C.2.1 hd P.2.2.2.1.has (Nat.lt_of_lt_of_le hc.2 P.2.2.2.1.1) rfl (fun ls' hl => hK _ _ _ _ hf ad H locs k n ls' (P.ls (LR.of1 (v := .int x) hl hc.1 P.2.2.2.1.1)))
  · exact hf.elim
theorem snd_astore_n {j : Fin 4} {i : Nat} (hd : decode cc pc = .ok (.astore_n j, 1)) (hj : (j : Nat) = i) : Snd d own cc nL ret ini pc (s_ast i (pc + 1)) := by
  intro p l e s m args below meth c Q D cy bs g0 ad0 C hi ls st g K Qr hf hK hQ ad H locs k n lsA P
  simp only [s_ast] at hf
  split at hf
  · rename_i x st
    cases hc : lst ls i with
    | false => rw [hc] at hf; exact hf.elim
    | true =>
      rw [hc] at hf
      simp only [lst, Bool.and_eq_true, decide_eq_true_eq] at hc
      exact lv_astore_n C.1 C.2.1 hd hj P.2.2.2.1.has (Nat.lt_of_lt_of_le hc.2 P.2.2.2.1.1) rfl (fun ls' hl => hK _ _ _ _ hf ad H locs k n ls' (P.ls (LR.of1 (v := .ref x) hl hc.1 P.2.2.2.1.1)))
  · exact hf.elim
theorem snd_lstore {i : Nat} (hd : decode cc pc = .ok (.lstore i, 2)) : Snd d own cc nL ret ini pc (s_lst i (pc + 2)) := by
  intro p l e s m args below meth c Q D cy bs g0 ad0 C hi ls st g K Qr hf hK hQ ad H locs k n lsA P
  simp only [s_lst] at hf
  split at hf
  · rename_i x st
    cases hc : lst ls i && decide (i + 1 < ls.length) with
    | false => rw [hc] at hf; exact hf.elim
    | true =>
      rw [hc] at hf
      simp only [lst, Bool.and_eq_true, decide_eq_true_eq] at hc
      exact lv_lstore C.1 C.2.1 hd P.2.2.2.1.has (Nat.lt_of_lt_of_le hc.2 P.2.2.2.1.1) rfl (fun ls' hl => hK _ _ _ _ hf ad H locs k n ls' (P.ls (LR.of2 (v := .long x) hl hc.1.1 P.2.2.2.1.1)))
  · exact hf.elim
theorem snd_iinc {i : Nat} {y : Int} {z : Int32} (hd : decode cc pc = .ok (.iinc i y, 3)) (hz : Int32.ofInt y = z) : Snd d own cc nL ret ini pc (s_inc i z (pc + 3)) := by
  intro p l e s m args below meth c Q D cy bs g0 ad0 C hi ls st g K Qr hf hK hQ ad H locs k n lsA P
  simp only [s_inc] at hf
  split at hf
  · rename_i x hx
    cases hc : lst ls i with
    | false => rw [hc] at hf; exact hf.elim
    | true =>
      rw [hc] at hf
      simp only [lst, Bool.and_eq_true, decide_eq_true_eq] at hc
      have hlt := Nat.lt_of_lt_of_le hc.2 P.2.2.2.1.1
      obtain ⟨q, hq⟩ := List.getElem?_of_mem (lvl_mem (ad := ad) (ls := ls) (nL := nL) (q := (i, .int x)) |>.mpr ⟨.int x, hlt, hx, rfl, rfl⟩)
      exact lv_iinc (v := x + z) C.1 C.2.1 hd P.2.2.2.1.has hq (by rw [hz]) hlt rfl (fun ls' hl => hK _ _ _ _ hf ad H locs k n ls' (P.ls (LR.of1 (v := .int (x + z)) hl hc.1 P.2.2.2.1.1)))
  · exact hf.elim
end Steps
end
section
/-! arithmetic, branches, returns -/
def ushr (x y : Int32) : Int32 := (x.toUInt32 >>> (y.toUInt32 &&& Int32.toUInt32 31)).toInt32
def lushr (x : Int64) (y : Int32) : Int64 := (x.toUInt64 >>> (y.toInt64.toUInt64 &&& Int64.toUInt64 63)).toInt64
section Steps2
variable {d : Nat} {own : String} {cc : ByteArray} {nL : Nat} {ret : Option FieldType} {ini : Inq} {pc : Nat}
def s_iadd (nx : Nat) : Stq := fun ls st g K _ => match st with
  | .int y :: .int x :: st => K nx ls (.int (x + y) :: st) g
  | _ => False
theorem snd_iadd (hd : decode cc pc = .ok (.iadd, 1)) : Snd d own cc nL ret ini pc (s_iadd (pc + 1)) := by
  intro p l e s m args below meth c Q D cy bs g0 ad0 C hi ls st g K Qr hf hK hQ ad H locs k n lsA P
  simp only [s_iadd] at hf
  split at hf
  · exact lv_iadd C.1 C.2.1 hd (hK _ _ _ _ hf ad H locs k n lsA P)
  · exact hf.elim
def s_isub (nx : Nat) : Stq := fun ls st g K _ => match st with
  | .int y :: .int x :: st => K nx ls (.int (x - y) :: st) g
  | _ => False
theorem snd_isub (hd : decode cc pc = .ok (.isub, 1)) : Snd d own cc nL ret ini pc (s_isub (pc + 1)) := by
  intro p l e s m args below meth c Q D cy bs g0 ad0 C hi ls st g K Qr hf hK hQ ad H locs k n lsA P
  simp only [s_isub] at hf
  split at hf
  · exact lv_isub C.1 C.2.1 hd (hK _ _ _ _ hf ad H locs k n lsA P)
  · exact hf.elim
def s_imul (nx : Nat) : Stq := fun ls st g K _ => match st with
  | .int y :: .int x :: st => K nx ls (.int (x * y) :: st) g
  | _ => False
theorem snd_imul (hd : decode cc pc = .ok (.imul, 1)) : Snd d own cc nL ret ini pc (s_imul (pc + 1)) := by
  intro p l e s m args below meth c Q D cy bs g0 ad0 C hi ls st g K Qr hf hK hQ ad H locs k n lsA P
  simp only [s_imul] at hf
  split at hf
  · exact lv_imul C.1 C.2.1 hd (hK _ _ _ _ hf ad H locs k n lsA P)
  · exact hf.elim
def s_iand (nx : Nat) : Stq := fun ls st g K _ => match st with
  | .int y :: .int x :: st => K nx ls (.int (x &&& y) :: st) g
  | _ => False
theorem snd_iand (hd : decode cc pc = .ok (.iand, 1)) : Snd d own cc nL ret ini pc (s_iand (pc + 1)) := by
  intro p l e s m args below meth c Q D cy bs g0 ad0 C hi ls st g K Qr hf hK hQ ad H locs k n lsA P
  simp only [s_iand] at hf
  split at hf
  · exact lv_iand C.1 C.2.1 hd (hK _ _ _ _ hf ad H locs k n lsA P)
  · exact hf.elim
def s_ior (nx : Nat) : Stq := fun ls st g K _ => match st with
  | .int y :: .int x :: st => K nx ls (.int (x ||| y) :: st) g
  | _ => False
theorem snd_ior (hd : decode cc pc = .ok (.ior, 1)) : Snd d own cc nL ret ini pc (s_ior (pc + 1)) := by
  intro p l e s m args below meth c Q D cy bs g0 ad0 C hi ls st g K Qr hf hK hQ ad H locs k n lsA P
  simp only [s_ior] at hf
  split at hf
  · exact lv_ior C.1 C.2.1 hd (hK _ _ _ _ hf ad H locs k n lsA P)
  · exact hf.elim
def s_ixor (nx : Nat) : Stq := fun ls st g K _ => match st with
  | .int y :: .int x :: st => K nx ls (.int (x ^^^ y) :: st) g
  | _ => False
theorem snd_ixor (hd : decode cc pc = .ok (.ixor, 1)) : Snd d own cc nL ret ini pc (s_ixor (pc + 1)) := by
  intro p l e s m args below meth c Q D cy bs g0 ad0 C hi ls st g K Qr hf hK hQ ad H locs k n lsA P
  simp only [s_ixor] at hf
  split at hf
  · exact lv_ixor C.1 C.2.1 hd (hK _ _ _ _ hf ad H locs k n lsA P)
  · exact hf.elim
def s_ishl (nx : Nat) : Stq := fun ls st g K _ => match st with
  | .int y :: .int x :: st => K nx ls (.int (x <<< (y &&& 31)) :: st) g
  | _ => False
theorem snd_ishl (hd : decode cc pc = .ok (.ishl, 1)) : Snd d own cc nL ret ini pc (s_ishl (pc + 1)) := by
  intro p l e s m args below meth c Q D cy bs g0 ad0 C hi ls st g K Qr hf hK hQ ad H locs k n lsA P
  simp only [s_ishl] at hf
  split at hf
  · exact lv_ishl C.1 C.2.1 hd (hK _ _ _ _ hf ad H locs k n lsA P)
  · exact hf.elim
def s_ishr (nx : Nat) : Stq := fun ls st g K _ => match st with
  | .int y :: .int x :: st => K nx ls (.int (x >>> (y &&& 31)) :: st) g
  | _ => False
theorem snd_ishr (hd : decode cc pc = .ok (.ishr, 1)) : Snd d own cc nL ret ini pc (s_ishr (pc + 1)) := by
  intro p l e s m args below meth c Q D cy bs g0 ad0 C hi ls st g K Qr hf hK hQ ad H locs k n lsA P
  simp only [s_ishr] at hf
  split at hf
  · exact lv_ishr C.1 C.2.1 hd (hK _ _ _ _ hf ad H locs k n lsA P)
  · exact hf.elim
def s_iushr (nx : Nat) : Stq := fun ls st g K _ => match st with
  | .int y :: .int x :: st => K nx ls (.int (ushr x y) :: st) g
  | _ => False
theorem snd_iushr (hd : decode cc pc = .ok (.iushr, 1)) : Snd d own cc nL ret ini pc (s_iushr (pc + 1)) := by
  intro p l e s m args below meth c Q D cy bs g0 ad0 C hi ls st g K Qr hf hK hQ ad H locs k n lsA P
  simp only [s_iushr] at hf
  split at hf
  · exact lv_iushr C.1 C.2.1 hd rfl (hK _ _ _ _ hf ad H locs k n lsA P)
  · exact hf.elim
def s_idiv (nx : Nat) : Stq := fun ls st g K _ => match st with
  | .int y :: .int x :: st => ¬ y = 0 ∧ K nx ls (.int (x / y) :: st) g
  | _ => False
theorem snd_idiv (hd : decode cc pc = .ok (.idiv, 1)) : Snd d own cc nL ret ini pc (s_idiv (pc + 1)) := by
  intro p l e s m args below meth c Q D cy bs g0 ad0 C hi ls st g K Qr hf hK hQ ad H locs k n lsA P
  simp only [s_idiv] at hf
  split at hf
  · exact lv_idiv C.1 C.2.1 hd hf.1 (hK _ _ _ _ hf.2 ad H locs k n lsA P)
  · exact hf.elim
def s_irem (nx : Nat) : Stq := fun ls st g K _ => match st with
  | .int y :: .int x :: st => ¬ y = 0 ∧ K nx ls (.int (x - x / y * y) :: st) g
  | _ => False
theorem snd_irem (hd : decode cc pc = .ok (.irem, 1)) : Snd d own cc nL ret ini pc (s_irem (pc + 1)) := by
  intro p l e s m args below meth c Q D cy bs g0 ad0 C hi ls st g K Qr hf hK hQ ad H locs k n lsA P
  simp only [s_irem] at hf
  split at hf
  · exact lv_irem C.1 C.2.1 hd hf.1 (hK _ _ _ _ hf.2 ad H locs k n lsA P)
  · exact hf.elim
def s_i2l (nx : Nat) : Stq := fun ls st g K _ => match st with
  | .int x :: st => K nx ls (.long x.toInt64 :: st) g
  | _ => False
theorem snd_i2l (hd : decode cc pc = .ok (.i2l, 1)) : Snd d own cc nL ret ini pc (s_i2l (pc + 1)) := by
  intro p l e s m args below meth c Q D cy bs g0 ad0 C hi ls st g K Qr hf hK hQ ad H locs k n lsA P
  simp only [s_i2l] at hf
  split at hf
  · exact lv_i2l C.1 C.2.1 hd rfl (hK _ _ _ _ hf ad H locs k n lsA P)
  · exact hf.elim
def s_l2i (nx : Nat) : Stq := fun ls st g K _ => match st with
  | .long x :: st => K nx ls (.int x.toInt32 :: st) g
  | _ => False
theorem snd_l2i (hd : decode cc pc = .ok (.l2i, 1)) : Snd d own cc nL ret ini pc (s_l2i (pc + 1)) := by
  intro p l e s m args below meth c Q D cy bs g0 ad0 C hi ls st g K Qr hf hK hQ ad H locs k n lsA P
  simp only [s_l2i] at hf
  split at hf
  · exact lv_l2i C.1 C.2.1 hd rfl (hK _ _ _ _ hf ad H locs k n lsA P)
  · exact hf.elim
def s_lor (nx : Nat) : Stq := fun ls st g K _ => match st with
  | .long y :: .long x :: st => K nx ls (.long (x ||| y) :: st) g
  | _ => False
theorem snd_lor (hd : decode cc pc = .ok (.lor, 1)) : Snd d own cc nL ret ini pc (s_lor (pc + 1)) := by
  intro p l e s m args below meth c Q D cy bs g0 ad0 C hi ls st g K Qr hf hK hQ ad H locs k n lsA P
  simp only [s_lor] at hf
  split at hf
  · exact lv_lor C.1 C.2.1 hd (hK _ _ _ _ hf ad H locs k n lsA P)
  · exact hf.elim
def s_lshl (nx : Nat) : Stq := fun ls st g K _ => match st with
  | .int y :: .long x :: st => K nx ls (.long (x <<< (y.toInt64 &&& 63)) :: st) g
  | _ => False
theorem snd_lshl (hd : decode cc pc = .ok (.lshl, 1)) : Snd d own cc nL ret ini pc (s_lshl (pc + 1)) := by
  intro p l e s m args below meth c Q D cy bs g0 ad0 C hi ls st g K Qr hf hK hQ ad H locs k n lsA P
  simp only [s_lshl] at hf
  split at hf
  · exact lv_lshl C.1 C.2.1 hd rfl (hK _ _ _ _ hf ad H locs k n lsA P)
  · exact hf.elim
def s_lushr (nx : Nat) : Stq := fun ls st g K _ => match st with
  | .int y :: .long x :: st => K nx ls (.long (lushr x y) :: st) g
  | _ => False
theorem snd_lushr (hd : decode cc pc = .ok (.lushr, 1)) : Snd d own cc nL ret ini pc (s_lushr (pc + 1)) := by
  intro p l e s m args below meth c Q D cy bs g0 ad0 C hi ls st g K Qr hf hK hQ ad H locs k n lsA P
  simp only [s_lushr] at hf
  split at hf
  · exact lv_lushr C.1 C.2.1 hd rfl (hK _ _ _ _ hf ad H locs k n lsA P)
  · exact hf.elim
def s_dup (nx : Nat) : Stq := fun ls st g K _ => match st with
  | .int x :: st => K nx ls (.int x :: .int x :: st) g
  | .ref x :: st => K nx ls (.ref x :: .ref x :: st) g
  | _ => False
theorem snd_dup (hd : decode cc pc = .ok (.dup, 1)) : Snd d own cc nL ret ini pc (s_dup (pc + 1)) := by
  intro p l e s m args below meth c Q D cy bs g0 ad0 C hi ls st g K Qr hf hK hQ ad H locs k n lsA P
  simp only [s_dup] at hf
  split at hf
  · exact lv_dup C.1 C.2.1 hd rfl (hK _ _ _ _ hf ad H locs k n lsA P)
  · exact lv_dup C.1 C.2.1 hd rfl (hK _ _ _ _ hf ad H locs k n lsA P)
  · exact hf.elim
def s_pop (nx : Nat) : Stq := fun ls st g K _ => match st with
  | .int x :: st => K nx ls st g
  | .ref x :: st => K nx ls st g
  | _ => False
theorem snd_pop (hd : decode cc pc = .ok (.pop, 1)) : Snd d own cc nL ret ini pc (s_pop (pc + 1)) := by
  intro p l e s m args below meth c Q D cy bs g0 ad0 C hi ls st g K Qr hf hK hQ ad H locs k n lsA P
  simp only [s_pop] at hf
  split at hf
  · rename_i x st
    exact lv_pop (va := .int x) C.1 C.2.1 hd rfl (hK _ _ _ _ hf ad H locs k n lsA P)
  · rename_i x st
    exact lv_pop (va := .ref (ad x)) C.1 C.2.1 hd rfl (hK _ _ _ _ hf ad H locs k n lsA P)
  · exact hf.elim
def s_dup2 (nx : Nat) : Stq := fun ls st g K _ => match st with
  | .int x :: .ref y :: st => K nx ls (.int x :: .ref y :: .int x :: .ref y :: st) g
  | _ => False
theorem snd_dup2 (hd : decode cc pc = .ok (.dup2, 1)) : Snd d own cc nL ret ini pc (s_dup2 (pc + 1)) := by
  intro p l e s m args below meth c Q D cy bs g0 ad0 C hi ls st g K Qr hf hK hQ ad H locs k n lsA P
  simp only [s_dup2] at hf
  split at hf
  · exact lv_dup2_11 C.1 C.2.1 hd rfl rfl (hK _ _ _ _ hf ad H locs k n lsA P)
  · exact hf.elim
def s_goto (t : Nat) : Stq := fun ls st g K _ => K t ls st g
theorem snd_goto {off : Int} {t : Nat} (hd : decode cc pc = .ok (.goto off, 3)) (ht : (pc : Int) + off = (t : Int)) : Snd d own cc nL ret ini pc (s_goto t) := by
  intro p l e s m args below meth c Q D cy bs g0 ad0 C hi ls st g K Qr hf hK hQ ad H locs k n lsA P
  exact lv_goto C.1 C.2.1 hd ht (hK _ _ _ _ hf ad H locs k n lsA P)
def s_ifeq (t nx : Nat) : Stq := fun ls st g K _ => match st with
  | .int x :: st => (x = 0 → K t ls st g) ∧ (¬ x = 0 → K nx ls st g)
  | _ => False
theorem snd_ifeq {off : Int} {t : Nat} (hd : decode cc pc = .ok (.ifCond .eq off, 3)) (ht : (pc : Int) + off = (t : Int)) : Snd d own cc nL ret ini pc (s_ifeq t (pc + 3)) := by
  intro p l e s m args below meth c Q D cy bs g0 ad0 C hi ls st g K Qr hf hK hQ ad H locs k n lsA P
  simp only [s_ifeq] at hf
  split at hf
  · exact lv_if_eq C.1 C.2.1 hd ht (fun h => hK _ _ _ _ (hf.1 h) ad H locs k n lsA P) (fun h => hK _ _ _ _ (hf.2 h) ad H locs k n lsA P)
  · exact hf.elim
def s_iceq (t nx : Nat) : Stq := fun ls st g K _ => match st with
  | .int y :: .int x :: st => (x = y → K t ls st g) ∧ (¬ x = y → K nx ls st g)
  | _ => False
theorem snd_iceq {off : Int} {t : Nat} (hd : decode cc pc = .ok (.if_icmp .eq off, 3)) (ht : (pc : Int) + off = (t : Int)) : Snd d own cc nL ret ini pc (s_iceq t (pc + 3)) := by
  intro p l e s m args below meth c Q D cy bs g0 ad0 C hi ls st g K Qr hf hK hQ ad H locs k n lsA P
  simp only [s_iceq] at hf
  split at hf
  · exact lv_icmp_eq C.1 C.2.1 hd ht (fun h => hK _ _ _ _ (hf.1 h) ad H locs k n lsA P) (fun h => hK _ _ _ _ (hf.2 h) ad H locs k n lsA P)
  · exact hf.elim
def s_ifne (t nx : Nat) : Stq := fun ls st g K _ => match st with
  | .int x :: st => (¬ x = 0 → K t ls st g) ∧ (x = 0 → K nx ls st g)
  | _ => False
theorem snd_ifne {off : Int} {t : Nat} (hd : decode cc pc = .ok (.ifCond .ne off, 3)) (ht : (pc : Int) + off = (t : Int)) : Snd d own cc nL ret ini pc (s_ifne t (pc + 3)) := by
  intro p l e s m args below meth c Q D cy bs g0 ad0 C hi ls st g K Qr hf hK hQ ad H locs k n lsA P
  simp only [s_ifne] at hf
  split at hf
  · exact lv_if_ne C.1 C.2.1 hd ht (fun h => hK _ _ _ _ (hf.1 h) ad H locs k n lsA P) (fun h => hK _ _ _ _ (hf.2 h) ad H locs k n lsA P)
  · exact hf.elim
def s_icne (t nx : Nat) : Stq := fun ls st g K _ => match st with
  | .int y :: .int x :: st => (¬ x = y → K t ls st g) ∧ (x = y → K nx ls st g)
  | _ => False
theorem snd_icne {off : Int} {t : Nat} (hd : decode cc pc = .ok (.if_icmp .ne off, 3)) (ht : (pc : Int) + off = (t : Int)) : Snd d own cc nL ret ini pc (s_icne t (pc + 3)) := by
  intro p l e s m args below meth c Q D cy bs g0 ad0 C hi ls st g K Qr hf hK hQ ad H locs k n lsA P
  simp only [s_icne] at hf
  split at hf
  · exact lv_icmp_ne C.1 C.2.1 hd ht (fun h => hK _ _ _ _ (hf.1 h) ad H locs k n lsA P) (fun h => hK _ _ _ _ (hf.2 h) ad H locs k n lsA P)
  · exact hf.elim
def s_iflt (t nx : Nat) : Stq := fun ls st g K _ => match st with
  | .int x :: st => (x < 0 → K t ls st g) ∧ (¬ x < 0 → K nx ls st g)
  | _ => False
theorem snd_iflt {off : Int} {t : Nat} (hd : decode cc pc = .ok (.ifCond .lt off, 3)) (ht : (pc : Int) + off = (t : Int)) : Snd d own cc nL ret ini pc (s_iflt t (pc + 3)) := by
  intro p l e s m args below meth c Q D cy bs g0 ad0 C hi ls st g K Qr hf hK hQ ad H locs k n lsA P
  simp only [s_iflt] at hf
  split at hf
  · exact lv_if_lt C.1 C.2.1 hd ht (fun h => hK _ _ _ _ (hf.1 h) ad H locs k n lsA P) (fun h => hK _ _ _ _ (hf.2 h) ad H locs k n lsA P)
  · exact hf.elim
def s_iclt (t nx : Nat) : Stq := fun ls st g K _ => match st with
  | .int y :: .int x :: st => (x < y → K t ls st g) ∧ (¬ x < y → K nx ls st g)
  | _ => False
theorem snd_iclt {off : Int} {t : Nat} (hd : decode cc pc = .ok (.if_icmp .lt off, 3)) (ht : (pc : Int) + off = (t : Int)) : Snd d own cc nL ret ini pc (s_iclt t (pc + 3)) := by
  intro p l e s m args below meth c Q D cy bs g0 ad0 C hi ls st g K Qr hf hK hQ ad H locs k n lsA P
  simp only [s_iclt] at hf
  split at hf
  · exact lv_icmp_lt C.1 C.2.1 hd ht (fun h => hK _ _ _ _ (hf.1 h) ad H locs k n lsA P) (fun h => hK _ _ _ _ (hf.2 h) ad H locs k n lsA P)
  · exact hf.elim
def s_ifge (t nx : Nat) : Stq := fun ls st g K _ => match st with
  | .int x :: st => (0 ≤ x → K t ls st g) ∧ (¬ 0 ≤ x → K nx ls st g)
  | _ => False
theorem snd_ifge {off : Int} {t : Nat} (hd : decode cc pc = .ok (.ifCond .ge off, 3)) (ht : (pc : Int) + off = (t : Int)) : Snd d own cc nL ret ini pc (s_ifge t (pc + 3)) := by
  intro p l e s m args below meth c Q D cy bs g0 ad0 C hi ls st g K Qr hf hK hQ ad H locs k n lsA P
  simp only [s_ifge] at hf
  split at hf
  · exact lv_if_ge C.1 C.2.1 hd ht (fun h => hK _ _ _ _ (hf.1 h) ad H locs k n lsA P) (fun h => hK _ _ _ _ (hf.2 h) ad H locs k n lsA P)
  · exact hf.elim
def s_icge (t nx : Nat) : Stq := fun ls st g K _ => match st with
  | .int y :: .int x :: st => (y ≤ x → K t ls st g) ∧ (¬ y ≤ x → K nx ls st g)
  | _ => False
theorem snd_icge {off : Int} {t : Nat} (hd : decode cc pc = .ok (.if_icmp .ge off, 3)) (ht : (pc : Int) + off = (t : Int)) : Snd d own cc nL ret ini pc (s_icge t (pc + 3)) := by
  intro p l e s m args below meth c Q D cy bs g0 ad0 C hi ls st g K Qr hf hK hQ ad H locs k n lsA P
  simp only [s_icge] at hf
  split at hf
  · exact lv_icmp_ge C.1 C.2.1 hd ht (fun h => hK _ _ _ _ (hf.1 h) ad H locs k n lsA P) (fun h => hK _ _ _ _ (hf.2 h) ad H locs k n lsA P)
  · exact hf.elim
def s_ifgt (t nx : Nat) : Stq := fun ls st g K _ => match st with
  | .int x :: st => (0 < x → K t ls st g) ∧ (¬ 0 < x → K nx ls st g)
  | _ => False
theorem snd_ifgt {off : Int} {t : Nat} (hd : decode cc pc = .ok (.ifCond .gt off, 3)) (ht : (pc : Int) + off = (t : Int)) : Snd d own cc nL ret ini pc (s_ifgt t (pc + 3)) := by
  intro p l e s m args below meth c Q D cy bs g0 ad0 C hi ls st g K Qr hf hK hQ ad H locs k n lsA P
  simp only [s_ifgt] at hf
  split at hf
  · exact lv_if_gt C.1 C.2.1 hd ht (fun h => hK _ _ _ _ (hf.1 h) ad H locs k n lsA P) (fun h => hK _ _ _ _ (hf.2 h) ad H locs k n lsA P)
  · exact hf.elim
def s_icgt (t nx : Nat) : Stq := fun ls st g K _ => match st with
  | .int y :: .int x :: st => (y < x → K t ls st g) ∧ (¬ y < x → K nx ls st g)
  | _ => False
theorem snd_icgt {off : Int} {t : Nat} (hd : decode cc pc = .ok (.if_icmp .gt off, 3)) (ht : (pc : Int) + off = (t : Int)) : Snd d own cc nL ret ini pc (s_icgt t (pc + 3)) := by
  intro p l e s m args below meth c Q D cy bs g0 ad0 C hi ls st g K Qr hf hK hQ ad H locs k n lsA P
  simp only [s_icgt] at hf
  split at hf
  · exact lv_icmp_gt C.1 C.2.1 hd ht (fun h => hK _ _ _ _ (hf.1 h) ad H locs k n lsA P) (fun h => hK _ _ _ _ (hf.2 h) ad H locs k n lsA P)
  · exact hf.elim
def s_ifle (t nx : Nat) : Stq := fun ls st g K _ => match st with
  | .int x :: st => (x ≤ 0 → K t ls st g) ∧ (¬ x ≤ 0 → K nx ls st g)
  | _ => False
theorem snd_ifle {off : Int} {t : Nat} (hd : decode cc pc = .ok (.ifCond .le off, 3)) (ht : (pc : Int) + off = (t : Int)) : Snd d own cc nL ret ini pc (s_ifle t (pc + 3)) := by
  intro p l e s m args below meth c Q D cy bs g0 ad0 C hi ls st g K Qr hf hK hQ ad H locs k n lsA P
  simp only [s_ifle] at hf
  split at hf
  · exact lv_if_le C.1 C.2.1 hd ht (fun h => hK _ _ _ _ (hf.1 h) ad H locs k n lsA P) (fun h => hK _ _ _ _ (hf.2 h) ad H locs k n lsA P)
  · exact hf.elim
def s_icle (t nx : Nat) : Stq := fun ls st g K _ => match st with
  | .int y :: .int x :: st => (x ≤ y → K t ls st g) ∧ (¬ x ≤ y → K nx ls st g)
  | _ => False
theorem snd_icle {off : Int} {t : Nat} (hd : decode cc pc = .ok (.if_icmp .le off, 3)) (ht : (pc : Int) + off = (t : Int)) : Snd d own cc nL ret ini pc (s_icle t (pc + 3)) := by
  intro p l e s m args below meth c Q D cy bs g0 ad0 C hi ls st g K Qr hf hK hQ ad H locs k n lsA P
  simp only [s_icle] at hf
  split at hf
  · exact lv_icmp_le C.1 C.2.1 hd ht (fun h => hK _ _ _ _ (hf.1 h) ad H locs k n lsA P) (fun h => hK _ _ _ _ (hf.2 h) ad H locs k n lsA P)
  · exact hf.elim
/-! returns -/
def s_vret : Stq := fun _ st g _ Q => match st with
  | [] => Q none g
  | _ => False
theorem snd_vret (hd : decode cc pc = .ok (.return_, 1)) : Snd d own cc nL none ini pc s_vret := by
  intro p l e s m args below meth c Q D cy bs g0 ad0 C hi ls st g K Qr hf hK hQ ad H locs k n lsA P
  simp only [s_vret] at hf
  split at hf
  · exact hQ _ _ hf pc _ ad H locs k n lsA ls P hd (Or.inl ⟨rfl, rfl, rfl⟩)
  · exact hf.elim
def s_iret : Stq := fun _ st g _ Q => match st with
  | [.int x] => Q (some (.int x)) g
  | _ => False
theorem snd_iret (hd : decode cc pc = .ok (.ireturn, 1)) : Snd d own cc nL (some .int) ini pc s_iret := by
  intro p l e s m args below meth c Q D cy bs g0 ad0 C hi ls st g K Qr hf hK hQ ad H locs k n lsA P
  simp only [s_iret] at hf
  split at hf
  · exact hQ _ _ hf pc _ ad H locs k n lsA ls P hd (Or.inr (Or.inl ⟨_, _, rfl, rfl, rfl, rfl⟩))
  · exact hf.elim
def s_zret : Stq := fun _ st g _ Q => match st with
  | [.int x] => (x = 0 ∨ x = 1) ∧ Q (some (.int x)) g
  | _ => False
theorem snd_zret (hd : decode cc pc = .ok (.ireturn, 1)) : Snd d own cc nL (some .boolean) ini pc s_zret := by
  intro p l e s m args below meth c Q D cy bs g0 ad0 C hi ls st g K Qr hf hK hQ ad H locs k n lsA P
  simp only [s_zret] at hf
  split at hf
  · refine hQ _ _ hf.2 pc _ ad H locs k n lsA ls P hd (Or.inr (Or.inl ⟨_, _, rfl, rfl, rfl, ?_⟩))
    rcases hf.1 with h | h <;> subst h <;> decide
  · exact hf.elim
def s_aret : Stq := fun _ st g _ Q => match st with
  | [.ref x] => Q (some (.ref x)) g
  | _ => False
theorem snd_aret {C : String} (hd : decode cc pc = .ok (.areturn, 1)) : Snd d own cc nL (some (.object C)) ini pc s_aret := by
  intro p l e s m args below meth c Q D cy bs g0 ad0 C1 hi ls st g K Qr hf hK hQ ad H locs k n lsA P
  simp only [s_aret] at hf
  split at hf
  · exact hQ _ _ hf pc _ ad H locs k n lsA ls P hd (Or.inr (Or.inr ⟨_, _, rfl, rfl, rfl, Or.inl ⟨_, rfl⟩⟩))
  · exact hf.elim
/-! switches -/
def swc (x : Int32) (ls st : List Value) (g : Sto) (K : Kon) (dt : Nat) : List (Int32 × Nat) → Prop
  | [] => K dt ls st g
  | (v, t) :: r => (x = v → K t ls st g) ∧ (¬ x = v → swc x ls st g K dt r)
def s_sw (cs : List (Int32 × Nat)) (dt : Nat) : Stq := fun ls st g K _ => match st with
  | .int x :: st => swc x ls st g K dt cs
  | _ => False
theorem swc_spec {x : Int32} {ls st : List Value} {g : Sto} {K : Kon} {dt : Nat} : ∀ (cs : List (Int32 × Nat)), swc x ls st g K dt cs → (∃ q ∈ cs, x = q.1 ∧ K q.2 ls st g) ∨ ((∀ q ∈ cs, ¬ x = q.1) ∧ K dt ls st g)
  | [], h => Or.inr ⟨fun _ h => absurd h List.not_mem_nil, h⟩
  | (v, t) :: r, h => by
    by_cases hx : x = v
    · exact Or.inl ⟨(v, t), List.mem_cons_self, hx, h.1 hx⟩
    · rcases swc_spec r (h.2 hx) with ⟨q, h1, h2⟩ | ⟨h1, h2⟩
      · exact Or.inl ⟨q, List.mem_cons_of_mem _ h1, h2⟩
      · exact Or.inr ⟨fun q hq => (List.mem_cons.mp hq).elim (fun e => by rw [e]; exact hx) (h1 q), h2⟩
theorem snd_tsw {dflt lo hi : Int} {offs : Array Int} {len dt : Nat} (cs : List (Int32 × Nat)) (hd : decode cc pc = .ok (.tableswitch dflt lo hi offs, len)) (hdt : (pc : Int) + dflt = (dt : Int))
    (h1 : cs.all (fun q => decide (lo ≤ q.1.toInt) && (decide (q.1.toInt ≤ hi) && (match offs[(q.1.toInt - lo).toNat]? with | some off => decide ((pc : Int) + off = (q.2 : Int)) | none => false))) = true)
    (h2 : (List.range ((hi - lo).toNat + 1)).all (fun i => cs.any (fun q => decide (q.1.toInt = lo + (i : Int)))) = true) : Snd d own cc nL ret ini pc (s_sw cs dt) := by
  intro p l e s m args below meth c Q D cy bs g0 ad0 C hini ls st g K Qr hf hK hQ ad H locs k n lsA P
  simp only [s_sw] at hf
  split at hf
  · rename_i x st
    rcases swc_spec cs hf with ⟨q, hq, hx, hk⟩ | ⟨hn, hk⟩
    · have h3 := List.all_eq_true.mp h1 q hq
      simp only [Bool.and_eq_true, decide_eq_true_eq] at h3
      obtain ⟨a1, a2, a3⟩ := h3
      split at a3
      · rename_i off ho
        subst hx
        exact lv_tableIn C.1 C.2.1 hd (by omega) (by omega) ho (of_decide_eq_true a3) (hK _ _ _ _ hk ad H locs k n lsA P)
      · cases a3
    · refine lv_tableOut C.1 C.2.1 hd ?_ hdt (hK _ _ _ _ hk ad H locs k n lsA P)
      by_cases hr : x.toInt < lo ∨ hi < x.toInt
      · exact hr
      · exfalso
        have h3 := List.all_eq_true.mp h2 (x.toInt - lo).toNat (List.mem_range.mpr (by omega))
        obtain ⟨q, hq, h4⟩ := List.any_eq_true.mp h3
        have h5 := of_decide_eq_true h4
        exact hn q hq (Int32.toInt_inj.mp (by rw [h5]; omega))
  · exact hf.elim
theorem lsw_off {x : Int32} {ls st : List Value} {g : Sto} {K : Kon} {dt pc : Nat} {dflt : Int} (hdt : (pc : Int) + dflt = (dt : Int)) : ∀ (cs : List (Int32 × Nat)) (ps : List (Int × Int)), ps = cs.map (fun q => (q.1.toInt, (q.2 : Int) - (pc : Int))) → swc x ls st g K dt cs → ∃ (off : Int) (t : Nat), Op.lookupswitch.offset ps dflt x.toInt = off ∧ (pc : Int) + off = (t : Int) ∧ K t ls st g
  | [], ps, hp, h => by subst hp; exact ⟨dflt, dt, by first | rfl | simp [Op.lookupswitch.offset], hdt, h⟩
  | (v, t) :: r, ps, hp, h => by
    subst hp
    by_cases hx : x = v
    · refine ⟨(t : Int) - (pc : Int), t, ?_, by omega, h.1 hx⟩
      rw [List.map_cons, Op.lookupswitch.offset_cons, if_pos (by rw [hx])]
    · obtain ⟨off, t', a1, a2, a3⟩ := lsw_off hdt r _ rfl (h.2 hx)
      refine ⟨off, t', ?_, a2, a3⟩
      rw [List.map_cons]
      exact (lv_osw hx rfl).trans a1
theorem snd_lsw {dflt : Int} {ps : Array (Int × Int)} {len dt : Nat} (cs : List (Int32 × Nat)) (hd : decode cc pc = .ok (.lookupswitch dflt ps, len)) (hdt : (pc : Int) + dflt = (dt : Int)) (hp : (ps.toList.zip (ps.toList.drop 1)).all (fun (a, next) => a.1 < next.1) = true)
    (h1 : ps.toList = cs.map (fun q => (q.1.toInt, (q.2 : Int) - (pc : Int)))) : Snd d own cc nL ret ini pc (s_sw cs dt) := by
  intro p l e s m args below meth c Q D cy bs g0 ad0 C hi ls st g K Qr hf hK hQ ad H locs k n lsA P
  simp only [s_sw] at hf
  split at hf
  · obtain ⟨off, t, a1, a2, a3⟩ := lsw_off hdt cs _ h1 hf
    exact lv_lookup C.1 C.2.1 hd hp a1 a2 (hK _ _ _ _ a3 ad H locs k n lsA P)
  · exact hf.elim
end Steps2
end
section
/-! steps over the heap -/
def ClI (ci : Nat) (C : String) (T : u_T) (N : Nat) (ty : Nat → FieldType) : Prop := vwCl[ci]? = some (C, T, N) ∧ (∀ w ∈ u_ws C T N, w ∈ gtb) ∧ (∀ k, k < N → parseFieldDescriptor (T k).2.2.1 = some (ty k)) ∧ ∀ a, a < N → ∀ b, b < N → a ≠ b → (T a).2.1 ≠ (T b).2.1
theorem lays_g {C : String} {T : u_T} {N : Nat} (h : ∀ w ∈ u_ws C T N, w ∈ lw_tbl) : ∀ w ∈ u_ws C T N, w ∈ gtb := by
  intro w hw
  refine List.mem_filter.mpr ⟨h w hw, ?_⟩
  obtain ⟨k, -, rfl⟩ := List.mem_map.mp hw
  unfold u_lay
  split <;> rfl
theorem Rep.put {D : va_G} {cy : Nat → ClassId} {bs : Nat} {ad : Nat → Nat} {g g' : Sto} {H H1 : Heap} {k : Nat} {s' : Shp} (R : Rep D cy bs ad g H) (hl : g.1 k ≠ none) (hk : g'.1 k = some s') (ho : ∀ j, j ≠ k → g'.1 j = g.1 j) (hc : ∀ j s, j ≠ k → cel cy ad g' j s = cel cy ad g j s)
    (he : va_at D vwCl (ad k, cel cy ad g' k s') H1) (hw : ∀ (j : Nat) (s : Shp), j ≠ k → g.1 j = some s → va_at D vwCl (ad j, cel cy ad g j s) H1) (hfit : Fit g'.1) : Rep D cy bs ad g' H1 := by
  have hn : ∀ j, g'.1 j ≠ none → g.1 j ≠ none := fun j hj => by
    by_cases h : j = k
    · rw [h]; exact hl
    · rw [← ho j h]; exact hj
  refine ⟨fun j s hj => ?_, fun i j hi hj hij => R.2.1 i j (hn i hi) (hn j hj) hij, fun j hj => R.2.2.1 j (hn j hj), fun j hj => ?_, hfit⟩
  · by_cases h : j = k
    · subst h
      rw [hk] at hj
      cases hj
      exact he
    · rw [hc j s h]
      exact hw j s h (by rw [← ho j h]; exact hj)
  · by_cases h : j = k
    · subst h
      exact absurd (R.2.2.2.1 j hj) hl
    · rw [ho j h]; exact R.2.2.2.1 j hj
theorem Pnt.wr {nL : Nat} {D : va_G} {cy : Nat → ClassId} {bs : Nat} {s : State} {g0 : Sto} {ad0 ad : Nat → Nat} {g g' : Sto} {H H1 : Heap} {locs locs1 : List Loc} {k n : Nat} {lsA : Array Slot} {ls : List Value} (P : Pnt nL D cy bs s g0 ad0 ad g H locs k n lsA ls) (hR : Rep D cy bs ad g' H1) (hS : va_S (fun q => bs ≤ q) s.heap H1 locs1) (hsh : g'.1 = g.1) : Pnt nL D cy bs s g0 ad0 ad g' H1 locs1 k n lsA ls := by
  refine ⟨hR, hS, ?_, P.2.2.2.1, P.2.2.2.2.1, ?_⟩
  · rw [hsh]; exact P.2.2.1
  · rw [hsh]; exact P.2.2.2.2.2
theorem fv_set {ad : Nat → Nat} {F F' : Nat → Int32} {fs : List Value} {f : Nat} {x y : Int32} (h : fs[f]? = some (.int y)) (hF : F' f = x) (ho : ∀ j, j ≠ f → F' j = F j) : (fs.mapIdx (fun i v => fvl ad (F i) v)).set f (.int x) = fs.mapIdx (fun i v => fvl ad (F' i) v) := by
  apply List.ext_getElem?
  intro j
  rw [List.getElem?_set, List.getElem?_mapIdx, List.getElem?_mapIdx]
  by_cases hj : f = j
  · subst hj
    have hl := (List.getElem?_eq_some_iff.mp h).1
    rw [if_pos rfl, if_pos (by rw [List.length_mapIdx]; exact hl), h]
    simp [fvl, hF]
  · rw [if_neg hj, ho j (fun e => hj e.symm)]
section Steps3
variable {d : Nat} {own : String} {cc : ByteArray} {nL : Nat} {ret : Option FieldType} {ini : Inq} {pc : Nat}
def s_getf (ci f nx : Nat) : Stq := fun ls st g K _ => match st with
  | .ref k :: st => match g.1 k with
    | some (.inl (ci', fs)) => if ci' = ci then (match fs[f]? with
      | some (.int _) => K nx ls (.int (g.2.1 k f) :: st) g
      | some (.ref j) => K nx ls (.ref j :: st) g
      | _ => False) else False
    | _ => False
  | _ => False
theorem getf_spec {ci f nx : Nat} {ls st : List Value} {g : Sto} {K : Kon} {Q : Rsl} (h : s_getf ci f nx ls st g K Q) : ∃ (k : Nat) (st' : List Value) (fs : List Value) (v w : Value), st = .ref k :: st' ∧ g.1 k = some (.inl (ci, fs)) ∧ fs[f]? = some v ∧ K nx ls (w :: st') g ∧ ∀ ad, cnc ad w = fvl ad (g.2.1 k f) v := by
  simp only [s_getf] at h
  split at h
  · rename_i k st'
    split at h
    · rename_i ci' fs hk
      split at h
      · rename_i hci
        subst hci
        split at h
        · rename_i y hv
          exact ⟨k, st', fs, _, _, rfl, hk, hv, h, fun _ => rfl⟩
        · rename_i j hv
          exact ⟨k, st', fs, _, _, rfl, hk, hv, h, fun _ => rfl⟩
        · exact h.elim
      · exact h.elim
    · exact h.elim
  · exact h.elim
theorem snd_getf {ci f N index : Nat} {C : String} {T : u_T} {ty : Nat → FieldType} (CI : ClI ci C T N ty) (hN : f < N) (hl : Cond.fieldLink own index (T f).1 (T f).2.1 (T f).2.2.1 ∈ gtb) (hd : decode cc pc = .ok (.getfield index, 3)) : Snd d own cc nL ret ini pc (s_getf ci f (pc + 3)) := by
  intro p l e s m args below meth c Q D cy bs g0 ad0 Cc hi ls st g K Qr hf hK hQ ad H locs k n lsA P
  obtain ⟨j, st', fs, v, w, rfl, hj, hv, hk, hc⟩ := getf_spec hf
  obtain ⟨ws, hP, hD, hin, -⟩ := P.1.list
  obtain ⟨q0, hq0⟩ := hin j _ hj
  have h1 := hK _ _ _ _ hk ad H locs k n lsA P
  rw [List.map_cons, hc ad] at h1
  exact va_get Cc.1 Cc.2.1 Cc.2.2.2.2.1 CI.2.1 Cc.2.2.2.1 Cc.2.2.2.2.2.2.1 hP q0 hq0 CI.1 f hN (Cc.2.2.2.2.1 _ hl) (fun _ h => h) (by rw [List.getElem?_mapIdx, hv]; rfl) hd h1
theorem snd_getfN {ci f N index : Nat} {C host : String} {T : u_T} {ty : Nat → FieldType} (CI : ClI ci C T N ty) (hN : f < N) (hl : Cond.fieldLinkNest own index (T f).1 (T f).2.1 (T f).2.2.1 host ∈ ntb) (hd : decode cc pc = .ok (.getfield index, 3)) : Snd d own cc nL ret ini pc (s_getf ci f (pc + 3)) := by
  intro p l e s m args below meth c Q D cy bs g0 ad0 Cc hi ls st g K Qr hf hK hQ ad H locs k n lsA P
  obtain ⟨j, st', fs, v, w, rfl, hj, hv, hk, hc⟩ := getf_spec hf
  obtain ⟨ws, hP, hD, hin, -⟩ := P.1.list
  obtain ⟨q0, hq0⟩ := hin j _ hj
  have h1 := hK _ _ _ _ hk ad H locs k n lsA P
  rw [List.map_cons, hc ad] at h1
  exact va_getN Cc.1 Cc.2.1 Cc.2.2.2.2.1 CI.2.1 Cc.2.2.2.1 Cc.2.2.2.2.2.2.1 hP q0 hq0 CI.1 f hN (va_Nw.use rfl (Cc.2.2.2.2.2.1 _ hl)) (fun _ h => h) (by rw [List.getElem?_mapIdx, hv]; rfl) hd h1
def gI' (g : Sto) (k f : Nat) (x : Int32) : Sto := (g.1, up1 g.2.1 k (up1 (g.2.1 k) f x), g.2.2)
def s_puti (ci f nx : Nat) : Stq := fun ls st g K _ => match st with
  | .int x :: .ref k :: st => match g.1 k with
    | some (.inl (ci', fs)) => if ci' = ci then (match fs[f]? with
      | some (.int _) => K nx ls st (gI' g k f x)
      | _ => False) else False
    | _ => False
  | _ => False
theorem puti_spec {ci f nx : Nat} {ls st : List Value} {g : Sto} {K : Kon} {Q : Rsl} (h : s_puti ci f nx ls st g K Q) : ∃ (k : Nat) (x y : Int32) (st' : List Value) (fs : List Value), st = .int x :: .ref k :: st' ∧ g.1 k = some (.inl (ci, fs)) ∧ fs[f]? = some (.int y) ∧ K nx ls st' (gI' g k f x) := by
  simp only [s_puti] at h
  split at h
  · rename_i x k st'
    split at h
    · rename_i ci' fs hk
      split at h
      · rename_i hci
        subst hci
        split at h
        · rename_i y hv
          exact ⟨k, x, y, st', fs, rfl, hk, hv, h⟩
        · exact h.elim
      · exact h.elim
    · exact h.elim
  · exact h.elim
theorem puti_rep {D : va_G} {cy : Nat → ClassId} {bs : Nat} {ad : Nat → Nat} {g : Sto} {H H1 : Heap} {k f ci : Nat} {x y : Int32} {fs : List Value} {q0 : Nat} {ws : va_W} (R : Rep D cy bs ad g H) (hk : g.1 k = some (.inl (ci, fs))) (hf : fs[f]? = some (.int y))
    (hw : ∀ (q0 k : Nat) (e0 e : va_E) (H1 : Heap), g.1 k ≠ none → ws[q0]? = some (ad k, e0) → va_P D vwCl (ws.set q0 (ad k, e)) H1 → va_at D vwCl (ad k, e) H1 ∧ ∀ (j : Nat) (s : Shp), j ≠ k → g.1 j = some s → va_at D vwCl (ad j, cel cy ad g j s) H1)
    (hq0 : ws[q0]? = some (ad k, cel cy ad g k (.inl (ci, fs)))) (hP : va_P D vwCl (ws.set q0 (ad k, .inr (ci, (fs.mapIdx (fun i v => fvl ad (g.2.1 k i) v)).set f (.int x)))) H1) : Rep D cy bs ad (gI' g k f x) H1 := by
  obtain ⟨h1, h2⟩ := hw q0 k _ _ H1 (by rw [hk]; simp) hq0 hP
  refine R.put (k := k) (s' := .inl (ci, fs)) (by rw [hk]; simp) hk (fun _ _ => rfl) (fun j s hj => ?_) ?_ h2 R.2.2.2.2
  · unfold cel gI'
    simp only [up1_n _ _ hj]
  · rw [fv_set (F' := up1 (g.2.1 k) f x) hf (up1_s _ _ _) (fun j hj => up1_n _ _ hj)] at h1
    unfold cel gI'
    simp only [up1_s]
    exact h1
theorem snd_puti {ci f N index : Nat} {C : String} {T : u_T} {ty : Nat → FieldType} (CI : ClI ci C T N ty) (hN : f < N) (hl : Cond.fieldLink own index (T f).1 (T f).2.1 (T f).2.2.1 ∈ gtb) (hfin : (T f).2.2.2 = false) (hty : parseFieldDescriptor (T f).2.2.1 = some .int) (hd : decode cc pc = .ok (.putfield index, 3)) : Snd d own cc nL ret ini pc (s_puti ci f (pc + 3)) := by
  intro p l e s m args below meth c Q D cy bs g0 ad0 Cc hi ls st g K Qr hf hK hQ ad H locs k n lsA P
  obtain ⟨j, x, y, st', fs, rfl, hj, hv, hk⟩ := puti_spec hf
  obtain ⟨ws, hP, hD, hin, hw⟩ := P.1.list
  obtain ⟨q0, hq0⟩ := hin j _ hj
  refine va_put Cc.1 Cc.2.1 Cc.2.2.2.2.1 CI.2.1 ty CI.2.2.1 CI.2.2.2 Cc.2.2.2.1 Cc.2.2.2.2.2.2.1 hP hD P.2.1 q0 hq0 CI.1 f hN (Cc.2.2.2.2.1 _ hl) (fun _ h => h) hfin (v := .int x) hty rfl rfl (by rw [List.length_mapIdx]; exact (List.getElem?_eq_some_iff.mp hv).1) hd (fun H1 locs1 hP1 hD1 hS1 => ?_)
  exact hK _ _ _ _ hk ad H1 locs1 k n lsA (P.wr (puti_rep P.1 hj hv hw hq0 hP1) hS1 rfl)
theorem snd_putiN {ci f N index : Nat} {C host : String} {T : u_T} {ty : Nat → FieldType} (CI : ClI ci C T N ty) (hN : f < N) (hl : Cond.fieldLinkNest own index (T f).1 (T f).2.1 (T f).2.2.1 host ∈ ntb) (hfin : (T f).2.2.2 = false) (hty : parseFieldDescriptor (T f).2.2.1 = some .int) (hd : decode cc pc = .ok (.putfield index, 3)) : Snd d own cc nL ret ini pc (s_puti ci f (pc + 3)) := by
  intro p l e s m args below meth c Q D cy bs g0 ad0 Cc hi ls st g K Qr hf hK hQ ad H locs k n lsA P
  obtain ⟨j, x, y, st', fs, rfl, hj, hv, hk⟩ := puti_spec hf
  obtain ⟨ws, hP, hD, hin, hw⟩ := P.1.list
  obtain ⟨q0, hq0⟩ := hin j _ hj
  refine va_putN Cc.1 Cc.2.1 Cc.2.2.2.2.1 CI.2.1 ty CI.2.2.1 CI.2.2.2 Cc.2.2.2.1 Cc.2.2.2.2.2.2.1 hP hD P.2.1 q0 hq0 CI.1 f hN (va_Nw.use rfl (Cc.2.2.2.2.2.1 _ hl)) (fun _ h => h) hfin (v := .int x) hty rfl rfl (by rw [List.length_mapIdx]; exact (List.getElem?_eq_some_iff.mp hv).1) hd (fun H1 locs1 hP1 hD1 hS1 => ?_)
  exact hK _ _ _ _ hk ad H1 locs1 k n lsA (P.wr (puti_rep P.1 hj hv hw hq0 hP1) hS1 rfl)
def s_putz (ci f nx : Nat) : Stq := fun ls st g K Q => match st with
  | .int x :: _ => (x = 0 ∨ x = 1) ∧ s_puti ci f nx ls st g K Q
  | _ => False
theorem snd_putz {ci f N index : Nat} {C : String} {T : u_T} {ty : Nat → FieldType} (CI : ClI ci C T N ty) (hN : f < N) (hl : Cond.fieldLink own index (T f).1 (T f).2.1 (T f).2.2.1 ∈ gtb) (hfin : (T f).2.2.2 = false) (hty : parseFieldDescriptor (T f).2.2.1 = some .boolean) (hd : decode cc pc = .ok (.putfield index, 3)) : Snd d own cc nL ret ini pc (s_putz ci f (pc + 3)) := by
  intro p l e s m args below meth c Q D cy bs g0 ad0 Cc hi ls st g K Qr hf hK hQ ad H locs k n lsA P
  simp only [s_putz] at hf
  split at hf
  · obtain ⟨h01, hf⟩ := hf
    obtain ⟨j, x, y, st', fs, he, hj, hv, hk⟩ := puti_spec hf
    injection he with he1 he2
    injection he1 with he1
    subst he1
    subst he2
    obtain ⟨ws, hP, hD, hin, hw⟩ := P.1.list
    obtain ⟨q0, hq0⟩ := hin j _ hj
    refine va_put Cc.1 Cc.2.1 Cc.2.2.2.2.1 CI.2.1 ty CI.2.2.1 CI.2.2.2 Cc.2.2.2.1 Cc.2.2.2.2.2.2.1 hP hD P.2.1 q0 hq0 CI.1 f hN (Cc.2.2.2.2.1 _ hl) (fun _ h => h) hfin (v := .int _) hty (by rcases h01 with h | h <;> subst h <;> decide) (by rcases h01 with h | h <;> subst h <;> decide) (by rw [List.length_mapIdx]; exact (List.getElem?_eq_some_iff.mp hv).1) hd (fun H1 locs1 hP1 hD1 hS1 => ?_)
    exact hK _ _ _ _ hk ad H1 locs1 k n lsA (P.wr (puti_rep P.1 hj hv hw hq0 hP1) hS1 rfl)
  · exact hf.elim
/-! arrays -/
def gA' (g : Sto) (k i : Nat) (x : Int32) : Sto := (g.1, g.2.1, up1 g.2.2.1 k (up1 (g.2.2.1 k) i x), g.2.2.2)
def gL' (g : Sto) (k i : Nat) (x : Int64) : Sto := (g.1, g.2.1, g.2.2.1, up1 g.2.2.2 k (up1 (g.2.2.2 k) i x))
def s_iald (nx : Nat) : Stq := fun ls st g K _ => match st with
  | .int i :: .ref k :: st => match g.1 k with
    | some (.inr (0, n)) => vp_in i n ∧ K nx ls (.int (g.2.2.1 k i.toNatClampNeg) :: st) g
    | _ => False
  | _ => False
theorem snd_iald (hd : decode cc pc = .ok (.iaload, 1)) : Snd d own cc nL ret ini pc (s_iald (pc + 1)) := by
  intro p l e s m args below meth c Q D cy bs g0 ad0 Cc hi ls st g K Qr hf hK hQ ad H locs k n lsA P
  simp only [s_iald] at hf
  split at hf
  · rename_i i j st'
    split at hf
    · rename_i n' hj
      obtain ⟨ws, hP, hD, hin, hw⟩ := P.1.list
      obtain ⟨q0, hq0⟩ := hin j _ hj
      exact va_iald Cc.1 Cc.2.1 Cc.2.2.2.2.2.2.1 hP q0 0 hq0 rfl hf.1 hd (hK _ _ _ _ hf.2 ad H locs k n lsA P)
    · exact hf.elim
  · exact hf.elim
def s_zald (nx : Nat) : Stq := fun ls st g K _ => match st with
  | .int i :: .ref k :: st => match g.1 k with
    | some (.inr (2, n)) => vp_in i n ∧ K nx ls (.int (g.2.2.1 k i.toNatClampNeg) :: st) g
    | _ => False
  | _ => False
theorem snd_zald (hd : decode cc pc = .ok (.baload, 1)) : Snd d own cc nL ret ini pc (s_zald (pc + 1)) := by
  intro p l e s m args below meth c Q D cy bs g0 ad0 Cc hi ls st g K Qr hf hK hQ ad H locs k n lsA P
  simp only [s_zald] at hf
  split at hf
  · rename_i i j st'
    split at hf
    · rename_i n' hj
      obtain ⟨ws, hP, hD, hin, hw⟩ := P.1.list
      obtain ⟨q0, hq0⟩ := hin j _ hj
      exact va_zald Cc.1 Cc.2.1 Cc.2.2.2.2.2.2.1 hP q0 2 hq0 rfl hf.1 hd (hK _ _ _ _ hf.2 ad H locs k n lsA P)
    · exact hf.elim
  · exact hf.elim
def s_lald (nx : Nat) : Stq := fun ls st g K _ => match st with
  | .int i :: .ref k :: st => match g.1 k with
    | some (.inr (1, n)) => vp_in i n ∧ K nx ls (.long (g.2.2.2 k i.toNatClampNeg) :: st) g
    | _ => False
  | _ => False
theorem snd_lald (hd : decode cc pc = .ok (.laload, 1)) : Snd d own cc nL ret ini pc (s_lald (pc + 1)) := by
  intro p l e s m args below meth c Q D cy bs g0 ad0 Cc hi ls st g K Qr hf hK hQ ad H locs k n lsA P
  simp only [s_lald] at hf
  split at hf
  · rename_i i j st'
    split at hf
    · rename_i n' hj
      obtain ⟨ws, hP, hD, hin, hw⟩ := P.1.list
      obtain ⟨q0, hq0⟩ := hin j _ hj
      exact va_lald Cc.1 Cc.2.1 Cc.2.2.2.2.2.2.1 hP q0 1 hq0 rfl hf.1 hd (hK _ _ _ _ hf.2 ad H locs k n lsA P)
    · exact hf.elim
  · exact hf.elim
theorem gA_rep {D : va_G} {cy : Nat → ClassId} {bs : Nat} {ad : Nat → Nat} {g : Sto} {H H1 : Heap} {k kd n : Nat} {q0 : Nat} {ws : va_W} {e1 : va_E} {a0 : Nat → Int32} (R : Rep D cy bs ad g H) (hk : g.1 k = some (.inr (kd, n)))
    (hw : ∀ (q0 k : Nat) (e0 e : va_E) (H1 : Heap), g.1 k ≠ none → ws[q0]? = some (ad k, e0) → va_P D vwCl (ws.set q0 (ad k, e)) H1 → va_at D vwCl (ad k, e) H1 ∧ ∀ (j : Nat) (s : Shp), j ≠ k → g.1 j = some s → va_at D vwCl (ad j, cel cy ad g j s) H1)
    (hq0 : ws[q0]? = some (ad k, cel cy ad g k (.inr (kd, n)))) (hP : va_P D vwCl (ws.set q0 (ad k, e1)) H1) (he : e1 = cel cy ad (g.1, g.2.1, up1 g.2.2.1 k a0, g.2.2.2) k (.inr (kd, n))) : Rep D cy bs ad (g.1, g.2.1, up1 g.2.2.1 k a0, g.2.2.2) H1 := by
  obtain ⟨h1, h2⟩ := hw q0 k _ _ H1 (by rw [hk]; simp) hq0 hP
  refine R.put (k := k) (s' := .inr (kd, n)) (by rw [hk]; simp) hk (fun _ _ => rfl) (fun j s hj => ?_) (by rw [← he]; exact h1) h2 R.2.2.2.2
  unfold cel
  simp only [up1_n _ _ hj]
def s_iast (nx : Nat) : Stq := fun ls st g K _ => match st with
  | .int x :: .int i :: .ref k :: st => match g.1 k with
    | some (.inr (0, n)) => vp_in i n ∧ K nx ls st (gA' g k i.toNatClampNeg x)
    | _ => False
  | _ => False
theorem snd_iast (hd : decode cc pc = .ok (.iastore, 1)) : Snd d own cc nL ret ini pc (s_iast (pc + 1)) := by
  intro p l e s m args below meth c Q D cy bs g0 ad0 Cc hi ls st g K Qr hf hK hQ ad H locs k n lsA P
  simp only [s_iast] at hf
  split at hf
  · rename_i x i j st'
    split at hf
    · rename_i n' hj
      obtain ⟨ws, hP, hD, hin, hw⟩ := P.1.list
      obtain ⟨q0, hq0⟩ := hin j _ hj
      refine va_iast Cc.1 Cc.2.1 Cc.2.2.2.2.2.2.1 hP hD P.2.1 q0 0 hq0 rfl hf.1 hd (fun H1 locs1 hP1 hD1 hS1 => ?_)
      exact hK _ _ _ _ hf.2 ad H1 locs1 k n lsA (P.wr (gA_rep P.1 hj hw hq0 hP1 (by unfold cel; simp only [up1_s]; rfl)) hS1 rfl)
    · exact hf.elim
  · exact hf.elim
def s_zast (nx : Nat) : Stq := fun ls st g K _ => match st with
  | .int x :: .int i :: .ref k :: st => match g.1 k with
    | some (.inr (2, n)) => (x = 0 ∨ x = 1) ∧ vp_in i n ∧ K nx ls st (gA' g k i.toNatClampNeg x)
    | _ => False
  | _ => False
theorem snd_zast (hd : decode cc pc = .ok (.bastore, 1)) : Snd d own cc nL ret ini pc (s_zast (pc + 1)) := by
  intro p l e s m args below meth c Q D cy bs g0 ad0 Cc hi ls st g K Qr hf hK hQ ad H locs k n lsA P
  simp only [s_zast] at hf
  split at hf
  · rename_i x i j st'
    split at hf
    · rename_i n' hj
      obtain ⟨h01, hf⟩ := hf
      obtain ⟨ws, hP, hD, hin, hw⟩ := P.1.list
      obtain ⟨q0, hq0⟩ := hin j _ hj
      have hx : vp_nar .boolean x = x := by rcases h01 with h | h <;> subst h <;> decide
      refine va_zast Cc.1 Cc.2.1 Cc.2.2.2.2.2.2.1 hP hD P.2.1 q0 2 hq0 rfl hf.1 hd (fun H1 locs1 hP1 hD1 hS1 => ?_)
      rw [hx] at hP1
      exact hK _ _ _ _ hf.2 ad H1 locs1 k n lsA (P.wr (gA_rep P.1 hj hw hq0 hP1 (by unfold cel; simp only [up1_s]; rfl)) hS1 rfl)
    · exact hf.elim
  · exact hf.elim
def s_last (nx : Nat) : Stq := fun ls st g K _ => match st with
  | .long x :: .int i :: .ref k :: st => match g.1 k with
    | some (.inr (1, n)) => vp_in i n ∧ K nx ls st (gL' g k i.toNatClampNeg x)
    | _ => False
  | _ => False
theorem snd_last (hd : decode cc pc = .ok (.lastore, 1)) : Snd d own cc nL ret ini pc (s_last (pc + 1)) := by
  intro p l e s m args below meth c Q D cy bs g0 ad0 Cc hi ls st g K Qr hf hK hQ ad H locs k n lsA P
  simp only [s_last] at hf
  split at hf
  · rename_i x i j st'
    split at hf
    · rename_i n' hj
      obtain ⟨ws, hP, hD, hin, hw⟩ := P.1.list
      obtain ⟨q0, hq0⟩ := hin j _ hj
      refine va_last Cc.1 Cc.2.1 Cc.2.2.2.2.2.2.1 hP hD P.2.1 q0 1 hq0 rfl hf.1 hd (fun H1 locs1 hP1 hD1 hS1 => ?_)
      refine hK _ _ _ _ hf.2 ad H1 locs1 k n lsA (P.wr ?_ hS1 rfl)
      obtain ⟨h1, h2⟩ := hw q0 j _ _ H1 (by rw [hj]; simp) hq0 hP1
      refine P.1.put (k := j) (s' := .inr (1, n')) (by rw [hj]; simp) hj (fun _ _ => rfl) (fun j' s hj' => ?_) ?_ h2 P.1.2.2.2.2
      · unfold cel gL'
        simp only [up1_n _ _ hj']
      · have e1 : cel cy ad (gL' g j i.toNatClampNeg x) j (.inr (1, n')) = .inl (cy 1, n', .inr (.inl (vp_updL (g.2.2.2 j) i.toNatClampNeg x))) := by unfold cel gL'; simp only [up1_s]; rfl
        rw [e1]
        exact h1
    · exact hf.elim
  · exact hf.elim
def s_alen (nx : Nat) : Stq := fun ls st g K _ => match st with
  | .ref k :: st => match g.1 k with
    | some (.inr (0, n)) => K nx ls (.int (nI n) :: st) g
    | some (.inr (1, n)) => K nx ls (.int (nI n) :: st) g
    | _ => False
  | _ => False
theorem snd_alen (hd : decode cc pc = .ok (.arraylength, 1)) : Snd d own cc nL ret ini pc (s_alen (pc + 1)) := by
  intro p l e s m args below meth c Q D cy bs g0 ad0 Cc hi ls st g K Qr hf hK hQ ad H locs k n lsA P
  simp only [s_alen] at hf
  split at hf
  · rename_i j st'
    split at hf
    · rename_i n' hj
      obtain ⟨ws, hP, hD, hin, hw⟩ := P.1.list
      obtain ⟨q0, hq0⟩ := hin j _ hj
      exact va_alen Cc.1 Cc.2.1 Cc.2.2.2.2.2.2.1 hP q0 0 hq0 rfl rfl hd (hK _ _ _ _ hf ad H locs k n lsA P)
    · rename_i n' hj
      obtain ⟨ws, hP, hD, hin, hw⟩ := P.1.list
      obtain ⟨q0, hq0⟩ := hin j _ hj
      exact va_alen Cc.1 Cc.2.1 Cc.2.2.2.2.2.2.1 hP q0 1 hq0 rfl rfl hd (hK _ _ _ _ hf ad H locs k n lsA P)
    · exact hf.elim
  · exact hf.elim
/-- System.arraycopy of ints -/
def s_copy (nx : Nat) : Stq := fun ls st g K _ => match st with
  | .int n :: .int dp :: .ref b :: .int sp :: .ref a :: st => match g.1 a, g.1 b with
    | some (.inr (0, n0)), some (.inr (0, n1)) => (¬ sp < 0 ∧ ¬ dp < 0 ∧ ¬ n < 0 ∧ sp.toNatClampNeg + n.toNatClampNeg ≤ n0 ∧ dp.toNatClampNeg + n.toNatClampNeg ≤ n1) ∧ cond (decide ((st.map fun v => v.category).sum ≤ 8)) (K nx ls st (g.1, g.2.1, up1 g.2.2.1 b (va_cpy (g.2.2.1 a) (g.2.2.1 b) sp.toNatClampNeg dp.toNatClampNeg n.toNatClampNeg), g.2.2.2)) False
    | _, _ => False
  | _ => False
theorem cat_map (ad : Nat → Nat) (st : List Value) : ((st.map (cnc ad)).map fun v => v.category) = st.map fun v => v.category := by
  rw [List.map_map]
  exact List.map_congr_left fun v _ => cnc_cat ad v
theorem snd_copy {index : Nat} (hd1 : 1 ≤ d) (hl : Cond.methodLink own index arraycopyName ∈ gtb) (h2 : Cond.native arraycopyName ∈ gtb) (h3 : Cond.static arraycopyName ∈ gtb) (h4 : Cond.initialized "java/lang/System" ∈ gtb) (hd : decode cc pc = .ok (.invokestatic index, 3)) : Snd d own cc nL ret ini pc (s_copy (pc + 3)) := by
  intro p l e s m args below meth c Q D cy bs g0 ad0 Cc hi ls st g K Qr hf hK hQ ad H locs k n lsA P
  simp only [s_copy] at hf
  split at hf
  · rename_i n2 dp b sp a st'
    split at hf
    · rename_i n0 n1 ha hb
      obtain ⟨⟨q1, q2, q3, q4, q5⟩, hf⟩ := hf
      cases hc : decide ((st'.map fun v => v.category).sum ≤ 8) with
      | false => rw [hc] at hf; exact hf.elim
      | true =>
        rw [hc] at hf
        have hc := of_decide_eq_true hc
        obtain ⟨ws, hP, hD, hin, hw⟩ := P.1.list
        obtain ⟨i0, hi0⟩ := hin a _ ha
        obtain ⟨i1, hi1⟩ := hin b _ hb
        refine va_copyi Cc.1 Cc.2.1 (by rw [Cc.2.2.1, P.2.2.2.1.2.1]) Cc.2.2.2.1 (Cc.2.2.2.2.1 _ hl) (Cc.2.2.2.2.1 _ h2) (Cc.2.2.2.2.1 _ h3) (Cc.2.2.2.2.1 _ h4) Cc.2.2.2.2.2.2.1 hP hD P.2.1 i0 i1 0 0 hi0 hi1 rfl rfl rfl q1 q2 q3 q4 q5 (fun _ _ => rfl) hd1 (by rw [cat_map]; show _ + (5 + 2 + 11) ≤ 32 * d + 8; omega) hd (fun H1 locs1 hP1 hD1 hS1 => ?_)
        exact hK _ _ _ _ hf ad H1 locs1 k n lsA (P.wr (gA_rep P.1 hb hw hi1 hP1 (by unfold cel; simp only [up1_s])) hS1 rfl)
    · exact hf.elim
  · exact hf.elim
/-- the call of Object's own constructor -/
def s_oini (nx : Nat) : Stq := fun ls st g K _ => match st with
  | .ref _ :: st => cond (decide ((st.map fun v => v.category).sum ≤ 8)) (K nx ls st g) False
  | _ => False
theorem snd_oini {index : Nat} (hd1 : 1 ≤ d) (hl : Cond.methodLink own index objectInit ∈ gtb) (h2 : Cond.instanceMethod objectInit ∈ gtb) (h3 : Cond.code objectInit ⟨#[0xb1]⟩ 1 none ∈ gtb) (hd : decode cc pc = .ok (.invokespecial index, 3)) : Snd d own cc nL ret ini pc (s_oini (pc + 3)) := by
  intro p l e s m args below meth c Q D cy bs g0 ad0 Cc hi ls st g K Qr hf hK hQ ad H locs k n lsA P
  simp only [s_oini] at hf
  split at hf
  · rename_i a st'
    cases hc : decide ((st'.map fun v => v.category).sum ≤ 8) with
    | false => rw [hc] at hf; exact hf.elim
    | true =>
      rw [hc] at hf
      have hc := of_decide_eq_true hc
      refine W.objInit Cc.1 Cc.2.1 Cc.2.2.2.1 (Cc.2.2.2.2.1 _ hl) (Cc.2.2.2.2.1 _ h2) (Cc.2.2.2.2.1 _ h3) (rest := st'.map (cnc ad)) rfl (by show lsA.size = _; rw [Cc.2.2.1, P.2.2.2.1.2.1]) rfl hd hd1 (by rw [cat_map]; show 2 * 0 + _ + 12 ≤ 32 * d + 8; omega) ?_
      exact hK _ _ _ _ hf ad H locs k n lsA P
  · exact hf.elim
end Steps3
end
section
/-! contracts of methods, calls -/
def Wld (D : va_G) (cy : Nat → ClassId) (bs : Nat) (ad : Nat → Nat) (g : Sto) (U : State) : Prop := Rep D cy bs ad g U.heap ∧ va_K D vwCl (tysL cy) U ∧ (∀ w ∈ ntb, va_Nw w U) ∧ bs ≤ U.heap.size
def wsY (y : MethodName) (cc : ByteArray) (nL : Nat) (ret : Option FieldType) : List Cond := .code y cc nL ret :: gtb
def PreM (D : va_G) (cy : Nat → ClassId) (bs : Nat) (ad : Nat → Nat) (As : List Value) (g : Sto) : Array Value → State → Prop := fun a U => a = (As.map (cnc ad)).toArray ∧ Wld D cy bs ad g U
def PstM (D : va_G) (cy : Nat → ClassId) (bs : Nat) (ad : Nat → Nat) (g : Sto) (Qr : Rsl) : Array Value → State → Outcome → State → Nat → Nat → Prop := fun _ st o t k n =>
  ∃ (v : Option Value) (g' : Sto) (ad' : Nat → Nat), o = .returned (v.map (cnc ad')) ∧ Qr v g' ∧ Rep D cy bs ad' g' t.heap ∧ (∀ j, (49 ≤ j ∨ g.1 j ≠ none) → grw j = false → ad' j = ad j) ∧ (∀ j, g.1 j ≠ none → grw j = false → g'.1 j ≠ none) ∧ (k + cU g.1 ≤ cU g'.1 ∧ n + sU g.1 ≤ sU g'.1) ∧ va_F (fun q => bs ≤ q) st t
def EndM (D : va_G) (cy : Nat → ClassId) (bs : Nat) (ad : Nat → Nat) (g : Sto) (Qr : Rsl) : Array Value → State → Outcome → State → Prop := fun a st o t => ∃ (L : List Loc) (k n : Nat), PstM D cy bs ad g Qr a st o t k n ∧ FrameEnd st o t L k n ∧ ∀ q ∈ L, bs ≤ q.base
/-- the contract: from every store at which sp says Qr of the answer and the store behind it, the method comes back so -/
def Ok (d : Nat) (y : MethodName) (cc : ByteArray) (nL : Nat) (ret : Option FieldType) (sp : Spc) : Prop :=
  ∀ (l : Launch) (D : va_G) (cy : Nat → ClassId) (bs : Nat) (ad : Nat → Nat) (As : List Value) (g : Sto) (Qr : Rsl), sp As g Qr → MetFree l y (headSpec (wsY y cc nL ret) (Lvl d)) (PreM D cy bs ad As g) (fun _ _ _ _ _ => True) (EndM D cy bs ad g Qr)
theorem gtb_good {w : Cond} (h : w ∈ gtb) : (w.onTables && w.keeps) = true ∨ ∃ ty, w = .arrayClass ty := good_of_word (List.mem_filter.mp h).2
theorem ntb_warm {w : Cond} (h : w ∈ ntb) {s U : State} (hW : s.WarmedH U.vm) (hn : va_Nw w s) : va_Nw w U := by
  have h1 := (List.mem_filter.mp h).2
  cases w <;> first | exact va_Nw.warmF hW hn | exact va_Nw.warmM hW hn | cases h1
theorem ntb_same {w : Cond} (h : w ∈ ntb) {s U : State} (hW : s.vm = U.vm) (hn : va_Nw w s) : va_Nw w U := by
  have h1 := (List.mem_filter.mp h).2
  cases w <;> first | exact va_Nw.same rfl hW hn | cases h1
theorem preM_blind {D : va_G} {cy : Nat → ClassId} {bs : Nat} {ad : Nat → Nat} {As : List Value} {g : Sto} : FrameBlind (PreM D cy bs ad As g) := by
  intro a U f mk h
  obtain ⟨h1, h2, h3, h4, h5⟩ := h
  exact ⟨h1, h2, va_K.moved (u := U) (U := U.calling f mk a) (Vm.Alike.refl U.vm) h3, fun w hw => ntb_same hw (rfl : U.vm = (U.calling f mk a).vm) (h4 w hw), h5⟩
section Back2
variable {l : Launch} {R : Room} {p : Program} {e : Env} {below : List Frame} {s : State} {sargs : Array Value} {y : MethodName} {len : Nat}
theorem back2 {d nL : Nat} {cc : ByteArray} {ret : Option FieldType} {D : va_G} {cy : Nat → ClassId} {bs : Nat} {ad : Nat → Nat} {As : List Value} {g : Sto} {Qr : Rsl}
    (hM : MetFree l y (headSpec (wsY y cc nL ret) (Lvl d)) (PreM D cy bs ad As g) (fun _ _ _ _ _ => True) (EndM D cy bs ad g Qr)) (hframes : d + 1 ≤ R.frames) (hlocals : 8 + (nL + 11) + (32 * d + 8) ≤ R.locals)
    (hws : ∀ w ∈ gtb, w.before sargs s = true) (hcode : Cond.code y cc nL ret ∈ gtb) (hinit : (Cond.initialized y.cls).before sargs s = true) :
    Back l R p e below s sargs y len 8 (fun A a => A.cells + (d + 1) * 60000 ≤ R.cells ∧ A.slots + (d + 1) * 730225 ≤ R.slots ∧ PreM D cy bs ad As g a A.U)
      (fun A a v B => ∃ (f : JFrame) (mk : MethodId) (t : State) (L : List Loc) (k n : Nat), B.U.heap = t.heap ∧ B.U.vm = t.vm ∧ PstM D cy bs ad g Qr a (A.U.calling f mk a) (.returned v) t k n ∧ B.locs = A.locs ++ L ∧ (∀ q ∈ L, bs ≤ q.base) ∧ B.cells = A.cells + k ∧ B.slots = A.slots + n) := by
  have hw : ∀ w ∈ gtb, ∀ (a' : Array Value) (U : State), s.WarmedH U.vm → w.before a' U = true := fun w h a' U hW => word_at hW (gtb_good h) (hws w h)
  refine Back.of_free (bytes := cc) (maxL := nL) (ret := ret) (E := fun a st o t L k n => PstM D cy bs ad g Qr a st o t k n ∧ ∀ q ∈ L, bs ≤ q.base) hM hframes hlocals ?_ ?_ (fun _ _ _ _ _ _ _ _ _ => trivial) ?_ ?_
  · intro m meth c A a X hp
    refine ⟨atoms_intro fun w h => ?_, hw _ hcode _ _ X.warmed, word_at X.warmed (Or.inl (by first | rfl | simp [Cond.onTables, Cond.keeps, Cond.steady])) hinit, hp.1, hp.2.1⟩
    rcases List.mem_cons.mp h with h | h
    · rw [h]; exact hw _ hcode _ _ X.warmed
    · exact hw _ h _ _ X.warmed
  · intro m meth c A a f mk X hp
    exact preM_blind _ _ _ _ hp.2.2
  · intro a st o t hq
    obtain ⟨L, k, n, h1, h2, h3⟩ := hq
    exact ⟨L, k, n, h2, h1, h3⟩
  · intro m meth c A a f mk v t L k n X hp hq hF hE
    exact ⟨f, mk, t, L, k, n, rfl, rfl, hE.1, rfl, hE.2, rfl, rfl⟩
end Back2
def okv (g : Sto) (v : Value) : Bool := match v with
  | .ref j => (decide (49 ≤ j) || (g.1 j).isSome) && !(grw j)
  | _ => true
def chk (g : Sto) (ls rest : List Value) : Bool := (ls.all (okv g) && rest.all (okv g)) && decide ((rest.map fun v => v.category).sum ≤ 8)
theorem okv_cnc {g : Sto} {ad ad' : Nat → Nat} (h : ∀ j, (49 ≤ j ∨ g.1 j ≠ none) → grw j = false → ad' j = ad j) {v : Value} (hv : okv g v = true) : cnc ad' v = cnc ad v := by
  cases v with
  | ref j =>
    simp only [okv, Bool.and_eq_true, Bool.or_eq_true, decide_eq_true_eq, Bool.not_eq_true'] at hv
    show Value.ref _ = Value.ref _
    rw [h j (hv.1.imp id (fun q z => by rw [z] at q; cases q)) hv.2]
  | _ => rfl
theorem okv_map {g : Sto} {ad ad' : Nat → Nat} (h : ∀ j, (49 ≤ j ∨ g.1 j ≠ none) → grw j = false → ad' j = ad j) {st : List Value} (hv : st.all (okv g) = true) : st.map (cnc ad') = st.map (cnc ad) :=
  List.map_congr_left fun v h1 => okv_cnc h (List.all_eq_true.mp hv v h1)
def s_inv (n : Nat) (sp : Spc) (nx : Nat) : Stq := fun ls st g K _ => cond (chk g ls (st.drop n) && decide (n ≤ st.length)) (frc (st.take n).reverse (fun As => sp As g (fun v g' => frc (v.toList ++ st.drop n) (fun st' => K nx ls st' g')))) False
theorem inv_spec {n nx : Nat} {sp : Spc} {ls st : List Value} {g : Sto} {K : Kon} {Q : Rsl} (h : s_inv n sp nx ls st g K Q) : ∃ As rest, st = As.reverse ++ rest ∧ As.length = n ∧ ls.all (okv g) = true ∧ rest.all (okv g) = true ∧ (rest.map fun v => v.category).sum ≤ 8 ∧ sp As g (fun v g' => K nx ls (v.toList ++ rest) g') := by
  simp only [s_inv, frc_eq] at h
  cases hc : chk g ls (st.drop n) && decide (n ≤ st.length) with
  | false => rw [hc] at h; exact h.elim
  | true =>
    rw [hc] at h
    simp only [chk, Bool.and_eq_true, decide_eq_true_eq] at hc
    exact ⟨(st.take n).reverse, st.drop n, by rw [List.reverse_reverse, List.take_append_drop], by rw [List.length_reverse, List.length_take]; omega, hc.1.1.1, hc.1.1.2, hc.1.2, h⟩
section Steps4
variable {d : Nat} {own : String} {cc : ByteArray} {nL : Nat} {ret : Option FieldType} {ini : Inq} {pc : Nat}
/-- behind a call -/
theorem call_end {p : Program} {l : Launch} {e : Env} {R : Room} {s : State} {m : MethodId} {args : Array Value} {below : List Frame} {meth : Method} {c : Code} {Q : State → Prop} {D : va_G} {cy : Nat → ClassId} {bs : Nat} {g0 : Sto} {ad0 : Nat → Nat}
    {ls rest : List Value} {g : Sto} {K : Kon} {ad : Nat → Nat} {H : Heap} {locs : List Loc} {k n : Nat} {lsA : Array Slot} {nx : Nat} {T : State} {a : Array Value} {v : Option Value} {vm₁ : Vm} {B : Pt} {pc : Nat} {st0 : List Value}
    (P : Pnt nL D cy bs s g0 ad0 ad g H locs k n lsA ls) (hT : T.heap = H) (hls : ls.all (okv g) = true) (hrest : rest.all (okv g) = true)
    (hK : ∀ pc ls st g, K pc ls st g → BW p l e R s m args below meth c Q nL D cy bs g0 ad0 pc ls st g)
    (X' : Stand p l e R s m args below meth c B.U B.locs B.cells B.slots)
    (hpost : ∃ (f : JFrame) (mk : MethodId) (t : State) (L : List Loc) (k' n' : Nat), B.U.heap = t.heap ∧ B.U.vm = t.vm ∧ PstM D cy bs ad g (fun v g' => K nx ls (v.toList ++ rest) g') a ((T.setVm vm₁).calling f mk a) (.returned v) t k' n' ∧ B.locs = locs ++ L ∧ (∀ q ∈ L, bs ≤ q.base) ∧ B.cells = k + k' ∧ B.slots = n + n')
    (hnx : nx = pc + 3)
    (st : ∀ target, Steps p.tables e below (B.U.setTop { (F0 m pc lsA st0) with pc := (F0 m pc lsA st0).pc + 3, stack := v.toList ++ rest.map (cnc ad) }) target → Steps p.tables e below (T.setTop (F0 m pc lsA st0)) target) :
    ∃ t, Steps p.tables e below (T.setTop (F0 m pc lsA st0)) t ∧ Q t := by
  subst hnx
  obtain ⟨f, mk, t, L, k', n', e1, e2, ⟨v', g', ad', hv, hk', hR, ha, hlv, hcnt, hF⟩, h1, hL, h2, h3⟩ := hpost
  have hh : B.U.heap = t.heap := e1
  have hst : ((T.setVm vm₁).calling f mk a).heap = H := hT
  have P' : Pnt nL D cy bs s g0 ad0 ad' g' B.U.heap B.locs B.cells B.slots lsA ls := by
    refine ⟨by rw [hh]; exact hR, ?_, ?_, ?_, ?_, ?_⟩
    · obtain ⟨z1, z2⟩ := hF
      rw [hst] at z1 z2
      refine ⟨by rw [hh]; exact Nat.le_trans P.2.1.1 z1, fun q q1 q2 => ?_, fun q hq => ?_⟩
      · rw [hh, z2 q (Nat.lt_of_lt_of_le q1 P.2.1.1) q2]
        exact P.2.1.2.1 q q1 q2
      · rw [h1] at hq
        rcases List.mem_append.mp hq with hq | hq
        · exact P.2.1.2.2 q hq
        · exact hL q hq
    · rw [h2, h3]
      have := P.2.2.1
      omega
    · refine ⟨P.2.2.2.1.1, P.2.2.2.1.2.1, P.2.2.2.1.2.2.1, fun i w hi hw => ?_⟩
      rw [okv_cnc ha (List.all_eq_true.mp hls w (List.mem_of_getElem? hi))]
      exact P.2.2.2.1.2.2.2 i w hi hw
    · intro j hj hg
      rw [ha j (hj.imp id (fun q => P.2.2.2.2.2 j q hg)) hg]
      exact P.2.2.2.2.1 j hj hg
    · exact fun j hj hg => hlv j (P.2.2.2.2.2 j hj hg) hg
  obtain ⟨t2, a1, b1⟩ := hK _ _ _ _ hk' ad' B.U.heap B.locs B.cells B.slots lsA P' B.U rfl X'
  refine ⟨t2, st t2 ?_, b1⟩
  injection hv with hv
  rw [hv]
  rw [List.map_append, okv_map ha hrest] at a1
  have e3 : (v'.map (cnc ad')).toList = v'.toList.map (cnc ad') := by cases v' <;> rfl
  rw [e3]
  exact a1
theorem pre_call {p : Program} {s : State} {m : MethodId} {args : Array Value} {c : Code} {D : va_G} {cy : Nat → ClassId} {bs : Nat} {g0 : Sto} {ad0 : Nat → Nat} {ls As : List Value} {g : Sto} {ad : Nat → Nat} {H : Heap} {locs : List Loc} {k n d' : Nat} {lsA : Array Slot} {T : State} {vm₁ : Vm}
    (Cc : Cx own cc nL p s m args c D cy bs) (P : Pnt nL D cy bs s g0 ad0 ad g H locs k n lsA ls) (hT : T.heap = H) (hd : d' < d) (hW : s.WarmedH vm₁) :
    k + (d' + 1) * 60000 ≤ (Lvl d).cells ∧ n + (d' + 1) * 730225 ≤ (Lvl d).slots ∧ PreM D cy bs ad As g (As.map (cnc ad)).toArray (T.setVm vm₁) := by
  have hf : cU g.1 ≤ 60000 ∧ sU g.1 ≤ 730225 := P.1.2.2.2.2
  have h1 := P.2.2.1
  refine ⟨?_, ?_, rfl, ?_, va_K.moved hW.alike Cc.2.2.2.2.2.2.1, fun w hw => ntb_warm (U := T.setVm vm₁) hw hW (Cc.2.2.2.2.2.1 w hw), ?_⟩
  · show k + (d' + 1) * 60000 ≤ (d + 1) * 60000
    omega
  · show n + (d' + 1) * 730225 ≤ (d + 1) * 730225
    omega
  · show Rep D cy bs ad g T.heap
    rw [hT]; exact P.1
  · show bs ≤ T.heap.size
    rw [hT]; exact Nat.le_trans Cc.2.2.2.2.2.2.2 P.2.1.1
def yok (y : MethodName) (n : Nat) : Prop := y.cls ≠ "java/lang/invoke/MethodHandle" ∧ y.cls ≠ "java/lang/invoke/VarHandle" ∧ (parseMethodDescriptor y.desc).map (fun d => d.parameters.length) = some n
theorem yok_len {y : MethodName} {n : Nat} (h : yok y n) {As : List Value} (hl : As.length = n) : ∀ sig, parseMethodDescriptor y.desc = some sig → As.length = sig.parameters.length := by
  intro sig hs
  have h2 := h.2.2
  rw [hs] at h2
  rw [hl]
  exact (Option.some.inj h2).symm
theorem snd_invs {y : MethodName} {cc' : ByteArray} {nL' d' n index : Nat} {ret' : Option FieldType} {sp : Spc} (hO : Ok d' y cc' nL' ret' sp) (hdd : d' < d) (hnl : nL' ≤ 13) (hcode : Cond.code y cc' nL' ret' ∈ gtb) (hlink : Cond.methodLink own index y ∈ gtb) (hst : Cond.static y ∈ gtb) (hini : Cond.initialized y.cls ∈ gtb) (hy : yok y n) (hd : decode cc pc = .ok (.invokestatic index, 3)) :
    Snd d own cc nL ret ini pc (s_inv n sp (pc + 3)) := by
  intro p l e s m args below meth c Q D cy bs g0 ad0 Cc hi ls st g K Qr hf hK hQ ad H locs k n2 lsA P
  obtain ⟨As, rest, rfl, hlen, hls, hrest, hsum, hsp⟩ := inv_spec hf
  intro T hT X
  have hB := back2 (p := p) (e := e) (below := below) (R := Lvl d) (s := s) (sargs := args) (len := 3) (hO l D cy bs ad As g _ hsp) (show d' + 1 ≤ d by omega) (show 8 + (nL' + 11) + (32 * d' + 8) ≤ 32 * d + 8 by omega) Cc.2.2.2.2.1 hcode (Cc.2.2.2.2.1 _ hini)
  obtain ⟨v, vm₁, B, hW₁, X', hpost, st⟩ := callS X Cc.1 (bytes := cc') (maxL := nL') (ret := ret') Cc.2.2.2.1 (Cc.2.2.2.2.1 _ hlink) (Cc.2.2.2.2.1 _ hst) (Cc.2.2.2.2.1 _ hini) (Cc.2.2.2.2.1 _ hcode) ⟨hy.1, hy.2.1⟩ hB (g := F0 m pc lsA ((As.reverse ++ rest).map (cnc ad))) rfl (by rw [Cc.2.2.1]; exact P.2.2.2.1.2.1)
    (argsL := As.map (cnc ad)) (rest := rest.map (cnc ad)) (yok_len hy (by rw [List.length_map]; exact hlen)) (by show (As.reverse ++ rest).map (cnc ad) = _; rw [List.map_append, List.map_reverse]) (by show 2 * 0 + _ ≤ 8; rw [cat_map]; omega) (by rw [Cc.2.1]; exact hd)
    (fun vm₁ hW₁ => pre_call Cc P hT hdd hW₁)
  exact call_end P hT hls hrest hK X' hpost rfl st
theorem snd_invsN {y : MethodName} {host : String} {cc' : ByteArray} {nL' d' n index : Nat} {ret' : Option FieldType} {sp : Spc} (hO : Ok d' y cc' nL' ret' sp) (hdd : d' < d) (hnl : nL' ≤ 13) (hcode : Cond.code y cc' nL' ret' ∈ gtb) (hlink : Cond.methodLinkNest own index y host ∈ ntb) (hst : Cond.static y ∈ gtb) (hini : Cond.initialized y.cls ∈ gtb) (hy : yok y n) (hd : decode cc pc = .ok (.invokestatic index, 3)) :
    Snd d own cc nL ret ini pc (s_inv n sp (pc + 3)) := by
  intro p l e s m args below meth c Q D cy bs g0 ad0 Cc hi ls st g K Qr hf hK hQ ad H locs k n2 lsA P
  obtain ⟨As, rest, rfl, hlen, hls, hrest, hsum, hsp⟩ := inv_spec hf
  intro T hT X
  have hB := back2 (p := p) (e := e) (below := below) (R := Lvl d) (s := s) (sargs := args) (len := 3) (hO l D cy bs ad As g _ hsp) (show d' + 1 ≤ d by omega) (show 8 + (nL' + 11) + (32 * d' + 8) ≤ 32 * d + 8 by omega) Cc.2.2.2.2.1 hcode (Cc.2.2.2.2.1 _ hini)
  obtain ⟨v, vm₁, B, hW₁, X', hpost, st⟩ := va_callSN X Cc.1 (bytes := cc') (maxL := nL') (ret := ret') Cc.2.2.2.1 (va_Nw.use rfl (Cc.2.2.2.2.2.1 _ hlink)) (Cc.2.2.2.2.1 _ hst) (Cc.2.2.2.2.1 _ hini) (Cc.2.2.2.2.1 _ hcode) ⟨hy.1, hy.2.1⟩ hB (g := F0 m pc lsA ((As.reverse ++ rest).map (cnc ad))) rfl (by rw [Cc.2.2.1]; exact P.2.2.2.1.2.1)
    (argsL := As.map (cnc ad)) (rest := rest.map (cnc ad)) (yok_len hy (by rw [List.length_map]; exact hlen)) (by show (As.reverse ++ rest).map (cnc ad) = _; rw [List.map_append, List.map_reverse]) (by show 2 * 0 + _ ≤ 8; rw [cat_map]; omega) (by rw [Cc.2.1]; exact hd)
    (fun vm₁ hW₁ => pre_call Cc P hT hdd hW₁)
  exact call_end P hT hls hrest hK X' hpost rfl st
/-- a call on an object of a class -/
def rcv (g : Sto) (ci : Nat) (v : Option Value) : Bool := match v with
  | some (.ref k) => match g.1 k with
    | some (.inl (ci', _)) => ci' == ci
    | _ => false
  | _ => false
def s_invv (ci n : Nat) (sp : Spc) (nx : Nat) : Stq := fun ls st g K Q => cond (rcv g ci st[n]?) (s_inv (n + 1) sp nx ls st g K Q) False
theorem invv_spec {ci n nx : Nat} {sp : Spc} {ls st : List Value} {g : Sto} {K : Kon} {Q : Rsl} (h : s_invv ci n sp nx ls st g K Q) : ∃ (b : Nat) (fs As rest : List Value), st = As.reverse ++ .ref b :: rest ∧ g.1 b = some (.inl (ci, fs)) ∧ As.length = n ∧ ls.all (okv g) = true ∧ rest.all (okv g) = true ∧ (rest.map fun v => v.category).sum ≤ 8 ∧ sp (.ref b :: As) g (fun v g' => K nx ls (v.toList ++ rest) g') := by
  simp only [s_invv] at h
  cases hc : rcv g ci st[n]? with
  | false => rw [hc] at h; exact h.elim
  | true =>
    rw [hc] at h
    obtain ⟨As, rest, rfl, hlen, hls, hrest, hsum, hsp⟩ := inv_spec (show s_inv (n + 1) sp nx ls _ g K Q from h)
    cases As with
    | nil => simp at hlen
    | cons a As =>
      have hl2 : As.length = n := by simpa using hlen
      have ha : ((a :: As).reverse ++ rest)[n]? = some a := by
        rw [List.reverse_cons, List.append_assoc, List.getElem?_append_right (by rw [List.length_reverse]; omega), List.length_reverse, hl2, Nat.sub_self]
        rfl
      rw [ha] at hc
      simp only [rcv] at hc
      split at hc
      · rename_i b hb
        injection hb with hb
        subst hb
        split at hc
        · rename_i ci' fs hk
          have e := beq_iff_eq.mp hc
          subst e
          refine ⟨b, fs, As, rest, by rw [List.reverse_cons, List.append_assoc]; rfl, hk, hl2, hls, hrest, hsum, hsp⟩
        · cases hc
      · cases hc
theorem snd_invv {y : MethodName} {C : String} {T0 : u_T} {N ci : Nat} {ty0 : Nat → FieldType} {cc' : ByteArray} {nL' d' n index : Nat} {ret' : Option FieldType} {sp : Spc} (CI : ClI ci C T0 N ty0) (hO : Ok d' y cc' nL' ret' sp) (hdd : d' < d) (hnl : nL' ≤ 13) (hcode : Cond.code y cc' nL' ret' ∈ gtb) (hlink : Cond.methodLink own index y ∈ gtb) (hinst : Cond.instanceMethod y ∈ gtb) (hsel : Cond.selects C y y ∈ gtb) (hini : Cond.initialized y.cls ∈ gtb) (hy : yok y n) (hd : decode cc pc = .ok (.invokevirtual index, 3)) :
    Snd d own cc nL ret ini pc (s_invv ci n sp (pc + 3)) := by
  intro p l e s m args below meth c Q D cy bs g0 ad0 Cc hi ls st g K Qr hf hK hQ ad H locs k n2 lsA P
  obtain ⟨b, fs, As, rest, rfl, hb, hlen, hls, hrest, hsum, hsp⟩ := invv_spec hf
  intro T hT X
  have hB := back2 (p := p) (e := e) (below := below) (R := Lvl d) (s := s) (sargs := args) (len := 3) (hO l D cy bs ad (.ref b :: As) g _ hsp) (show d' + 1 ≤ d by omega) (show 8 + (nL' + 11) + (32 * d' + 8) ≤ 32 * d + 8 by omega) Cc.2.2.2.2.1 hcode (Cc.2.2.2.2.1 _ hini)
  obtain ⟨ws, hP, hD, hin, -⟩ := P.1.list
  obtain ⟨q0, hq0⟩ := hin b _ hb
  obtain ⟨cell, r1, r2, r3⟩ := va_recv Cc.2.2.2.2.2.2.1 hP CI.1 hq0
  obtain ⟨v, vm₁, B, hW₁, X', hpost, st⟩ := callV X Cc.1 (C := C) (bytes := cc') (maxL := nL') (ret := ret') Cc.2.2.2.1 (Cc.2.2.2.2.1 _ hlink) (Cc.2.2.2.2.1 _ hinst) (Cc.2.2.2.2.1 _ hsel) (Cc.2.2.2.2.1 _ hcode) ⟨hy.1, hy.2.1⟩ hB (b := ad b) (by rw [hT]; exact r1) r2 r3 (g := F0 m pc lsA ((As.reverse ++ .ref b :: rest).map (cnc ad))) rfl (by rw [Cc.2.2.1]; exact P.2.2.2.1.2.1)
    (argsL := As.map (cnc ad)) (rest := rest.map (cnc ad)) (yok_len hy (by rw [List.length_map]; exact hlen)) (by show (As.reverse ++ .ref b :: rest).map (cnc ad) = _; rw [List.map_append, List.map_reverse, List.map_cons]; rfl) (by show 2 * 0 + _ ≤ 8; rw [cat_map]; omega) (by rw [Cc.2.1]; exact hd)
    (fun vm₁ hW₁ => pre_call (As := .ref b :: As) Cc P hT hdd hW₁)
  exact call_end P hT hls hrest hK X' hpost rfl st
theorem snd_invvN {y : MethodName} {C host : String} {T0 : u_T} {N ci : Nat} {ty0 : Nat → FieldType} {cc' : ByteArray} {nL' d' n index : Nat} {ret' : Option FieldType} {sp : Spc} (CI : ClI ci C T0 N ty0) (hO : Ok d' y cc' nL' ret' sp) (hdd : d' < d) (hnl : nL' ≤ 13) (hcode : Cond.code y cc' nL' ret' ∈ gtb) (hlink : Cond.methodLinkNest own index y host ∈ ntb) (hinst : Cond.instanceMethod y ∈ gtb) (hsel : Cond.selects C y y ∈ gtb) (hini : Cond.initialized y.cls ∈ gtb) (hy : yok y n) (hd : decode cc pc = .ok (.invokevirtual index, 3)) :
    Snd d own cc nL ret ini pc (s_invv ci n sp (pc + 3)) := by
  intro p l e s m args below meth c Q D cy bs g0 ad0 Cc hi ls st g K Qr hf hK hQ ad H locs k n2 lsA P
  obtain ⟨b, fs, As, rest, rfl, hb, hlen, hls, hrest, hsum, hsp⟩ := invv_spec hf
  intro T hT X
  have hB := back2 (p := p) (e := e) (below := below) (R := Lvl d) (s := s) (sargs := args) (len := 3) (hO l D cy bs ad (.ref b :: As) g _ hsp) (show d' + 1 ≤ d by omega) (show 8 + (nL' + 11) + (32 * d' + 8) ≤ 32 * d + 8 by omega) Cc.2.2.2.2.1 hcode (Cc.2.2.2.2.1 _ hini)
  obtain ⟨ws, hP, hD, hin, -⟩ := P.1.list
  obtain ⟨q0, hq0⟩ := hin b _ hb
  obtain ⟨cell, r1, r2, r3⟩ := va_recv Cc.2.2.2.2.2.2.1 hP CI.1 hq0
  obtain ⟨v, vm₁, B, hW₁, X', hpost, st⟩ := va_callVN X Cc.1 (C := C) (bytes := cc') (maxL := nL') (ret := ret') Cc.2.2.2.1 (va_Nw.use rfl (Cc.2.2.2.2.2.1 _ hlink)) (Cc.2.2.2.2.1 _ hinst) (Cc.2.2.2.2.1 _ hsel) (Cc.2.2.2.2.1 _ hcode) ⟨hy.1, hy.2.1⟩ hB (b := ad b) (by rw [hT]; exact r1) r2 r3 (g := F0 m pc lsA ((As.reverse ++ .ref b :: rest).map (cnc ad))) rfl (by rw [Cc.2.2.1]; exact P.2.2.2.1.2.1)
    (argsL := As.map (cnc ad)) (rest := rest.map (cnc ad)) (yok_len hy (by rw [List.length_map]; exact hlen)) (by show (As.reverse ++ .ref b :: rest).map (cnc ad) = _; rw [List.map_append, List.map_reverse, List.map_cons]; rfl) (by show 2 * 0 + _ ≤ 8; rw [cat_map]; omega) (by rw [Cc.2.1]; exact hd)
    (fun vm₁ hW₁ => pre_call (As := .ref b :: As) Cc P hT hdd hW₁)
  exact call_end P hT hls hrest hK X' hpost rfl st
/-- a constructor's call -/
theorem snd_invi {y : MethodName} {C : String} {T0 : u_T} {N ci : Nat} {ty0 : Nat → FieldType} {cc' : ByteArray} {nL' d' n index : Nat} {sp : Spc} (CI : ClI ci C T0 N ty0) (hO : Ok d' y cc' nL' none sp) (hdd : d' < d) (hnl : nL' ≤ 13) (hcode : Cond.code y cc' nL' none ∈ gtb) (hlink : Cond.methodLink own index y ∈ gtb) (hinst : Cond.instanceMethod y ∈ gtb) (hnm : y.name = "<init>") (hini : Cond.initialized y.cls ∈ gtb) (hy : yok y n) (hd : decode cc pc = .ok (.invokespecial index, 3)) :
    Snd d own cc nL ret ini pc (s_invv ci n sp (pc + 3)) := by
  intro p l e s m args below meth c Q D cy bs g0 ad0 Cc hi ls st g K Qr hf hK hQ ad H locs k n2 lsA P
  obtain ⟨b, fs, As, rest, rfl, hb, hlen, hls, hrest, hsum, hsp⟩ := invv_spec hf
  intro T hT X
  have hB := back2 (p := p) (e := e) (below := below) (R := Lvl d) (s := s) (sargs := args) (len := 3) (hO l D cy bs ad (.ref b :: As) g _ hsp) (show d' + 1 ≤ d by omega) (show 8 + (nL' + 11) + (32 * d' + 8) ≤ 32 * d + 8 by omega) Cc.2.2.2.2.1 hcode (Cc.2.2.2.2.1 _ hini)
  obtain ⟨v, vm₁, B, hW₁, X', hpost, st⟩ := callI X Cc.1 (bytes := cc') (maxL := nL') Cc.2.2.2.1 hnm (Cc.2.2.2.2.1 _ hlink) (Cc.2.2.2.2.1 _ hinst) (Cc.2.2.2.2.1 _ hcode) ⟨hy.1, hy.2.1⟩ hB (g := F0 m pc lsA ((As.reverse ++ .ref b :: rest).map (cnc ad))) rfl (by rw [Cc.2.2.1]; exact P.2.2.2.1.2.1) (a := ad b)
    (argsL := As.map (cnc ad)) (rest := rest.map (cnc ad)) (yok_len hy (by rw [List.length_map]; exact hlen)) (by show (As.reverse ++ .ref b :: rest).map (cnc ad) = _; rw [List.map_append, List.map_reverse, List.map_cons]; rfl) (by show 2 * 0 + _ ≤ 8; rw [cat_map]; omega) (by rw [Cc.2.1]; exact hd)
    (fun vm₁ hW₁ => pre_call (As := .ref b :: As) Cc P hT hdd hW₁)
  exact call_end P hT hls hrest hK X' hpost rfl st
theorem snd_inviN {y : MethodName} {C host : String} {T0 : u_T} {N ci : Nat} {ty0 : Nat → FieldType} {cc' : ByteArray} {nL' d' n index : Nat} {sp : Spc} (CI : ClI ci C T0 N ty0) (hO : Ok d' y cc' nL' none sp) (hdd : d' < d) (hnl : nL' ≤ 13) (hcode : Cond.code y cc' nL' none ∈ gtb) (hlink : Cond.methodLinkNest own index y host ∈ ntb) (hinst : Cond.instanceMethod y ∈ gtb) (hnm : y.name = "<init>") (hini : Cond.initialized y.cls ∈ gtb) (hy : yok y n) (hd : decode cc pc = .ok (.invokespecial index, 3)) :
    Snd d own cc nL ret ini pc (s_invv ci n sp (pc + 3)) := by
  intro p l e s m args below meth c Q D cy bs g0 ad0 Cc hi ls st g K Qr hf hK hQ ad H locs k n2 lsA P
  obtain ⟨b, fs, As, rest, rfl, hb, hlen, hls, hrest, hsum, hsp⟩ := invv_spec hf
  intro T hT X
  have hB := back2 (p := p) (e := e) (below := below) (R := Lvl d) (s := s) (sargs := args) (len := 3) (hO l D cy bs ad (.ref b :: As) g _ hsp) (show d' + 1 ≤ d by omega) (show 8 + (nL' + 11) + (32 * d' + 8) ≤ 32 * d + 8 by omega) Cc.2.2.2.2.1 hcode (Cc.2.2.2.2.1 _ hini)
  obtain ⟨v, vm₁, B, hW₁, X', hpost, st⟩ := va_callIN X Cc.1 (bytes := cc') (maxL := nL') Cc.2.2.2.1 hnm (va_Nw.use rfl (Cc.2.2.2.2.2.1 _ hlink)) (Cc.2.2.2.2.1 _ hinst) (Cc.2.2.2.2.1 _ hcode) ⟨hy.1, hy.2.1⟩ hB (g := F0 m pc lsA ((As.reverse ++ .ref b :: rest).map (cnc ad))) rfl (by rw [Cc.2.2.1]; exact P.2.2.2.1.2.1) (a := ad b)
    (argsL := As.map (cnc ad)) (rest := rest.map (cnc ad)) (yok_len hy (by rw [List.length_map]; exact hlen)) (by show (As.reverse ++ .ref b :: rest).map (cnc ad) = _; rw [List.map_append, List.map_reverse, List.map_cons]; rfl) (by show 2 * 0 + _ ≤ 8; rw [cat_map]; omega) (by rw [Cc.2.1]; exact hd)
    (fun vm₁ hW₁ => pre_call (As := .ref b :: As) Cc P hT hdd hW₁)
  exact call_end P hT hls hrest hK X' hpost rfl st
end Steps4
end
section
/-! new cells -/
def nrf (nm : Nat) (s : Shp) : Bool := match s with
  | .inl (_, fs) => fs.all (fun v => match v with
    | .ref j => !(j == nm)
    | _ => true)
  | .inr _ => true
def nov (nm : Nat) (v : Value) : Bool := match v with
  | .ref j => !(j == nm)
  | _ => true
theorem nov_cnc {nm q : Nat} {ad : Nat → Nat} {v : Value} (h : nov nm v = true) : cnc (up1 ad nm q) v = cnc ad v := by
  cases v with
  | ref j =>
    have hj : j ≠ nm := by simpa [nov] using h
    show Value.ref (up1 ad nm q j) = Value.ref (ad j)
    rw [up1_n _ _ hj]
  | _ => rfl
theorem nov_fvl {nm q : Nat} {ad : Nat → Nat} {v : Value} {x : Int32} (h : nov nm v = true) : fvl (up1 ad nm q) x v = fvl ad x v := by
  cases v with
  | ref j =>
    have hj : j ≠ nm := by simpa [nov] using h
    show Value.ref (up1 ad nm q j) = Value.ref (ad j)
    rw [up1_n _ _ hj]
  | _ => rfl
theorem nov_map {nm q : Nat} {ad : Nat → Nat} {st : List Value} (h : st.all (nov nm) = true) : st.map (cnc (up1 ad nm q)) = st.map (cnc ad) :=
  List.map_congr_left fun v h1 => nov_cnc (List.all_eq_true.mp h v h1)
theorem nrf_all {nm ci : Nat} {fs : List Value} (h : nrf nm (.inl (ci, fs)) = true) : fs.all (nov nm) = true := h
theorem nrf_cel {nm q k : Nat} {cy : Nat → ClassId} {ad : Nat → Nat} {g g' : Sto} {s : Shp} (h : nrf nm s = true) (hg : g'.2.1 k = g.2.1 k) (ha : g'.2.2.1 k = g.2.2.1 k) (hl : g'.2.2.2 k = g.2.2.2 k) : cel cy (up1 ad nm q) g' k s = cel cy ad g k s := by
  unfold cel
  rw [hg, ha, hl]
  split
  · rename_i ci fs
    congr 2
    apply List.ext_getElem?
    intro i
    rw [List.getElem?_mapIdx, List.getElem?_mapIdx]
    cases hi : fs[i]? with
    | none => rfl
    | some v =>
      show some (fvl (up1 ad nm q) (g.2.1 k i) v) = some (fvl ad (g.2.1 k i) v)
      rw [nov_fvl (List.all_eq_true.mp (nrf_all h) v (List.mem_of_getElem? hi))]
  · rfl
  · rfl
  · rfl
theorem LR.up {lsA : Array Slot} {nL nm q : Nat} {ad : Nat → Nat} {ls : List Value} (h : LR lsA nL ad ls) (hn : ls.all (nov nm) = true) : LR lsA nL (up1 ad nm q) ls :=
  ⟨h.1, h.2.1, h.2.2.1, fun i v hi hv => by rw [nov_cnc (List.all_eq_true.mp hn v (List.mem_of_getElem? hi))]; exact h.2.2.2 i v hi hv⟩
/-- the point behind a making -/
theorem Pnt.mk {nL : Nat} {D : va_G} {cy : Nat → ClassId} {bs : Nat} {s : State} {g0 : Sto} {ad0 ad : Nat → Nat} {g g' : Sto} {H H1 : Heap} {locs : List Loc} {k n nm q w : Nat} {lsA : Array Slot} {ls : List Value} {sp : Shp} {ws : va_W}
    (P : Pnt nL D cy bs s g0 ad0 ad g H locs k n lsA ls) (hnm : nm < 49) (hno : g.1 nm = none) (hrf : ∀ j s, g.1 j = some s → nrf nm s = true) (hsh : g'.1 = up1 g.1 nm (some sp)) (hfit : Fit g'.1)
    (hin : ∀ (k : Nat) (s : Shp), g.1 k = some s → ∃ q0 : Nat, ws[q0]? = some (ad k, cel cy ad g k s)) (ho : ∀ j, j ≠ nm → g'.2.1 j = g.2.1 j ∧ g'.2.2.1 j = g.2.2.1 j ∧ g'.2.2.2 j = g.2.2.2 j)
    (hP : va_P D vwCl (ws ++ [(q, cel cy (up1 ad nm q) g' nm sp)]) H1) (hD : va_D (fun q => bs ≤ q) (ws ++ [(q, cel cy (up1 ad nm q) g' nm sp)])) (hS : va_S (fun q => bs ≤ q) s.heap H1 locs) (hls : ls.all (nov nm) = true) (hw : w ≤ swt nm (some sp)) :
    Pnt nL D cy bs s g0 ad0 (up1 ad nm q) g' H1 locs (k + 1) (n + w) lsA ls ∧ k + 1 ≤ 60000 ∧ n + w ≤ 730225 := by
  have hc := cU_up (sh := g.1) (sh' := g'.1) hnm (fun j hj => by rw [hsh, up1_n _ _ hj])
  have hs := sU_up (sh := g.1) (sh' := g'.1) hnm (fun j hj => by rw [hsh, up1_n _ _ hj])
  have hn1 : g'.1 nm = some sp := by rw [hsh, up1_s]
  rw [hno, hn1] at hc hs
  have hc1 : 1 ≤ cwt nm (some sp) := by
    unfold cwt
    split
    · rename_i h; cases h
    · exact Nat.le_refl 1
    · split <;> omega
  have e0 : cwt nm none = 0 := rfl
  have e1 : swt nm none = 0 := rfl
  have hcnt := P.2.2.1
  have hlast : (ws ++ [(q, cel cy (up1 ad nm q) g' nm sp)])[ws.length]? = some (q, cel cy (up1 ad nm q) g' nm sp) := by simp
  have hne : ∀ j, g.1 j ≠ none → j ≠ nm := fun j hj e => by subst e; exact hj hno
  have hq : ∀ j, g.1 j ≠ none → ad j ≠ q := by
    intro j hj e
    obtain ⟨sj, hsj⟩ := Option.ne_none_iff_exists'.mp hj
    obtain ⟨i, hi⟩ := hin j sj hsj
    have hil := (List.getElem?_eq_some_iff.mp hi).1
    have := hD.1 i ws.length _ _ (by rw [List.getElem?_append_left hil]; exact hi) hlast e
    omega
  have hg : ∀ j, g'.1 j ≠ none → j ≠ nm → g.1 j ≠ none := fun j hj hn => by rw [hsh, up1_n _ _ hn] at hj; exact hj
  have hfit' : cU g'.1 ≤ 60000 ∧ sU g'.1 ≤ 730225 := hfit
  refine ⟨⟨⟨fun j sj hj => ?_, fun i j hi hj hij => ?_, fun j hj => ?_, fun j hj => ?_, hfit⟩, hS, ⟨by omega, by omega⟩, P.2.2.2.1.up hls, fun j hj hgr => ?_, fun j hj hgr => ?_⟩, by omega, by omega⟩
  · by_cases h : j = nm
    · subst h
      rw [hn1] at hj
      cases hj
      rw [up1_s]
      exact hP _ _ hlast
    · rw [hsh, up1_n _ _ h] at hj
      obtain ⟨i, hi⟩ := hin j sj hj
      have hil := (List.getElem?_eq_some_iff.mp hi).1
      rw [up1_n _ _ h, nrf_cel (hrf j sj hj) (ho j h).1 (ho j h).2.1 (ho j h).2.2]
      exact hP i _ (by rw [List.getElem?_append_left hil]; exact hi)
  · by_cases h1 : i = nm
    · by_cases h2 : j = nm
      · rw [h1, h2]
      · rw [h1, up1_s, up1_n _ _ h2] at hij
        exact absurd hij.symm (hq j (hg j hj h2))
    · by_cases h2 : j = nm
      · rw [h2, up1_s, up1_n _ _ h1] at hij
        exact absurd hij (hq i (hg i hi h1))
      · rw [up1_n _ _ h1, up1_n _ _ h2] at hij
        exact P.1.2.1 i j (hg i hi h1) (hg j hj h2) hij
  · by_cases h : j = nm
    · rw [h, up1_s]; exact hD.2 _ _ hlast
    · rw [up1_n _ _ h]; exact P.1.2.2.1 j (hg j hj h)
  · rw [hsh, up1_n _ _ (by omega)]; exact P.1.2.2.2.1 j hj
  · have h : j ≠ nm := by
      intro e
      subst e
      rcases hj with hj | hj
      · omega
      · exact P.2.2.2.2.2 j hj hgr hno
    rw [up1_n _ _ h]
    exact P.2.2.2.2.1 j hj hgr
  · have h1 := P.2.2.2.2.2 j hj hgr
    rw [hsh, up1_n _ _ (hne j h1)]
    exact h1
section Steps5
variable {d : Nat} {own : String} {cc : ByteArray} {nL : Nat} {ret : Option FieldType} {ini : Inq} {pc : Nat}
def g_newa (g : Sto) (kd nm n : Nat) : Sto := (up1 g.1 nm (some (.inr (kd, n))), g.2.1, up1 g.2.2.1 nm (fun _ => 0), up1 g.2.2.2 nm (fun _ => 0))
def s_newa (kd nm nx : Nat) : Stq := fun ls st g K _ => match st with
  | .int x :: st => (¬ x < 0 ∧ x.toNatClampNeg ≤ 65536 ∧ g.1 nm = none ∧ (∀ j s, g.1 j = some s → nrf nm s = true) ∧ Fit (g_newa g kd nm x.toNatClampNeg).1) ∧ cond (decide (nm < 49) && (ls.all (nov nm) && st.all (nov nm))) (K nx ls (.ref nm :: st) (g_newa g kd nm x.toNatClampNeg)) False
  | _ => False
theorem swt_arr {nm kd n : Nat} : n ≤ swt nm (some (.inr (kd, n))) := by
  show n ≤ if nm = 48 then n else 2 * n
  split <;> omega
theorem snd_newai {nm : Nat} (hw : Cond.arrayClass .int ∈ gtb) (hd : decode cc pc = .ok (.newarray .int, 2)) : Snd d own cc nL ret ini pc (s_newa 0 nm (pc + 2)) := by
  intro p l e s m args below meth c Q D cy bs g0 ad0 Cc hi ls st g K Qr hf hK hQ ad H locs k n lsA P
  simp only [s_newa] at hf
  split at hf
  · rename_i x st'
    obtain ⟨⟨h1, h2, h3, h4, h5⟩, hf⟩ := hf
    cases hc : decide (nm < 49) && (ls.all (nov nm) && st'.all (nov nm)) with
    | false => rw [hc] at hf; exact hf.elim
    | true =>
      rw [hc] at hf
      simp only [Bool.and_eq_true, decide_eq_true_eq] at hc
      obtain ⟨c1, c2, c3⟩ := hc
      obtain ⟨ws, hP, hD, hin, -⟩ := P.1.list
      have hA := cU_up (sh := g.1) (sh' := (g_newa g 0 nm x.toNatClampNeg).1) c1 (fun j hj => up1_n _ _ hj)
      have hB := sU_up (sh := g.1) (sh' := (g_newa g 0 nm x.toNatClampNeg).1) c1 (fun j hj => up1_n _ _ hj)
      have e1 : (g_newa g 0 nm x.toNatClampNeg).1 nm = some (.inr (0, x.toNatClampNeg)) := up1_s _ _ _
      rw [h3, e1] at hA hB
      have e2 : cwt nm none = 0 := rfl
      have e3 : swt nm none = 0 := rfl
      have e4 : x.toNatClampNeg ≤ swt nm (some (.inr (0, x.toNatClampNeg))) := swt_arr
      have e5 : 1 ≤ cwt nm (some (.inr (0, x.toNatClampNeg))) := by show 1 ≤ if nm = 48 then 1 else _; split <;> omega
      have e6 : cU (g_newa g 0 nm x.toNatClampNeg).1 ≤ 60000 ∧ sU (g_newa g 0 nm x.toNatClampNeg).1 ≤ 730225 := h5
      have e7 := P.2.2.1
      refine va_newa (atype := .int) (ty := .int) (a0 := (x.toNatClampNeg, .inl (fun _ => 0))) Cc.1 Cc.2.1 (Cc.2.2.2.2.1 _ hw) rfl Cc.2.2.2.2.2.2.1 hP hD P.2.1 (fun q hq => Nat.le_trans Cc.2.2.2.2.2.2.2 hq) (fun _ => rfl) h1 rfl (by show _ * 4 ≤ _; omega) (by show k + 1 ≤ (d + 1) * 60000; omega) (by show n + _ ≤ (d + 1) * 730225; omega) hd (fun q cA H1 hK1 hP1 hD1 hS1 => ?_)
      have hcA : cA = cy 0 := by
        have r1 := (hK1.2 3 (cA, .int) rfl).2
        have r2 := (hK1.2 0 (cy 0, .int) rfl).2
        exact Option.some.inj ((show s.vm.findClass _ = some cA from r1).symm.trans (show s.vm.findClass _ = some (cy 0) from r2))
      subst hcA
      have ec : cel cy (up1 ad nm q) (g_newa g 0 nm x.toNatClampNeg) nm (.inr (0, x.toNatClampNeg)) = .inl (cy 0, x.toNatClampNeg, .inl (fun _ => 0)) := by
        unfold cel g_newa
        simp only [up1_s]
      rw [← ec] at hP1 hD1
      have hz := (P.mk (g' := g_newa g 0 nm x.toNatClampNeg) (w := x.toNatClampNeg) c1 h3 h4 rfl h5 hin (fun j hj => ⟨rfl, up1_n _ _ hj, up1_n _ _ hj⟩) hP1 hD1 hS1 c2 swt_arr).1
      have hf2 := hK _ _ _ _ hf (up1 ad nm q) H1 locs (k + 1) (n + x.toNatClampNeg) lsA hz
      rw [List.map_cons, nov_map c3] at hf2
      have e8 : cnc (up1 ad nm q) (.ref nm) = .ref q := by show Value.ref _ = _; rw [up1_s]
      rw [e8] at hf2
      exact hf2
  · exact hf.elim
theorem snd_newal {nm : Nat} (hw : Cond.arrayClass .long ∈ gtb) (hd : decode cc pc = .ok (.newarray .long, 2)) : Snd d own cc nL ret ini pc (s_newa 1 nm (pc + 2)) := by
  intro p l e s m args below meth c Q D cy bs g0 ad0 Cc hi ls st g K Qr hf hK hQ ad H locs k n lsA P
  simp only [s_newa] at hf
  split at hf
  · rename_i x st'
    obtain ⟨⟨h1, h2, h3, h4, h5⟩, hf⟩ := hf
    cases hc : decide (nm < 49) && (ls.all (nov nm) && st'.all (nov nm)) with
    | false => rw [hc] at hf; exact hf.elim
    | true =>
      rw [hc] at hf
      simp only [Bool.and_eq_true, decide_eq_true_eq] at hc
      obtain ⟨c1, c2, c3⟩ := hc
      obtain ⟨ws, hP, hD, hin, -⟩ := P.1.list
      have hA := cU_up (sh := g.1) (sh' := (g_newa g 1 nm x.toNatClampNeg).1) c1 (fun j hj => up1_n _ _ hj)
      have hB := sU_up (sh := g.1) (sh' := (g_newa g 1 nm x.toNatClampNeg).1) c1 (fun j hj => up1_n _ _ hj)
      have e1 : (g_newa g 1 nm x.toNatClampNeg).1 nm = some (.inr (1, x.toNatClampNeg)) := up1_s _ _ _
      rw [h3, e1] at hA hB
      have e2 : cwt nm none = 0 := rfl
      have e3 : swt nm none = 0 := rfl
      have e4 : x.toNatClampNeg ≤ swt nm (some (.inr (1, x.toNatClampNeg))) := swt_arr
      have e5 : 1 ≤ cwt nm (some (.inr (1, x.toNatClampNeg))) := by show 1 ≤ if nm = 48 then 1 else _; split <;> omega
      have e6 : cU (g_newa g 1 nm x.toNatClampNeg).1 ≤ 60000 ∧ sU (g_newa g 1 nm x.toNatClampNeg).1 ≤ 730225 := h5
      have e7 := P.2.2.1
      refine va_newa (atype := .long) (ty := .long) (a0 := (x.toNatClampNeg, .inr (.inl (fun _ => 0)))) Cc.1 Cc.2.1 (Cc.2.2.2.2.1 _ hw) rfl Cc.2.2.2.2.2.2.1 hP hD P.2.1 (fun q hq => Nat.le_trans Cc.2.2.2.2.2.2.2 hq) (fun _ => rfl) h1 rfl (by show _ * 8 ≤ _; omega) (by show k + 1 ≤ (d + 1) * 60000; omega) (by show n + _ ≤ (d + 1) * 730225; omega) hd (fun q cA H1 hK1 hP1 hD1 hS1 => ?_)
      have hcA : cA = cy 1 := by
        have r1 := (hK1.2 3 (cA, .long) rfl).2
        have r2 := (hK1.2 1 (cy 1, .long) rfl).2
        exact Option.some.inj ((show s.vm.findClass _ = some cA from r1).symm.trans (show s.vm.findClass _ = some (cy 1) from r2))
      subst hcA
      have ec : cel cy (up1 ad nm q) (g_newa g 1 nm x.toNatClampNeg) nm (.inr (1, x.toNatClampNeg)) = .inl (cy 1, x.toNatClampNeg, .inr (.inl (fun _ => 0))) := by
        unfold cel g_newa
        simp only [up1_s]
      rw [← ec] at hP1 hD1
      have hz := (P.mk (g' := g_newa g 1 nm x.toNatClampNeg) (w := x.toNatClampNeg) c1 h3 h4 rfl h5 hin (fun j hj => ⟨rfl, up1_n _ _ hj, up1_n _ _ hj⟩) hP1 hD1 hS1 c2 swt_arr).1
      have hf2 := hK _ _ _ _ hf (up1 ad nm q) H1 locs (k + 1) (n + x.toNatClampNeg) lsA hz
      rw [List.map_cons, nov_map c3] at hf2
      have e8 : cnc (up1 ad nm q) (.ref nm) = .ref q := by show Value.ref _ = _; rw [up1_s]
      rw [e8] at hf2
      exact hf2
  · exact hf.elim
theorem snd_newaz {nm : Nat} (hw : Cond.arrayClass .boolean ∈ gtb) (hd : decode cc pc = .ok (.newarray .boolean, 2)) : Snd d own cc nL ret ini pc (s_newa 2 nm (pc + 2)) := by
  intro p l e s m args below meth c Q D cy bs g0 ad0 Cc hi ls st g K Qr hf hK hQ ad H locs k n lsA P
  simp only [s_newa] at hf
  split at hf
  · rename_i x st'
    obtain ⟨⟨h1, h2, h3, h4, h5⟩, hf⟩ := hf
    cases hc : decide (nm < 49) && (ls.all (nov nm) && st'.all (nov nm)) with
    | false => rw [hc] at hf; exact hf.elim
    | true =>
      rw [hc] at hf
      simp only [Bool.and_eq_true, decide_eq_true_eq] at hc
      obtain ⟨c1, c2, c3⟩ := hc
      obtain ⟨ws, hP, hD, hin, -⟩ := P.1.list
      have hA := cU_up (sh := g.1) (sh' := (g_newa g 2 nm x.toNatClampNeg).1) c1 (fun j hj => up1_n _ _ hj)
      have hB := sU_up (sh := g.1) (sh' := (g_newa g 2 nm x.toNatClampNeg).1) c1 (fun j hj => up1_n _ _ hj)
      have e1 : (g_newa g 2 nm x.toNatClampNeg).1 nm = some (.inr (2, x.toNatClampNeg)) := up1_s _ _ _
      rw [h3, e1] at hA hB
      have e2 : cwt nm none = 0 := rfl
      have e3 : swt nm none = 0 := rfl
      have e4 : x.toNatClampNeg ≤ swt nm (some (.inr (2, x.toNatClampNeg))) := swt_arr
      have e5 : 1 ≤ cwt nm (some (.inr (2, x.toNatClampNeg))) := by show 1 ≤ if nm = 48 then 1 else _; split <;> omega
      have e6 : cU (g_newa g 2 nm x.toNatClampNeg).1 ≤ 60000 ∧ sU (g_newa g 2 nm x.toNatClampNeg).1 ≤ 730225 := h5
      have e7 := P.2.2.1
      refine va_newa (atype := .boolean) (ty := .boolean) (a0 := (x.toNatClampNeg, .inl (fun _ => 0))) Cc.1 Cc.2.1 (Cc.2.2.2.2.1 _ hw) rfl Cc.2.2.2.2.2.2.1 hP hD P.2.1 (fun q hq => Nat.le_trans Cc.2.2.2.2.2.2.2 hq) (fun _ => rfl) h1 rfl (by show _ * 1 ≤ _; omega) (by show k + 1 ≤ (d + 1) * 60000; omega) (by show n + _ ≤ (d + 1) * 730225; omega) hd (fun q cA H1 hK1 hP1 hD1 hS1 => ?_)
      have hcA : cA = cy 2 := by
        have r1 := (hK1.2 3 (cA, .boolean) rfl).2
        have r2 := (hK1.2 2 (cy 2, .boolean) rfl).2
        exact Option.some.inj ((show s.vm.findClass _ = some cA from r1).symm.trans (show s.vm.findClass _ = some (cy 2) from r2))
      subst hcA
      have ec : cel cy (up1 ad nm q) (g_newa g 2 nm x.toNatClampNeg) nm (.inr (2, x.toNatClampNeg)) = .inl (cy 2, x.toNatClampNeg, .inl (fun _ => 0)) := by
        unfold cel g_newa
        simp only [up1_s]
      rw [← ec] at hP1 hD1
      have hz := (P.mk (g' := g_newa g 2 nm x.toNatClampNeg) (w := x.toNatClampNeg) c1 h3 h4 rfl h5 hin (fun j hj => ⟨rfl, up1_n _ _ hj, up1_n _ _ hj⟩) hP1 hD1 hS1 c2 swt_arr).1
      have hf2 := hK _ _ _ _ hf (up1 ad nm q) H1 locs (k + 1) (n + x.toNatClampNeg) lsA hz
      rw [List.map_cons, nov_map c3] at hf2
      have e8 : cnc (up1 ad nm q) (.ref nm) = .ref q := by show Value.ref _ = _; rw [up1_s]
      rw [e8] at hf2
      exact hf2
  · exact hf.elim
theorem dfl_map {ad : Nat → Nat} {fs : List Value} (hall : fs.all (fun v => v == .int 0 || v == .null) = true) : fs.mapIdx (fun _ v => fvl ad 0 v) = fs := by
  apply List.ext_getElem?
  intro i
  rw [List.getElem?_mapIdx]
  cases hi : fs[i]? with
  | none => rfl
  | some v =>
    have h6 := List.all_eq_true.mp hall v (List.mem_of_getElem? hi)
    simp only [Bool.or_eq_true, beq_iff_eq] at h6
    rcases h6 with h6 | h6 <;> subst h6 <;> rfl
def g_new (g : Sto) (ci nm : Nat) (fs : List Value) : Sto := (up1 g.1 nm (some (.inl (ci, fs))), up1 g.2.1 nm (fun _ => 0), g.2.2)
def s_new (ci : Nat) (fs : List Value) (nm nx : Nat) : Stq := fun ls st g K _ => (g.1 nm = none ∧ (∀ j s, g.1 j = some s → nrf nm s = true) ∧ Fit (g_new g ci nm fs).1) ∧ cond (decide (nm < 49) && (ls.all (nov nm) && st.all (nov nm))) (K nx ls (.ref nm :: st) (g_new g ci nm fs)) False
theorem snd_new {ci N nm index : Nat} {C : String} {T : u_T} {ty : Nat → FieldType} {fs : List Value} (CI : ClI ci C T N ty) (hfs : ∀ j, j < N → defaultValue (ty j) = vp_V fs j) (hall : fs.all (fun v => v == .int 0 || v == .null) = true) (hlen : fs.length = N) (hw : Cond.classLink own index C ∈ gtb) (hw2 : Cond.instantiable C N ∈ gtb) (hw3 : Cond.initialized C ∈ gtb) (hd : decode cc pc = .ok (.new index, 3)) : Snd d own cc nL ret ini pc (s_new ci fs nm (pc + 3)) := by
  intro p l e s m args below meth c Q D cy bs g0 ad0 Cc hi ls st g K Qr hf hK hQ ad H locs k n lsA P
  obtain ⟨⟨h3, h4, h5⟩, hf⟩ := hf
  cases hc : decide (nm < 49) && (ls.all (nov nm) && st.all (nov nm)) with
  | false => rw [hc] at hf; exact hf.elim
  | true =>
    rw [hc] at hf
    simp only [Bool.and_eq_true, decide_eq_true_eq] at hc
    obtain ⟨c1, c2, c3⟩ := hc
    obtain ⟨ws, hP, hD, hin, -⟩ := P.1.list
    have hA := cU_up (sh := g.1) (sh' := (g_new g ci nm fs).1) c1 (fun j hj => up1_n _ _ hj)
    have hB := sU_up (sh := g.1) (sh' := (g_new g ci nm fs).1) c1 (fun j hj => up1_n _ _ hj)
    have e1 : (g_new g ci nm fs).1 nm = some (.inl (ci, fs)) := up1_s _ _ _
    rw [h3, e1] at hA hB
    have e2 : cwt nm none = 0 := rfl
    have e3 : swt nm none = 0 := rfl
    have e4 : N ≤ swt nm (some (.inl (ci, fs))) := by show N ≤ fs.length; omega
    have e5 : cwt nm (some (.inl (ci, fs))) = 1 := rfl
    have e6 : cU (g_new g ci nm fs).1 ≤ 60000 ∧ sU (g_new g ci nm fs).1 ≤ 730225 := h5
    have e7 := P.2.2.1
    refine va_new (ci := ci) (fs := fs) Cc.1 Cc.2.1 Cc.2.2.2.2.1 CI.2.1 ty CI.2.2.1 Cc.2.2.2.1 (Cc.2.2.2.2.1 _ hw) (Cc.2.2.2.2.1 _ hw2) (Cc.2.2.2.2.1 _ hw3) Cc.2.2.2.2.2.2.1 hP hD P.2.1 (fun q hq => Nat.le_trans Cc.2.2.2.2.2.2.2 hq) CI.1 hfs (by show k + 1 ≤ (d + 1) * 60000; omega) (by show n + _ ≤ (d + 1) * 730225; omega) hd (fun q H1 hP1 hD1 hS1 => ?_)
    have ec : cel cy (up1 ad nm q) (g_new g ci nm fs) nm (.inl (ci, fs)) = .inr (ci, fs) := by
      show Sum.inr (ci, fs.mapIdx (fun f v => fvl (up1 ad nm q) ((up1 g.2.1 nm (fun _ => 0)) nm f) v)) = _
      rw [up1_s, dfl_map hall]
    rw [← ec] at hP1 hD1
    have hz := (P.mk (g' := g_new g ci nm fs) (w := N) c1 h3 h4 rfl h5 hin (fun j hj => ⟨up1_n _ _ hj, rfl, rfl⟩) hP1 hD1 hS1 c2 e4).1
    have hf2 := hK _ _ _ _ hf (up1 ad nm q) H1 locs (k + 1) (n + N) lsA hz
    rw [List.map_cons, nov_map c3] at hf2
    have e8 : cnc (up1 ad nm q) (.ref nm) = .ref q := by show Value.ref _ = _; rw [up1_s]
    rw [e8] at hf2
    exact hf2
end Steps5
end
section
/-! references put into fields -/
theorem fv_setr {ad ad' : Nat → Nat} {F : Nat → Int32} {fs : List Value} {f j q : Nat} (hl : f < fs.length) (hj : ad' j = q) (ho : ∀ (i : Nat) (v : Value), i ≠ f → fs[i]? = some v → ∀ x, fvl ad' x v = fvl ad x v) : (fs.mapIdx (fun i v => fvl ad (F i) v)).set f (.ref q) = (fs.set f (.ref j)).mapIdx (fun i v => fvl ad' (F i) v) := by
  apply List.ext_getElem?
  intro i
  rw [List.getElem?_set, List.getElem?_mapIdx, List.getElem?_mapIdx, List.getElem?_set, List.length_mapIdx]
  by_cases hi : f = i
  · subst hi
    rw [if_pos rfl, if_pos hl, if_pos rfl, if_pos hl]
    show some (Value.ref q) = some (Value.ref (ad' j))
    rw [hj]
  · rw [if_neg hi, if_neg hi]
    cases hv : fs[i]? with
    | none => rfl
    | some v =>
      show some (fvl ad (F i) v) = some (fvl ad' (F i) v)
      rw [ho i v (fun e => hi e.symm) hv]
theorem cel_arr {cy : Nat → ClassId} {ad ad' : Nat → Nat} {g g' : Sto} {k k' kd n : Nat} (ha : g'.2.2.1 k' = g.2.2.1 k) (hl : g'.2.2.2 k' = g.2.2.2 k) : cel cy ad' g' k' (.inr (kd, n)) = cel cy ad g k (.inr (kd, n)) := by
  unfold cel
  rw [ha, hl]
  rcases kd with _ | _ | z <;> rfl
section Steps6
variable {d : Nat} {own : String} {cc : ByteArray} {nL : Nat} {ret : Option FieldType} {ini : Inq} {pc : Nat}
def g_putr (g : Sto) (k ci f : Nat) (fs : List Value) (j : Nat) : Sto := (up1 g.1 k (some (.inl (ci, fs.set f (.ref j)))), g.2)
def s_putr (ci f nx : Nat) : Stq := fun ls st g K _ => match st with
  | .ref j :: .ref k :: st => match g.1 k with
    | some (.inl (ci', fs)) => if ci' = ci ∧ f < fs.length then K nx ls st (g_putr g k ci f fs j) else False
    | _ => False
  | _ => False
theorem putr_spec {ci f nx : Nat} {ls st : List Value} {g : Sto} {K : Kon} {Q : Rsl} (h : s_putr ci f nx ls st g K Q) : ∃ (k j : Nat) (st' : List Value) (fs : List Value), st = .ref j :: .ref k :: st' ∧ g.1 k = some (.inl (ci, fs)) ∧ f < fs.length ∧ K nx ls st' (g_putr g k ci f fs j) := by
  simp only [s_putr] at h
  split at h
  · rename_i j k st'
    split at h
    · rename_i ci' fs hk
      split at h
      · rename_i hci
        obtain ⟨rfl, hl⟩ := hci
        exact ⟨k, j, st', fs, rfl, hk, hl, h⟩
      · exact h.elim
    · exact h.elim
  · exact h.elim
theorem putr_pnt {D : va_G} {cy : Nat → ClassId} {bs : Nat} {s : State} {g0 : Sto} {ad0 ad : Nat → Nat} {g : Sto} {H H1 : Heap} {locs locs1 : List Loc} {k n b f ci j : Nat} {lsA : Array Slot} {ls fs : List Value} {q0 : Nat} {ws : va_W} (P : Pnt nL D cy bs s g0 ad0 ad g H locs k n lsA ls) (hk : g.1 b = some (.inl (ci, fs))) (hl : f < fs.length)
    (hw : ∀ (q0 k : Nat) (e0 e : va_E) (H1 : Heap), g.1 k ≠ none → ws[q0]? = some (ad k, e0) → va_P D vwCl (ws.set q0 (ad k, e)) H1 → va_at D vwCl (ad k, e) H1 ∧ ∀ (j : Nat) (s : Shp), j ≠ k → g.1 j = some s → va_at D vwCl (ad j, cel cy ad g j s) H1)
    (hq0 : ws[q0]? = some (ad b, cel cy ad g b (.inl (ci, fs)))) (hP : va_P D vwCl (ws.set q0 (ad b, .inr (ci, (fs.mapIdx (fun i v => fvl ad (g.2.1 b i) v)).set f (.ref (ad j))))) H1) (hS : va_S (fun q => bs ≤ q) s.heap H1 locs1) : Pnt nL D cy bs s g0 ad0 ad (g_putr g b ci f fs j) H1 locs1 k n lsA ls := by
  obtain ⟨h1, h2⟩ := hw q0 b _ _ H1 (by rw [hk]; simp) hq0 hP
  have hb : b < 49 := by
    rcases Nat.lt_or_ge b 49 with q | q
    · exact q
    · rw [P.1.2.2.2.1 b q] at hk; cases hk
  have hc := cU_up (sh := g.1) (sh' := (g_putr g b ci f fs j).1) hb (fun j hj => up1_n _ _ hj)
  have hs := sU_up (sh := g.1) (sh' := (g_putr g b ci f fs j).1) hb (fun j hj => up1_n _ _ hj)
  have e1 : (g_putr g b ci f fs j).1 b = some (.inl (ci, fs.set f (.ref j))) := up1_s _ _ _
  rw [hk, e1] at hc hs
  have e2 : cwt b (some (.inl (ci, fs))) = cwt b (some (.inl (ci, fs.set f (.ref j)))) := rfl
  have e3 : swt b (some (.inl (ci, fs))) = swt b (some (.inl (ci, fs.set f (.ref j)))) := by show fs.length = (fs.set f (.ref j)).length; rw [List.length_set]
  have hcnt := P.2.2.1
  have hfit : cU g.1 ≤ 60000 ∧ sU g.1 ≤ 730225 := P.1.2.2.2.2
  refine ⟨?_, hS, ⟨by omega, by omega⟩, P.2.2.2.1, P.2.2.2.2.1, fun i hi hg => ?_⟩
  · refine P.1.put (k := b) (s' := .inl (ci, fs.set f (.ref j))) (by rw [hk]; simp) e1 (fun i hi => up1_n _ _ hi) (fun i s hi => rfl) ?_ h2 ⟨by omega, by omega⟩
    rw [fv_setr (ad' := ad) (j := j) hl rfl (fun _ _ _ _ _ => rfl)] at h1
    exact h1
  · by_cases h : i = b
    · subst h; rw [e1]; simp
    · show up1 g.1 b _ i ≠ none
      rw [up1_n _ _ h]; exact P.2.2.2.2.2 i hi hg
def isR (ty : FieldType) : Bool := match ty with
  | .object _ => true
  | .array _ => true
  | _ => false
theorem isR_fit {ty : FieldType} (h : isR ty = true) (a : Nat) : narrow ty (.ref a) = .ref a ∧ fits ty (.ref a) = true := by
  cases ty <;> first | exact ⟨rfl, rfl⟩ | cases h
theorem snd_putr {ci f N index : Nat} {C : String} {T : u_T} {ty : Nat → FieldType} {t : FieldType} (CI : ClI ci C T N ty) (hN : f < N) (hl : Cond.fieldLink own index (T f).1 (T f).2.1 (T f).2.2.1 ∈ gtb) (hfin : (T f).2.2.2 = false) (hty : parseFieldDescriptor (T f).2.2.1 = some t) (ht : isR t = true) (hd : decode cc pc = .ok (.putfield index, 3)) : Snd d own cc nL ret ini pc (s_putr ci f (pc + 3)) := by
  intro p l e s m args below meth c Q D cy bs g0 ad0 Cc hi ls st g K Qr hf hK hQ ad H locs k n lsA P
  obtain ⟨b, j, st', fs, rfl, hb, hfl, hk⟩ := putr_spec hf
  obtain ⟨ws, hP, hD, hin, hw⟩ := P.1.list
  obtain ⟨q0, hq0⟩ := hin b _ hb
  refine va_put Cc.1 Cc.2.1 Cc.2.2.2.2.1 CI.2.1 ty CI.2.2.1 CI.2.2.2 Cc.2.2.2.1 Cc.2.2.2.2.2.2.1 hP hD P.2.1 q0 hq0 CI.1 f hN (Cc.2.2.2.2.1 _ hl) (fun _ h => h) hfin (v := .ref (ad j)) hty (isR_fit ht _).1 (isR_fit ht _).2 (by rw [List.length_mapIdx]; exact hfl) hd (fun H1 locs1 hP1 hD1 hS1 => ?_)
  exact hK _ _ _ _ hk ad H1 locs1 k n lsA (putr_pnt P hb hfl hw hq0 hP1 hS1)
/-- of every method: its name -/
def inM (nm : String) : Inq := fun _ meth _ _ => meth.name = nm
theorem snd_putrF {ci f N index : Nat} {C : String} {T : u_T} {ty : Nat → FieldType} {t : FieldType} (CI : ClI ci C T N ty) (hN : f < N) (hl : Cond.fieldLink own index (T f).1 (T f).2.1 (T f).2.2.1 ∈ gtb) (hfin : (T f).2.2.2 = true) (hdecl : (T f).1 = own) (hty : parseFieldDescriptor (T f).2.2.1 = some t) (ht : isR t = true) (hd : decode cc pc = .ok (.putfield index, 3)) : Snd d own cc nL ret (inM "<init>") pc (s_putr ci f (pc + 3)) := by
  intro p l e s m args below meth c Q D cy bs g0 ad0 Cc hi ls st g K Qr hf hK hQ ad H locs k n lsA P
  obtain ⟨b, j, st', fs, rfl, hb, hfl, hk⟩ := putr_spec hf
  obtain ⟨ws, hP, hD, hin, hw⟩ := P.1.list
  obtain ⟨q0, hq0⟩ := hin b _ hb
  refine va_putF Cc.1 Cc.2.1 Cc.2.2.2.2.1 CI.2.1 ty CI.2.2.1 CI.2.2.2 Cc.2.2.2.1 Cc.2.2.2.2.2.2.1 hP hD P.2.1 q0 hq0 CI.1 f hN (Cc.2.2.2.2.1 _ hl) (fun _ h => h) hfin hi hdecl (v := .ref (ad j)) hty (isR_fit ht _).1 (isR_fit ht _).2 (by rw [List.length_mapIdx]; exact hfl) hd (fun H1 locs1 hP1 hD1 hS1 => ?_)
  exact hK _ _ _ _ hk ad H1 locs1 k n lsA (putr_pnt P hb hfl hw hq0 hP1 hS1)
/-- cell 48, just made, takes the place of cell t, to which the field alone pointed -/
def g_grow (g : Sto) (t : Nat) : Sto := (up1 (up1 g.1 t (g.1 48)) 48 none, g.2.1, up1 g.2.2.1 t (g.2.2.1 48), up1 g.2.2.2 t (g.2.2.2 48))
def s_grow (ci f t nx : Nat) : Stq := fun ls st g K _ => match st with
  | .ref j :: .ref k :: st => match g.1 k with
    | some (.inl (ci', fs)) => match g.1 t, g.1 48 with
      | some (.inr (kd, m)), some (.inr (kd', n)) => (j = 48 ∧ ci' = ci ∧ kd' = kd ∧ fs[f]? = some (.ref t) ∧ 1 ≤ m ∧ 2 * m ≤ n ∧ (∀ i s, i ≠ k → g.1 i = some s → nrf t s = true) ∧ nrf t (.inl (ci, fs.set f .null)) = true ∧ (∀ i s, g.1 i = some s → nrf 48 s = true) ∧ Fit (g_grow g t).1) ∧ cond (grw t && (decide (t ≠ 48) && (ls.all (nov t) && (ls.all (nov 48) && (st.all (nov t) && st.all (nov 48)))))) (K nx ls st (g_grow g t)) False
      | _, _ => False
    | _ => False
  | _ => False
theorem log2_grow {m n : Nat} (h1 : 1 ≤ m) (h2 : 2 * m ≤ n) : Nat.log2 m + 1 ≤ Nat.log2 n := by
  rw [Nat.le_log2 (by omega), Nat.pow_succ]
  have := Nat.log2_self_le (n := m) (by omega)
  omega
theorem snd_grow {ci f N index t0 : Nat} {C : String} {T : u_T} {ty : Nat → FieldType} {t : FieldType} (CI : ClI ci C T N ty) (hN : f < N) (hl : Cond.fieldLink own index (T f).1 (T f).2.1 (T f).2.2.1 ∈ gtb) (hfin : (T f).2.2.2 = false) (hty : parseFieldDescriptor (T f).2.2.1 = some t) (ht : isR t = true) (hd : decode cc pc = .ok (.putfield index, 3)) : Snd d own cc nL ret ini pc (s_grow ci f t0 (pc + 3)) := by
  intro p l e s m args below meth c Q D cy bs g0 ad0 Cc hi ls st g K Qr hf hK hQ ad H locs k n lsA P
  simp only [s_grow] at hf
  split at hf
  · rename_i j b st'
    split at hf
    · rename_i ci' fs hb
      split at hf
      · rename_i kd m1 kd' n1 ht1 ht2
        obtain ⟨⟨rfl, rfl, rfl, hft, hm, hmn, hr1, hr2, hr3, hfit⟩, hf⟩ := hf
        cases hc : (grw t0 && (decide (t0 ≠ 48) && (ls.all (nov t0) && (ls.all (nov 48) && (st'.all (nov t0) && st'.all (nov 48)))))) with
        | false => rw [hc] at hf; exact hf.elim
        | true =>
          rw [hc] at hf
          simp only [Bool.and_eq_true, decide_eq_true_eq] at hc
          obtain ⟨c1, c2, c3, c4, c5, c6⟩ := hc
          obtain ⟨ws, hP, hD, hin, hw⟩ := P.1.list
          obtain ⟨q0, hq0⟩ := hin b _ hb
          have hfl := (List.getElem?_eq_some_iff.mp hft).1
          refine va_put Cc.1 Cc.2.1 Cc.2.2.2.2.1 CI.2.1 ty CI.2.2.1 CI.2.2.2 Cc.2.2.2.1 Cc.2.2.2.2.2.2.1 hP hD P.2.1 q0 hq0 CI.1 f hN (Cc.2.2.2.2.1 _ hl) (fun _ h => h) hfin (v := .ref (ad 48)) hty (isR_fit ht _).1 (isR_fit ht _).2 (by rw [List.length_mapIdx]; exact hfl) hd (fun H1 locs1 hP1 hD1 hS1 => ?_)
          obtain ⟨h1, h2⟩ := hw q0 b _ _ H1 (by rw [hb]; simp) hq0 hP1
          have hbt : b ≠ t0 := by intro e; subst e; rw [hb] at ht1; cases ht1
          have hb48 : b ≠ 48 := by intro e; subst e; rw [hb] at ht2; cases ht2
          have lt49 : ∀ i s, g.1 i = some s → i < 49 := by
            intro i s h
            rcases Nat.lt_or_ge i 49 with q | q
            · exact q
            · rw [P.1.2.2.2.1 i q] at h; cases h
          have es : ∀ i, i ≠ t0 → i ≠ 48 → (g_grow g t0).1 i = g.1 i := fun i a1 a2 => by show up1 (up1 g.1 t0 _) 48 none i = _; rw [up1_n _ _ a2, up1_n _ _ a1]
          have et : (g_grow g t0).1 t0 = some (.inr (kd', n1)) := by show up1 (up1 g.1 t0 _) 48 none t0 = _; rw [up1_n _ _ c2, up1_s]; exact ht2
          have e48 : (g_grow g t0).1 48 = none := by show up1 (up1 g.1 t0 (g.1 48)) 48 none 48 = none; exact up1_s _ _ _
          have hu1 := cU_up (sh := g.1) (sh' := up1 g.1 t0 (g.1 48)) (lt49 _ _ ht1) (fun i hi => up1_n _ _ hi)
          have hu2 := cU_up (sh := up1 g.1 t0 (g.1 48)) (sh' := (g_grow g t0).1) (lt49 _ _ ht2) (fun i hi => up1_n _ _ hi)
          have hv1 := sU_up (sh := g.1) (sh' := up1 g.1 t0 (g.1 48)) (lt49 _ _ ht1) (fun i hi => up1_n _ _ hi)
          have hv2 := sU_up (sh := up1 g.1 t0 (g.1 48)) (sh' := (g_grow g t0).1) (lt49 _ _ ht2) (fun i hi => up1_n _ _ hi)
          rw [up1_s, ht1, ht2] at hu1 hv1
          rw [up1_n _ _ (fun e => c2 e.symm), e48, ht2] at hu2 hv2
          have w1 : cwt t0 (some (.inr (kd', m1))) = 1 + Nat.log2 m1 := by show (if t0 = 48 then 1 else _) = _; rw [if_neg c2]
          have w2 : cwt t0 (some (.inr (kd', n1))) = 1 + Nat.log2 n1 := by show (if t0 = 48 then 1 else _) = _; rw [if_neg c2]
          have w3 : cwt 48 (some (.inr (kd', n1))) = 1 := rfl
          have w4 : cwt 48 none = 0 := rfl
          have w5 : swt t0 (some (.inr (kd', m1))) = 2 * m1 := by show (if t0 = 48 then m1 else _) = _; rw [if_neg c2]
          have w6 : swt t0 (some (.inr (kd', n1))) = 2 * n1 := by show (if t0 = 48 then n1 else _) = _; rw [if_neg c2]
          have w7 : swt 48 (some (.inr (kd', n1))) = n1 := rfl
          have w8 : swt 48 none = 0 := rfl
          rw [w1, w2] at hu1
          rw [w3, w4] at hu2
          rw [w5, w6] at hv1
          rw [w7, w8] at hv2
          have hlg := log2_grow hm hmn
          have hcnt := P.2.2.1
          have Pn : Pnt nL D cy bs s g0 ad0 (up1 ad t0 (ad 48)) (g_grow g t0) H1 locs1 k n lsA ls := by
            refine ⟨⟨fun i si hi => ?_, fun i i' hi hi' hii => ?_, fun i hi => ?_, fun i hi => ?_, hfit⟩, hS1, ⟨by omega, by omega⟩, P.2.2.2.1.up c3, fun i hi hg => ?_, fun i hi hg => ?_⟩
            · by_cases hit : i = t0
              · subst hit
                rw [et] at hi
                cases hi
                rw [up1_s]
                have h3 := h2 48 _ (fun e => hb48 e.symm) ht2
                have e5 : cel cy (up1 ad i (ad 48)) (g_grow g i) i (.inr (kd', n1)) = cel cy ad g 48 (.inr (kd', n1)) := cel_arr (up1_s _ _ _) (up1_s _ _ _)
                rw [e5]
                exact h3
              · by_cases hi48 : i = 48
                · subst hi48; rw [e48] at hi; cases hi
                · rw [es i hit hi48] at hi
                  rw [up1_n _ _ hit]
                  by_cases hib : i = b
                  · subst hib
                    rw [hb] at hi
                    cases hi
                    have e6 := fv_setr (ad := ad) (ad' := up1 ad t0 (ad 48)) (F := g.2.1 i) (j := t0) (q := ad 48) hfl (up1_s _ _ _) (fun i' v hne hv x => nov_fvl (List.all_eq_true.mp (nrf_all hr2) v (by
                      have : (fs.set f .null)[i']? = some v := by rw [List.getElem?_set_ne (fun e => hne e.symm)]; exact hv
                      exact List.mem_of_getElem? this)))
                    have e7 : fs.set f (.ref t0) = fs := by
                      apply List.ext_getElem?
                      intro i'
                      rw [List.getElem?_set]
                      by_cases hq : f = i'
                      · subst hq; rw [if_pos rfl, if_pos hfl, hft]
                      · rw [if_neg hq]
                    rw [e7] at e6
                    rw [e6] at h1
                    exact h1
                  · rw [nrf_cel (g := g) (g' := g_grow g t0) (k := i) (hr1 i si hib hi) rfl (up1_n _ _ hit) (up1_n _ _ hit)]
                    exact h2 i si hib hi
            · have hx : ∀ i, (g_grow g t0).1 i ≠ none → i ≠ 48 ∧ (i = t0 ∨ g.1 i ≠ none) := fun i hi => by
                refine ⟨fun e => hi (by rw [e]; exact e48), ?_⟩
                by_cases hit : i = t0
                · exact Or.inl hit
                · refine Or.inr ?_
                  rw [← es i hit (fun e => hi (by rw [e]; exact e48))]
                  exact hi
              obtain ⟨a1, a2⟩ := hx i hi
              obtain ⟨b1, b2⟩ := hx i' hi'
              have l48 : g.1 48 ≠ none := by rw [ht2]; simp
              by_cases hit : i = t0
              · by_cases hit' : i' = t0
                · rw [hit, hit']
                · rw [hit, up1_s, up1_n _ _ hit'] at hii
                  exact absurd (P.1.2.1 48 i' l48 (b2.resolve_left hit') hii).symm b1
              · by_cases hit' : i' = t0
                · rw [hit', up1_s, up1_n _ _ hit] at hii
                  exact absurd (P.1.2.1 i 48 (a2.resolve_left hit) l48 hii) a1
                · rw [up1_n _ _ hit, up1_n _ _ hit'] at hii
                  exact P.1.2.1 i i' (a2.resolve_left hit) (b2.resolve_left hit') hii
            · by_cases hit : i = t0
              · rw [hit, up1_s]; exact P.1.2.2.1 48 (by rw [ht2]; simp)
              · rw [up1_n _ _ hit]
                refine P.1.2.2.1 i ?_
                rw [← es i hit (fun e => hi (by rw [e]; exact e48))]
                exact hi
            · have := lt49 _ _ ht1
              rw [es i (by omega) (by omega)]
              exact P.1.2.2.2.1 i hi
            · have hit : i ≠ t0 := by intro e; subst e; rw [c1] at hg; cases hg
              rw [up1_n _ _ hit]
              exact P.2.2.2.2.1 i hi hg
            · have hit : i ≠ t0 := by intro e; subst e; rw [c1] at hg; cases hg
              have hi48 : i ≠ 48 := by intro e; subst e; cases hg
              rw [es i hit hi48]
              exact P.2.2.2.2.2 i hi hg
          have hf2 := hK _ _ _ _ hf (up1 ad t0 (ad 48)) H1 locs1 k n lsA Pn
          rw [nov_map c5] at hf2
          exact hf2
      · exact hf.elim
    · exact hf.elim
  · exact hf.elim
end Steps6
/-! a method out of its table -/
theorem W.mono {p : Program} {l : Launch} {e : Env} {R : Room} {s : State} {m : MethodId} {args : Array Value} {below : List Frame} {meth : Method} {c : Code} {H : Heap} {locs : List Loc} {k n : Nat} {Q Q' : State → Prop} {g : JFrame} (h : ∀ t, Q t → Q' t) (w : W p l e R s m args below meth c H locs k n Q g) : W p l e R s m args below meth c H locs k n Q' g := fun T hT X => by
  obtain ⟨t, a, b⟩ := w T hT X
  exact ⟨t, a, h t b⟩
theorem bw_wp {d : Nat} {own : String} {cc : ByteArray} {nL : Nat} {ret : Option FieldType} {ini : Inq} {code : Nat → Stq} (hs : ∀ pc, Snd d own cc nL ret ini pc (code pc)) {p : Program} {l : Launch} {e : Env} {s : State} {m : MethodId} {args : Array Value} {below : List Frame} {meth : Method} {c : Code} {Q : State → Prop} {D : va_G} {cy : Nat → ClassId} {bs : Nat} {g0 : Sto} {ad0 : Nat → Nat}
    (C : Cx own cc nL p s m args c D cy bs) (hi : ini s meth ad0 bs) {cut : Nat → Bool} {K : Kon} {Qr : Rsl} (hK : ∀ pc ls st g, K pc ls st g → BW p l e (Lvl d) s m args below meth c Q nL D cy bs g0 ad0 pc ls st g) (hQ : ∀ v g, Qr v g → Fnd p l e (Lvl d) s m args below meth c Q nL D cy bs g0 ad0 cc ret v g) :
    ∀ (fuel pc : Nat) (ls st : List Value) (g : Sto), wp code cut K Qr fuel pc ls st g → BW p l e (Lvl d) s m args below meth c Q nL D cy bs g0 ad0 pc ls st g := by
  intro fuel
  induction fuel with
  | zero => intro pc ls st g h; exact h.elim
  | succ n ih =>
    intro pc ls st g h
    refine hs pc p l e s m args below meth c Q D cy bs g0 ad0 C hi ls st g _ Qr h (fun pc' ls' st' g' h' => ?_) hQ
    cases hc : cut pc' with
    | true => rw [hc] at h'; exact hK _ _ _ _ h'
    | false => rw [hc] at h'; exact ih _ _ _ _ h'
theorem lv_args1 : ∀ (vs : List Value) (i : Nat), (∀ v ∈ vs, v.category = 1) → ∀ (j : Nat) (v : Value), vs[j]? = some v → (i + j, v) ∈ lv_args i vs
  | [], i, _, j, v, hj => by simp at hj
  | w :: vs, i, hc, j, v, hj => by
    have hw : ¬ w.category = 2 := by rw [hc w List.mem_cons_self]; decide
    unfold lv_args
    rw [if_neg hw]
    cases j with
    | zero => rw [List.getElem?_cons_zero] at hj; cases hj; exact List.mem_cons_self
    | succ j =>
      rw [List.getElem?_cons_succ] at hj
      refine List.mem_cons_of_mem _ ?_
      have := lv_args1 vs (i + 1) (fun v h => hc v (List.mem_cons_of_mem _ h)) j v hj
      rw [show i + (j + 1) = i + 1 + j by omega]
      exact this
theorem lg_sl1 : ∀ (vs : List Value), (∀ v ∈ vs, v.category = 1) → (lg_sl vs).length = vs.length
  | [], _ => rfl
  | w :: vs, hc => by
    have hw : ¬ w.category = 2 := by rw [hc w List.mem_cons_self]; decide
    have := lg_sl1 vs (fun v h => hc v (List.mem_cons_of_mem _ h))
    simp only [lg_sl, List.flatMap_cons, List.length_append, List.length_cons] at this ⊢
    rw [if_neg hw, this]
    simp
    omega
def cat1 (v : Value) : Bool := match v with
  | .int _ => true
  | .ref _ => true
  | _ => false
theorem entry_LR {nL : Nat} {ad : Nat → Nat} {As : List Value} (hl : As.length ≤ nL) (hc : As.all cat1 = true) : LR ((lg_sl (As.map (cnc ad)) ++ List.replicate (nL - (lg_sl (As.map (cnc ad))).length) Slot.unset).toArray) nL ad (As ++ List.replicate (nL - As.length) U_) := by
  have hcat : ∀ v ∈ As.map (cnc ad), v.category = 1 := by
    intro v hv
    obtain ⟨w, hw, rfl⟩ := List.mem_map.mp hv
    have := List.all_eq_true.mp hc w hw
    rw [cnc_cat]
    cases w <;> first | rfl | cases this
  have h := lv_entry (As.map (cnc ad)) (n := nL) (by rw [lg_sl1 _ hcat, List.length_map]; exact hl)
  refine ⟨by rw [List.length_append, List.length_replicate]; omega, h.1, h.2.1, fun i v hi hv => ?_⟩
  by_cases hlt : i < As.length
  · rw [List.getElem?_append_left hlt] at hi
    have := lv_args1 (As.map (cnc ad)) 0 hcat i (cnc ad v) (by rw [List.getElem?_map, hi]; rfl)
    rw [Nat.zero_add] at this
    exact h.2.2 _ this
  · rw [List.getElem?_append_right (by omega)] at hi
    have := List.eq_of_mem_replicate (List.mem_of_getElem? hi)
    subst this
    cases hv
theorem ok_of {d : Nat} {own : String} {cc : ByteArray} {nL : Nat} {ret : Option FieldType} {y : MethodName} {sp : Spc} {code : Nat → Stq} (cut : Nat → Bool) (fuel : Nat) (I : List Value → Sto → Rsl → Nat → Kon) (hy : plainName y.cls = true) (hown : y.cls = own) (hs : ∀ pc, Snd d own cc nL ret (inM y.name) pc (code pc))
    (hn : ∀ As g Qr, sp As g Qr → As.length ≤ nL ∧ As.all cat1 = true)
    (entry : ∀ As g Qr, sp As g Qr → frc (As ++ List.replicate (nL - As.length) U_) (fun ls0 => wp code cut (fun pc ls st g' => ∃ n, I As g Qr n pc ls st g') Qr fuel 0 ls0 [] g))
    (body : ∀ As g Qr, sp As g Qr → ∀ n pc ls st g', I As g Qr n pc ls st g' → wp code cut (fun pc ls st g'' => ∃ n', n' < n ∧ I As g Qr n' pc ls st g'') Qr fuel pc ls st g') : Ok d y cc nL ret sp := by
  intro l D cy bs ad As g Qr hsp
  refine MetFree.of_bodyS (code := cc) (maxLocals := nL) (ret := ret) hy ?_ ?_
  · intro args s m h hn
    obtain ⟨meth, c, h1, h2, h3, h4, h5, h6, -, -⟩ := Cond.code_spec hn (atoms_spec (ws := wsY y cc nL ret) h _ List.mem_cons_self)
    exact ⟨meth, c, h1, h2, h3, h4, h5, h6⟩
  · intro p e s m args below meth c s₁ B hml hP _
    obtain ⟨rfl, hR, hKk, hnw, hbs⟩ := hP
    have hh0 : s₁.heap = s.heap := by rw [B.state]; rfl
    have hts := atoms_spec (ws := wsY y cc nL ret) B.pre
    have C : Cx own cc nL p s m _ c D cy bs := ⟨B.exec, B.bytes, hml, by rw [← hown]; exact findClass_of_methodNamed B.named, fun w hw => hts w (List.mem_cons_of_mem _ hw), hnw, hKk, hbs⟩
    have hnm : meth.name = y.name := (name_of_methodNamed B.named B.method).1
    have hlocks : meth.locks = false := B.notSynchronized
    have hQ : ∀ v g', Qr v g' → Fnd p l e (Lvl d) s m (As.map (cnc ad)).toArray below meth c (fun t => ∃ o, t.status = .running ∧ Ended t below o ∧ EndM D cy bs ad g Qr (As.map (cnc ad)).toArray s o t) nL D cy bs g ad cc ret v g' := by
      intro v g' hq pc i ad' H locs k n lsA ls P hdec hrt
      have hend : ∀ t : State, t.heap = H → PstM D cy bs ad g Qr (As.map (cnc ad)).toArray s (.returned (v.map (cnc ad'))) t k n := fun t ht => ⟨v, g', ad', rfl, hq, by rw [ht]; exact P.1, P.2.2.2.2.1, P.2.2.2.2.2, P.2.2.1, P.2.1.F ht⟩
      have hmq : ∀ t, MQ below (fun a s o t => PstM D cy bs ad g Qr a s o t k n) (As.map (cnc ad)).toArray s k n (fun q => bs ≤ q) t → ∃ o, t.status = .running ∧ Ended t below o ∧ EndM D cy bs ad g Qr (As.map (cnc ad)).toArray s o t := by
        rintro t ⟨o, h1, h2, h3, L, h4, h5⟩
        exact ⟨o, h1, h2, L, k, n, h3, h4, h5⟩
      refine W.mono hmq ?_
      rcases hrt with ⟨rfl, rfl, hr⟩ | ⟨x, ty, rfl, rfl, hr, hnar⟩ | ⟨x, rt, rfl, rfl, hr, hrt⟩
      · exact W.vret B.exec B.bytes (by rw [B.returns]; exact hr) (fun t ht _ => hend t ht) P.2.1.2.2 hdec
      · exact W.zret B.exec B.bytes (by rw [B.returns]; exact hr) hnar (fun t ht _ => hend t ht) P.2.1.2.2 hdec
      · exact W.aret B.exec B.bytes (by rw [B.returns]; exact hr) hrt (Or.inr ⟨_, rfl⟩) (fun t ht _ => hend t ht) P.2.1.2.2 hdec
    have hL : ∀ (n pc : Nat) (ls st : List Value) (g' : Sto), I As g Qr n pc ls st g' → BW p l e (Lvl d) s m (As.map (cnc ad)).toArray below meth c (fun t => ∃ o, t.status = .running ∧ Ended t below o ∧ EndM D cy bs ad g Qr (As.map (cnc ad)).toArray s o t) nL D cy bs g ad pc ls st g' := by
      intro n
      induction n using Nat.strongRecOn with
      | _ n ih =>
        intro pc ls st g' hI
        exact bw_wp hs C hnm (fun pc' ls' st' g'' ⟨n', h1, h2⟩ => ih n' h1 pc' ls' st' g'' h2) hQ fuel pc ls st g' (body As g Qr hsp n pc ls st g' hI)
    have h0 := bw_wp hs C hnm (fun pc' ls' st' g'' ⟨n', h2⟩ => hL n' pc' ls' st' g'' h2) hQ fuel 0 _ [] g ((frc_eq _ _).mp (entry As g Qr hsp))
    obtain ⟨h1, h2⟩ := hn As g Qr hsp
    have K0 := h0 ad s.heap [] 0 0 _ ⟨hR, va_S.rf, ⟨by omega, by omega⟩, entry_LR h1 h2, fun _ _ _ => rfl, fun _ h _ => h⟩
    rw [show F0 m 0 ((lg_sl (As.map (cnc ad)) ++ List.replicate (nL - (lg_sl (As.map (cnc ad))).length) Slot.unset).toArray) (([] : List Value).map (cnc ad)) = entryFrame m (As.map (cnc ad)).toArray nL from (lg_entry_eq m (As.map (cnc ad)) nL).symm] at K0
    obtain ⟨t, a1, o, b1, b2, b3⟩ := K0 s₁ hh0 (Stand.of_body B)
    exact ⟨t, o, a1, b1, b2, b3⟩
/-- a method without a loop: its contract is the run of its own table -/
def inl (code : Nat → Stq) (nL fuel : Nat) : Spc := fun As g Q => cond (As.all cat1 && decide (As.length ≤ nL)) (frc (As ++ List.replicate (nL - As.length) U_) (fun ls => wp code (fun _ => false) (fun _ _ _ _ => False) Q fuel 0 ls [] g)) False
theorem ok_inl {d : Nat} {own : String} {cc : ByteArray} {nL fuel : Nat} {ret : Option FieldType} {y : MethodName} {code : Nat → Stq} (hy : plainName y.cls = true) (hown : y.cls = own) (hs : ∀ pc, Snd d own cc nL ret (inM y.name) pc (code pc)) : Ok d y cc nL ret (inl code nL fuel) := by
  have key : ∀ As g Qr, inl code nL fuel As g Qr → (As.all cat1 = true ∧ As.length ≤ nL) ∧ frc (As ++ List.replicate (nL - As.length) U_) (fun ls => wp code (fun _ => false) (fun _ _ _ _ => False) Qr fuel 0 ls [] g) := by
    intro As g Qr h
    simp only [inl] at h
    cases hc : (As.all cat1 && decide (As.length ≤ nL)) with
    | false => rw [hc] at h; exact h.elim
    | true =>
      rw [hc] at h
      simp only [Bool.and_eq_true, decide_eq_true_eq] at hc
      exact ⟨hc, h⟩
  have mono : ∀ (K K' : Kon) (Q : Rsl), (∀ pc ls st g, ¬ K pc ls st g) → ∀ (n pc : Nat) (ls st : List Value) (g : Sto), wp code (fun _ => false) K Q n pc ls st g = wp code (fun _ => false) K' Q n pc ls st g := by
    intro K K' Q hK n
    induction n with
    | zero => intros; rfl
    | succ n ih =>
      intro pc ls st g
      show code pc ls st g _ Q = code pc ls st g _ Q
      congr 1
      funext pc' ls' st' g'
      exact ih pc' ls' st' g'
  refine ok_of (fun _ => false) fuel (fun _ _ _ _ _ _ _ _ => False) hy hown hs (fun As g Q h => ⟨(key As g Q h).1.2, (key As g Q h).1.1⟩) (fun As g Q h => ?_) (fun _ _ _ _ _ _ _ _ _ h => h.elim)
  have h2 := (key As g Q h).2
  rw [frc_eq] at h2 ⊢
  rw [mono _ (fun _ _ _ _ => False) Q (fun _ _ _ _ => fun ⟨_, h⟩ => h)]
  exact h2
end
section
/-! Math.max, Math.min, by the kit's own rows -/
section Steps7
variable {d : Nat} {own : String} {cc : ByteArray} {nL : Nat} {ret : Option FieldType} {ini : Inq} {pc : Nat}
def s_mmax (nx : Nat) : Stq := fun ls st g K _ => match st with
  | .int y :: .int x :: st => cond (decide ((st.map fun v => v.category).sum ≤ 8)) (K nx ls (.int (if x < y then y else x) :: st) g) False
  | _ => False
theorem snd_mmax {index : Nat} (hd1 : 1 ≤ d) (hl : Cond.methodLink own index Lib.Math.max.name ∈ gtb) (h2 : Cond.static Lib.Math.max.name ∈ gtb) (h3 : Cond.initialized "java/lang/Math" ∈ gtb) (h4 : Cond.code Lib.Math.max.name Lib.Math.max.code 2 (some .int) ∈ gtb) (hd : decode cc pc = .ok (.invokestatic index, 3)) : Snd d own cc nL ret ini pc (s_mmax (pc + 3)) := by
  intro p l e s m args below meth c Q D cy bs g0 ad0 Cc hi ls st g K Qr hf hK hQ ad H locs k n lsA P
  simp only [s_mmax] at hf
  split at hf
  · rename_i y x st'
    cases hc : decide ((st'.map fun v => v.category).sum ≤ 8) with
    | false => rw [hc] at hf; exact hf.elim
    | true =>
      rw [hc] at hf
      have hc := of_decide_eq_true hc
      have hft : cU g.1 ≤ 60000 ∧ sU g.1 ≤ 730225 := P.1.2.2.2.2
      have hcn := P.2.2.1
      exact va_mmax Cc.1 Cc.2.1 (by rw [Cc.2.2.1, P.2.2.2.1.2.1]) Cc.2.2.2.1 (Cc.2.2.2.2.1 _ hl) (Cc.2.2.2.2.1 _ h2) (Cc.2.2.2.2.1 _ h3) (Cc.2.2.2.2.1 _ h4) hd1 (by rw [cat_map]; show _ + 13 ≤ 32 * d + 8; omega) (by show k ≤ (d + 1) * 60000; omega) (by show n ≤ (d + 1) * 730225; omega) hd (hK _ _ _ _ hf ad H locs k n lsA P)
  · exact hf.elim
def s_mmin (nx : Nat) : Stq := fun ls st g K _ => match st with
  | .int y :: .int x :: st => cond (decide ((st.map fun v => v.category).sum ≤ 8)) (K nx ls (.int (if y < x then y else x) :: st) g) False
  | _ => False
theorem snd_mmin {index : Nat} (hd1 : 1 ≤ d) (hl : Cond.methodLink own index Lib.Math.min.name ∈ gtb) (h2 : Cond.static Lib.Math.min.name ∈ gtb) (h3 : Cond.initialized "java/lang/Math" ∈ gtb) (h4 : Cond.code Lib.Math.min.name Lib.Math.min.code 2 (some .int) ∈ gtb) (hd : decode cc pc = .ok (.invokestatic index, 3)) : Snd d own cc nL ret ini pc (s_mmin (pc + 3)) := by
  intro p l e s m args below meth c Q D cy bs g0 ad0 Cc hi ls st g K Qr hf hK hQ ad H locs k n lsA P
  simp only [s_mmin] at hf
  split at hf
  · rename_i y x st'
    cases hc : decide ((st'.map fun v => v.category).sum ≤ 8) with
    | false => rw [hc] at hf; exact hf.elim
    | true =>
      rw [hc] at hf
      have hc := of_decide_eq_true hc
      have hft : cU g.1 ≤ 60000 ∧ sU g.1 ≤ 730225 := P.1.2.2.2.2
      have hcn := P.2.2.1
      exact va_mmin Cc.1 Cc.2.1 (by rw [Cc.2.2.1, P.2.2.2.1.2.1]) Cc.2.2.2.1 (Cc.2.2.2.2.1 _ hl) (Cc.2.2.2.2.1 _ h2) (Cc.2.2.2.2.1 _ h3) (Cc.2.2.2.2.1 _ h4) hd1 (by rw [cat_map]; show _ + 13 ≤ 32 * d + 8; omega) (by show k ≤ (d + 1) * 60000; omega) (by show n ≤ (d + 1) * 730225; omega) hd (hK _ _ _ _ hf ad H locs k n lsA P)
  · exact hf.elim
end Steps7
end
section
theorem cI_0 : ClI 0 RX0 TX0 4 tyX0 := ⟨rfl, lays_g inX0, tyX0_ok, nmX0⟩
theorem cI_1 : ClI 1 RX1 TX1 8 tyX1 := ⟨rfl, lays_g inX1, tyX1_ok, nmX1⟩
theorem cI_2 : ClI 2 RX2 TX2 2 tyX2 := ⟨rfl, lays_g inX2, tyX2_ok, nmX2⟩
theorem cI_3 : ClI 3 RX3 TX3 6 tyX3 := ⟨rfl, lays_g inX3, tyX3_ok, nmX3⟩
theorem cI_4 : ClI 4 RX4 TX4 2 tyX4 := ⟨rfl, lays_g inX4, tyX4_ok, nmX4⟩
theorem cI_5 : ClI 5 RX5 TX5 4 tyX5 := ⟨rfl, lays_g inX5, tyX5_ok, nmX5⟩
theorem cI_6 : ClI 6 RX6 TX6 3 tyX6 := ⟨rfl, lays_g inX6, tyX6_ok, nmX6⟩
theorem cI_7 : ClI 7 RX8 TX8 5 tyX8 := ⟨rfl, lays_g inX8, tyX8_ok, nmX8⟩
theorem cI_8 : ClI 8 RX9 TX9 7 tyX9 := ⟨rfl, lays_g inX9, tyX9_ok, nmX9⟩
theorem cI_9 : ClI 9 RX10 TX10 11 tyX10 := ⟨rfl, lays_g inX10, tyX10_ok, nmX10⟩
theorem cI_10 : ClI 10 RX11 TX11 25 tyX11 := ⟨rfl, lays_g inX11, tyX11_ok, nmX11⟩
end
section
/-! the shape of the whole store: the class (cells 0 to 31), the reference (32 to 47, where z.1); z.2: the lengths of the arrays that grow (19, 25, 26, 31) -/
abbrev Zt : Type := Bool × (Nat → Nat)
def SH (z : Zt) : Nat → Option Shp := fun k => if k < 24 then (if k < 12 then (if k < 6 then (if k < 3 then (if k < 1 then (if k = 0 then some (.inl (9, [.ref 1, .ref 4, .ref 7, .int 0, .ref 10, .ref 12, .ref 14, .ref 16, .ref 20, .ref 23, .ref 28])) else none) else (if k < 2 then (if k = 1 then some (.inl (8, [.int 0, .ref 2, .int 0, .int 0, .int 0, .ref 3, .int 0])) else none) else (if k = 2 then some (.inr (0, 40)) else none))) else (if k < 4 then (if k = 3 then some (.inr (0, 40)) else none) else (if k < 5 then (if k = 4 then some (.inl (8, [.int 0, .ref 5, .int 0, .int 0, .int 0, .ref 6, .int 0])) else none) else (if k = 5 then some (.inr (0, 40)) else none)))) else (if k < 9 then (if k < 7 then (if k = 6 then some (.inr (0, 40)) else none) else (if k < 8 then (if k = 7 then some (.inl (8, [.int 0, .ref 8, .int 0, .int 0, .int 0, .ref 9, .int 0])) else none) else (if k = 8 then some (.inr (0, 40)) else none))) else (if k < 10 then (if k = 9 then some (.inr (0, 40)) else none) else (if k < 11 then (if k = 10 then some (.inl (4, [.ref 11, .int 0])) else none) else (if k = 11 then some (.inr (0, 40)) else none))))) else (if k < 18 then (if k < 15 then (if k < 13 then (if k = 12 then some (.inl (3, [.int 0, .int 0, .int 0, .ref 13, .int 0, .int 0])) else none) else (if k < 14 then (if k = 13 then some (.inr (0, 40)) else none) else (if k = 14 then some (.inl (1, [.int 0, .int 0, .ref 15, .int 0, .int 0, .int 0, .int 0, .int 0])) else none))) else (if k < 16 then (if k = 15 then some (.inr (0, 40)) else none) else (if k < 17 then (if k = 16 then some (.inl (5, [.ref 17, .int 0, .int 0, .ref 18])) else none) else (if k = 17 then some (.inr (0, 1601)) else none)))) else (if k < 21 then (if k < 19 then (if k = 18 then some (.inl (6, [.ref 19, .int 0, .int 0])) else none) else (if k < 20 then (if k = 19 then some (.inr (1, z.2 19)) else none) else (if k = 20 then some (.inl (0, [.ref 21, .ref 22, .int 0, .int 0])) else none))) else (if k < 22 then (if k = 21 then some (.inr (0, 40)) else none) else (if k < 23 then (if k = 22 then some (.inr (0, 1600)) else none) else (if k = 23 then some (.inl (7, [.ref 24, .ref 26, .int 0, .int 0, .ref 27])) else none)))))) else (if k < 36 then (if k < 30 then (if k < 27 then (if k < 25 then (if k = 24 then some (.inl (6, [.ref 25, .int 0, .int 0])) else none) else (if k < 26 then (if k = 25 then some (.inr (1, z.2 25)) else none) else (if k = 26 then some (.inr (0, z.2 26)) else none))) else (if k < 28 then (if k = 27 then some (.inr (0, 8)) else none) else (if k < 29 then (if k = 28 then some (.inl (2, [.ref 29, .ref 30])) else none) else (if k = 29 then some (.inr (0, 364)) else none)))) else (if k < 33 then (if k < 31 then (if k = 30 then some (.inl (6, [.ref 31, .int 0, .int 0])) else none) else (if k < 32 then (if k = 31 then some (.inr (1, z.2 31)) else none) else (if k = 32 then cond z.1 (some (.inl (10, [.ref 33, .ref 34, .ref 35, .ref 36, .int 0, .ref 37, .int 0, .int 0, .int 0, .int 0, .int 0, .int 0, .ref 38, .ref 39, .ref 40, .int 0, .ref 41, .int 0, .ref 42, .int 0, .ref 43, .ref 44, .ref 45, .ref 46, .ref 47]))) none else none))) else (if k < 34 then (if k = 33 then cond z.1 (some (.inr (0, 85))) none else none) else (if k < 35 then (if k = 34 then cond z.1 (some (.inr (0, 170))) none else none) else (if k = 35 then cond z.1 (some (.inr (2, 2))) none else none))))) else (if k < 42 then (if k < 39 then (if k < 37 then (if k = 36 then cond z.1 (some (.inr (0, 40))) none else none) else (if k < 38 then (if k = 37 then cond z.1 (some (.inr (0, 40))) none else none) else (if k = 38 then cond z.1 (some (.inr (0, 9))) none else none))) else (if k < 40 then (if k = 39 then cond z.1 (some (.inr (2, 9))) none else none) else (if k < 41 then (if k = 40 then cond z.1 (some (.inr (0, 1601))) none else none) else (if k = 41 then cond z.1 (some (.inr (0, 40320))) none else none)))) else (if k < 45 then (if k < 43 then (if k = 42 then cond z.1 (some (.inr (0, 40320))) none else none) else (if k < 44 then (if k = 43 then cond z.1 (some (.inr (0, 9))) none else none) else (if k = 44 then cond z.1 (some (.inr (0, 9))) none else none))) else (if k < 46 then (if k = 45 then cond z.1 (some (.inr (0, 40320))) none else none) else (if k < 47 then (if k = 46 then cond z.1 (some (.inr (0, 40320))) none else none) else (if k = 47 then cond z.1 (some (.inr (0, 40320))) none else none))))))
theorem SH_0 (z : Zt) : SH z 0 = some (.inl (9, [.ref 1, .ref 4, .ref 7, .int 0, .ref 10, .ref 12, .ref 14, .ref 16, .ref 20, .ref 23, .ref 28])) := rfl
theorem SH_1 (z : Zt) : SH z 1 = some (.inl (8, [.int 0, .ref 2, .int 0, .int 0, .int 0, .ref 3, .int 0])) := rfl
theorem SH_2 (z : Zt) : SH z 2 = some (.inr (0, 40)) := rfl
theorem SH_3 (z : Zt) : SH z 3 = some (.inr (0, 40)) := rfl
theorem SH_4 (z : Zt) : SH z 4 = some (.inl (8, [.int 0, .ref 5, .int 0, .int 0, .int 0, .ref 6, .int 0])) := rfl
theorem SH_5 (z : Zt) : SH z 5 = some (.inr (0, 40)) := rfl
theorem SH_6 (z : Zt) : SH z 6 = some (.inr (0, 40)) := rfl
theorem SH_7 (z : Zt) : SH z 7 = some (.inl (8, [.int 0, .ref 8, .int 0, .int 0, .int 0, .ref 9, .int 0])) := rfl
theorem SH_8 (z : Zt) : SH z 8 = some (.inr (0, 40)) := rfl
theorem SH_9 (z : Zt) : SH z 9 = some (.inr (0, 40)) := rfl
theorem SH_10 (z : Zt) : SH z 10 = some (.inl (4, [.ref 11, .int 0])) := rfl
theorem SH_11 (z : Zt) : SH z 11 = some (.inr (0, 40)) := rfl
theorem SH_12 (z : Zt) : SH z 12 = some (.inl (3, [.int 0, .int 0, .int 0, .ref 13, .int 0, .int 0])) := rfl
theorem SH_13 (z : Zt) : SH z 13 = some (.inr (0, 40)) := rfl
theorem SH_14 (z : Zt) : SH z 14 = some (.inl (1, [.int 0, .int 0, .ref 15, .int 0, .int 0, .int 0, .int 0, .int 0])) := rfl
theorem SH_15 (z : Zt) : SH z 15 = some (.inr (0, 40)) := rfl
theorem SH_16 (z : Zt) : SH z 16 = some (.inl (5, [.ref 17, .int 0, .int 0, .ref 18])) := rfl
theorem SH_17 (z : Zt) : SH z 17 = some (.inr (0, 1601)) := rfl
theorem SH_18 (z : Zt) : SH z 18 = some (.inl (6, [.ref 19, .int 0, .int 0])) := rfl
theorem SH_19 (z : Zt) : SH z 19 = some (.inr (1, z.2 19)) := rfl
theorem SH_20 (z : Zt) : SH z 20 = some (.inl (0, [.ref 21, .ref 22, .int 0, .int 0])) := rfl
theorem SH_21 (z : Zt) : SH z 21 = some (.inr (0, 40)) := rfl
theorem SH_22 (z : Zt) : SH z 22 = some (.inr (0, 1600)) := rfl
theorem SH_23 (z : Zt) : SH z 23 = some (.inl (7, [.ref 24, .ref 26, .int 0, .int 0, .ref 27])) := rfl
theorem SH_24 (z : Zt) : SH z 24 = some (.inl (6, [.ref 25, .int 0, .int 0])) := rfl
theorem SH_25 (z : Zt) : SH z 25 = some (.inr (1, z.2 25)) := rfl
theorem SH_26 (z : Zt) : SH z 26 = some (.inr (0, z.2 26)) := rfl
theorem SH_27 (z : Zt) : SH z 27 = some (.inr (0, 8)) := rfl
theorem SH_28 (z : Zt) : SH z 28 = some (.inl (2, [.ref 29, .ref 30])) := rfl
theorem SH_29 (z : Zt) : SH z 29 = some (.inr (0, 364)) := rfl
theorem SH_30 (z : Zt) : SH z 30 = some (.inl (6, [.ref 31, .int 0, .int 0])) := rfl
theorem SH_31 (z : Zt) : SH z 31 = some (.inr (1, z.2 31)) := rfl
theorem SH_32 (z : Zt) : SH z 32 = cond z.1 (some (.inl (10, [.ref 33, .ref 34, .ref 35, .ref 36, .int 0, .ref 37, .int 0, .int 0, .int 0, .int 0, .int 0, .int 0, .ref 38, .ref 39, .ref 40, .int 0, .ref 41, .int 0, .ref 42, .int 0, .ref 43, .ref 44, .ref 45, .ref 46, .ref 47]))) none := rfl
theorem SH_33 (z : Zt) : SH z 33 = cond z.1 (some (.inr (0, 85))) none := rfl
theorem SH_34 (z : Zt) : SH z 34 = cond z.1 (some (.inr (0, 170))) none := rfl
theorem SH_35 (z : Zt) : SH z 35 = cond z.1 (some (.inr (2, 2))) none := rfl
theorem SH_36 (z : Zt) : SH z 36 = cond z.1 (some (.inr (0, 40))) none := rfl
theorem SH_37 (z : Zt) : SH z 37 = cond z.1 (some (.inr (0, 40))) none := rfl
theorem SH_38 (z : Zt) : SH z 38 = cond z.1 (some (.inr (0, 9))) none := rfl
theorem SH_39 (z : Zt) : SH z 39 = cond z.1 (some (.inr (2, 9))) none := rfl
theorem SH_40 (z : Zt) : SH z 40 = cond z.1 (some (.inr (0, 1601))) none := rfl
theorem SH_41 (z : Zt) : SH z 41 = cond z.1 (some (.inr (0, 40320))) none := rfl
theorem SH_42 (z : Zt) : SH z 42 = cond z.1 (some (.inr (0, 40320))) none := rfl
theorem SH_43 (z : Zt) : SH z 43 = cond z.1 (some (.inr (0, 9))) none := rfl
theorem SH_44 (z : Zt) : SH z 44 = cond z.1 (some (.inr (0, 9))) none := rfl
theorem SH_45 (z : Zt) : SH z 45 = cond z.1 (some (.inr (0, 40320))) none := rfl
theorem SH_46 (z : Zt) : SH z 46 = cond z.1 (some (.inr (0, 40320))) none := rfl
theorem SH_47 (z : Zt) : SH z 47 = cond z.1 (some (.inr (0, 40320))) none := rfl
end
section
def stpd (row step : Int32) : Int32 := row ^^^ ((row ^^^ ushr row 3) &&& step) ^^^ ((row ^^^ ushr row 3) &&& step) <<< ((3 : Int32) &&& 31)
def bc1 (x : Int32) : Int32 := x - (ushr x 1 &&& 1431655765)
def bc2 (x : Int32) : Int32 := (x &&& 858993459) + (ushr x 2 &&& 858993459)
def bc3 (x : Int32) : Int32 := (x + ushr x 4) &&& 252645135
def bcI (x : Int32) : Int32 := (bc3 (bc2 (bc1 x)) + ushr (bc3 (bc2 (bc1 x))) 8 + ushr (bc3 (bc2 (bc1 x)) + ushr (bc3 (bc2 (bc1 x))) 8) 16) &&& 63
theorem br_nt {c A B : Prop} (h : ¬ c) (a : A) : (¬ c → A) ∧ (c → B) := ⟨fun _ => a, fun q => absurd q h⟩
theorem br_nf {c A B : Prop} (h : c) (b : B) : (¬ c → A) ∧ (c → B) := ⟨fun q => absurd h q, fun _ => b⟩

def kX7_bellAt : Nat → Stq := fun pc => if pc < 6 then (if pc < 3 then (if pc < 1 then (if pc = 0 then s_ild 1 1 else s_bad) else (if pc < 2 then (if pc = 1 then s_push (.int 3) 2 else s_bad) else (if pc = 2 then s_ild 0 3 else s_bad))) else (if pc < 4 then (if pc = 3 then s_push (.int 1) 4 else s_bad) else (if pc < 5 then (if pc = 4 then s_isub 5 else s_bad) else (if pc = 5 then s_imul 6 else s_bad)))) else (if pc < 10 then (if pc < 7 then (if pc = 6 then s_iushr 7 else s_bad) else (if pc < 9 then (if pc = 7 then s_push (.int 7) 9 else s_bad) else (if pc = 9 then s_iand 10 else s_bad))) else (if pc < 11 then (if pc = 10 then s_push (.int 1) 11 else s_bad) else (if pc < 12 then (if pc = 11 then s_iadd 12 else s_bad) else (if pc = 12 then s_iret else s_bad))))
set_option maxRecDepth 20000 in
theorem sX7_bellAt : ∀ pc, Snd 0 RX7 cX7_bellAt 2 (some .int) (inM "bellAt") pc (kX7_bellAt pc) := by
  have h0 : Snd 0 RX7 cX7_bellAt 2 (some .int) (inM "bellAt") 0 (s_ild 1 1) := snd_iload_n (j := 1) (by decide +kernel) rfl
  have h1 : Snd 0 RX7 cX7_bellAt 2 (some .int) (inM "bellAt") 1 (s_push (.int 3) 2) := snd_iconst (n := 3) (by decide +kernel) (by decide)
  have h2 : Snd 0 RX7 cX7_bellAt 2 (some .int) (inM "bellAt") 2 (s_ild 0 3) := snd_iload_n (j := 0) (by decide +kernel) rfl
  have h3 : Snd 0 RX7 cX7_bellAt 2 (some .int) (inM "bellAt") 3 (s_push (.int 1) 4) := snd_iconst (n := 1) (by decide +kernel) (by decide)
  have h4 : Snd 0 RX7 cX7_bellAt 2 (some .int) (inM "bellAt") 4 (s_isub 5) := snd_isub (by decide +kernel)
  have h5 : Snd 0 RX7 cX7_bellAt 2 (some .int) (inM "bellAt") 5 (s_imul 6) := snd_imul (by decide +kernel)
  have h6 : Snd 0 RX7 cX7_bellAt 2 (some .int) (inM "bellAt") 6 (s_iushr 7) := snd_iushr (by decide +kernel)
  have h7 : Snd 0 RX7 cX7_bellAt 2 (some .int) (inM "bellAt") 7 (s_push (.int 7) 9) := snd_bipush (n := 7) (by decide +kernel) (by decide)
  have h9 : Snd 0 RX7 cX7_bellAt 2 (some .int) (inM "bellAt") 9 (s_iand 10) := snd_iand (by decide +kernel)
  have h10 : Snd 0 RX7 cX7_bellAt 2 (some .int) (inM "bellAt") 10 (s_push (.int 1) 11) := snd_iconst (n := 1) (by decide +kernel) (by decide)
  have h11 : Snd 0 RX7 cX7_bellAt 2 (some .int) (inM "bellAt") 11 (s_iadd 12) := snd_iadd (by decide +kernel)
  have h12 : Snd 0 RX7 cX7_bellAt 2 (some .int) (inM "bellAt") 12 (s_iret) := snd_iret (by decide +kernel)
  exact fun pc => snd_ite (snd_ite (snd_ite (snd_leaf (k := 0) h0) (snd_ite (snd_leaf (k := 1) h1) (snd_leaf (k := 2) h2))) (snd_ite (snd_leaf (k := 3) h3) (snd_ite (snd_leaf (k := 4) h4) (snd_leaf (k := 5) h5)))) (snd_ite (snd_ite (snd_leaf (k := 6) h6) (snd_ite (snd_leaf (k := 7) h7) (snd_leaf (k := 9) h9))) (snd_ite (snd_leaf (k := 10) h10) (snd_ite (snd_leaf (k := 11) h11) (snd_leaf (k := 12) h12))))
def pX7_bellAt : Spc := fun As g Q => match As with
  | [.int place, .int row] => Q (some (.int ((ushr row (3 * (place - 1)) &&& 7) + 1))) g
  | _ => False

set_option maxRecDepth 20000 in
theorem oX7_bellAt : Ok 0 yX7_bellAt cX7_bellAt 2 (some .int) pX7_bellAt := by
  refine ok_of (fun _ => false) 17 (fun _ _ _ _ _ _ _ _ => False) (by decide) rfl sX7_bellAt (fun As g Q h => ?_) (fun As g Q h => ?_) (fun _ _ _ _ _ _ _ _ _ h => h.elim)
  · simp only [pX7_bellAt] at h
    split at h
    · exact ⟨Nat.le_of_ble_eq_true rfl, rfl⟩
    · exact h.elim
  · simp only [pX7_bellAt] at h
    split at h
    · exact h
    · exact h.elim

def kX7_stepped : Nat → Stq := fun pc => if pc < 8 then (if pc < 4 then (if pc < 2 then (if pc < 1 then (if pc = 0 then s_ild 0 1 else s_bad) else (if pc = 1 then s_ild 0 2 else s_bad)) else (if pc < 3 then (if pc = 2 then s_push (.int 3) 3 else s_bad) else (if pc = 3 then s_iushr 4 else s_bad))) else (if pc < 6 then (if pc < 5 then (if pc = 4 then s_ixor 5 else s_bad) else (if pc = 5 then s_ild 1 6 else s_bad)) else (if pc < 7 then (if pc = 6 then s_iand 7 else s_bad) else (if pc = 7 then s_ist 2 8 else s_bad)))) else (if pc < 12 then (if pc < 10 then (if pc < 9 then (if pc = 8 then s_ild 0 9 else s_bad) else (if pc = 9 then s_ild 2 10 else s_bad)) else (if pc < 11 then (if pc = 10 then s_ixor 11 else s_bad) else (if pc = 11 then s_ild 2 12 else s_bad))) else (if pc < 14 then (if pc < 13 then (if pc = 12 then s_push (.int 3) 13 else s_bad) else (if pc = 13 then s_ishl 14 else s_bad)) else (if pc < 15 then (if pc = 14 then s_ixor 15 else s_bad) else (if pc = 15 then s_iret else s_bad))))
set_option maxRecDepth 20000 in
theorem sX7_stepped : ∀ pc, Snd 0 RX7 cX7_stepped 3 (some .int) (inM "stepped") pc (kX7_stepped pc) := by
  have h0 : Snd 0 RX7 cX7_stepped 3 (some .int) (inM "stepped") 0 (s_ild 0 1) := snd_iload_n (j := 0) (by decide +kernel) rfl
  have h1 : Snd 0 RX7 cX7_stepped 3 (some .int) (inM "stepped") 1 (s_ild 0 2) := snd_iload_n (j := 0) (by decide +kernel) rfl
  have h2 : Snd 0 RX7 cX7_stepped 3 (some .int) (inM "stepped") 2 (s_push (.int 3) 3) := snd_iconst (n := 3) (by decide +kernel) (by decide)
  have h3 : Snd 0 RX7 cX7_stepped 3 (some .int) (inM "stepped") 3 (s_iushr 4) := snd_iushr (by decide +kernel)
  have h4 : Snd 0 RX7 cX7_stepped 3 (some .int) (inM "stepped") 4 (s_ixor 5) := snd_ixor (by decide +kernel)
  have h5 : Snd 0 RX7 cX7_stepped 3 (some .int) (inM "stepped") 5 (s_ild 1 6) := snd_iload_n (j := 1) (by decide +kernel) rfl
  have h6 : Snd 0 RX7 cX7_stepped 3 (some .int) (inM "stepped") 6 (s_iand 7) := snd_iand (by decide +kernel)
  have h7 : Snd 0 RX7 cX7_stepped 3 (some .int) (inM "stepped") 7 (s_ist 2 8) := snd_istore_n (j := 2) (by decide +kernel) rfl
  have h8 : Snd 0 RX7 cX7_stepped 3 (some .int) (inM "stepped") 8 (s_ild 0 9) := snd_iload_n (j := 0) (by decide +kernel) rfl
  have h9 : Snd 0 RX7 cX7_stepped 3 (some .int) (inM "stepped") 9 (s_ild 2 10) := snd_iload_n (j := 2) (by decide +kernel) rfl
  have h10 : Snd 0 RX7 cX7_stepped 3 (some .int) (inM "stepped") 10 (s_ixor 11) := snd_ixor (by decide +kernel)
  have h11 : Snd 0 RX7 cX7_stepped 3 (some .int) (inM "stepped") 11 (s_ild 2 12) := snd_iload_n (j := 2) (by decide +kernel) rfl
  have h12 : Snd 0 RX7 cX7_stepped 3 (some .int) (inM "stepped") 12 (s_push (.int 3) 13) := snd_iconst (n := 3) (by decide +kernel) (by decide)
  have h13 : Snd 0 RX7 cX7_stepped 3 (some .int) (inM "stepped") 13 (s_ishl 14) := snd_ishl (by decide +kernel)
  have h14 : Snd 0 RX7 cX7_stepped 3 (some .int) (inM "stepped") 14 (s_ixor 15) := snd_ixor (by decide +kernel)
  have h15 : Snd 0 RX7 cX7_stepped 3 (some .int) (inM "stepped") 15 (s_iret) := snd_iret (by decide +kernel)
  exact fun pc => snd_ite (snd_ite (snd_ite (snd_ite (snd_leaf (k := 0) h0) (snd_leaf (k := 1) h1)) (snd_ite (snd_leaf (k := 2) h2) (snd_leaf (k := 3) h3))) (snd_ite (snd_ite (snd_leaf (k := 4) h4) (snd_leaf (k := 5) h5)) (snd_ite (snd_leaf (k := 6) h6) (snd_leaf (k := 7) h7)))) (snd_ite (snd_ite (snd_ite (snd_leaf (k := 8) h8) (snd_leaf (k := 9) h9)) (snd_ite (snd_leaf (k := 10) h10) (snd_leaf (k := 11) h11))) (snd_ite (snd_ite (snd_leaf (k := 12) h12) (snd_leaf (k := 13) h13)) (snd_ite (snd_leaf (k := 14) h14) (snd_leaf (k := 15) h15))))
def pX7_stepped : Spc := fun As g Q => match As with
  | [.int row, .int step] => Q (some (.int (stpd row step))) g
  | _ => False

set_option maxRecDepth 20000 in
theorem oX7_stepped : Ok 0 yX7_stepped cX7_stepped 3 (some .int) pX7_stepped := by
  refine ok_of (fun _ => false) 21 (fun _ _ _ _ _ _ _ _ => False) (by decide) rfl sX7_stepped (fun As g Q h => ?_) (fun As g Q h => ?_) (fun _ _ _ _ _ _ _ _ _ h => h.elim)
  · simp only [pX7_stepped] at h
    split at h
    · exact ⟨Nat.le_of_ble_eq_true rfl, rfl⟩
    · exact h.elim
  · simp only [pX7_stepped] at h
    split at h
    · exact h
    · exact h.elim

def kJ6_bitCount_0f7a4 : Nat → Stq := fun pc => if pc < 27 then (if pc < 14 then (if pc < 7 then (if pc < 2 then (if pc < 1 then (if pc = 0 then s_ild 0 1 else s_bad) else (if pc = 1 then s_ild 0 2 else s_bad)) else (if pc < 3 then (if pc = 2 then s_push (.int 1) 3 else s_bad) else (if pc < 4 then (if pc = 3 then s_iushr 4 else s_bad) else (if pc = 4 then s_push (.int 1431655765) 7 else s_bad)))) else (if pc < 9 then (if pc < 8 then (if pc = 7 then s_iand 8 else s_bad) else (if pc = 8 then s_isub 9 else s_bad)) else (if pc < 10 then (if pc = 9 then s_ist 0 10 else s_bad) else (if pc < 11 then (if pc = 10 then s_ild 0 11 else s_bad) else (if pc = 11 then s_push (.int 858993459) 14 else s_bad))))) else (if pc < 21 then (if pc < 16 then (if pc < 15 then (if pc = 14 then s_iand 15 else s_bad) else (if pc = 15 then s_ild 0 16 else s_bad)) else (if pc < 17 then (if pc = 16 then s_push (.int 2) 17 else s_bad) else (if pc < 18 then (if pc = 17 then s_iushr 18 else s_bad) else (if pc = 18 then s_push (.int 858993459) 21 else s_bad)))) else (if pc < 24 then (if pc < 22 then (if pc = 21 then s_iand 22 else s_bad) else (if pc < 23 then (if pc = 22 then s_iadd 23 else s_bad) else (if pc = 23 then s_ist 0 24 else s_bad))) else (if pc < 25 then (if pc = 24 then s_ild 0 25 else s_bad) else (if pc < 26 then (if pc = 25 then s_ild 0 26 else s_bad) else (if pc = 26 then s_push (.int 4) 27 else s_bad)))))) else (if pc < 40 then (if pc < 34 then (if pc < 29 then (if pc < 28 then (if pc = 27 then s_iushr 28 else s_bad) else (if pc = 28 then s_iadd 29 else s_bad)) else (if pc < 32 then (if pc = 29 then s_push (.int 252645135) 32 else s_bad) else (if pc < 33 then (if pc = 32 then s_iand 33 else s_bad) else (if pc = 33 then s_ist 0 34 else s_bad)))) else (if pc < 36 then (if pc < 35 then (if pc = 34 then s_ild 0 35 else s_bad) else (if pc = 35 then s_ild 0 36 else s_bad)) else (if pc < 38 then (if pc = 36 then s_push (.int 8) 38 else s_bad) else (if pc < 39 then (if pc = 38 then s_iushr 39 else s_bad) else (if pc = 39 then s_iadd 40 else s_bad))))) else (if pc < 46 then (if pc < 42 then (if pc < 41 then (if pc = 40 then s_ist 0 41 else s_bad) else (if pc = 41 then s_ild 0 42 else s_bad)) else (if pc < 43 then (if pc = 42 then s_ild 0 43 else s_bad) else (if pc < 45 then (if pc = 43 then s_push (.int 16) 45 else s_bad) else (if pc = 45 then s_iushr 46 else s_bad)))) else (if pc < 49 then (if pc < 47 then (if pc = 46 then s_iadd 47 else s_bad) else (if pc < 48 then (if pc = 47 then s_ist 0 48 else s_bad) else (if pc = 48 then s_ild 0 49 else s_bad))) else (if pc < 51 then (if pc = 49 then s_push (.int 63) 51 else s_bad) else (if pc < 52 then (if pc = 51 then s_iand 52 else s_bad) else (if pc = 52 then s_iret else s_bad))))))
set_option maxRecDepth 20000 in
theorem sJ6_bitCount_0f7a4 : ∀ pc, Snd 0 RJ6 cJ6_bitCount_0f7a4 1 (some .int) (inM "bitCount") pc (kJ6_bitCount_0f7a4 pc) := by
  have h0 : Snd 0 RJ6 cJ6_bitCount_0f7a4 1 (some .int) (inM "bitCount") 0 (s_ild 0 1) := snd_iload_n (j := 0) (by decide +kernel) rfl
  have h1 : Snd 0 RJ6 cJ6_bitCount_0f7a4 1 (some .int) (inM "bitCount") 1 (s_ild 0 2) := snd_iload_n (j := 0) (by decide +kernel) rfl
  have h2 : Snd 0 RJ6 cJ6_bitCount_0f7a4 1 (some .int) (inM "bitCount") 2 (s_push (.int 1) 3) := snd_iconst (n := 1) (by decide +kernel) (by decide)
  have h3 : Snd 0 RJ6 cJ6_bitCount_0f7a4 1 (some .int) (inM "bitCount") 3 (s_iushr 4) := snd_iushr (by decide +kernel)
  have h4 : Snd 0 RJ6 cJ6_bitCount_0f7a4 1 (some .int) (inM "bitCount") 4 (s_push (.int 1431655765) 7) := snd_ldcw (by decide +kernel) g_488
  have h7 : Snd 0 RJ6 cJ6_bitCount_0f7a4 1 (some .int) (inM "bitCount") 7 (s_iand 8) := snd_iand (by decide +kernel)
  have h8 : Snd 0 RJ6 cJ6_bitCount_0f7a4 1 (some .int) (inM "bitCount") 8 (s_isub 9) := snd_isub (by decide +kernel)
  have h9 : Snd 0 RJ6 cJ6_bitCount_0f7a4 1 (some .int) (inM "bitCount") 9 (s_ist 0 10) := snd_istore_n (j := 0) (by decide +kernel) rfl
  have h10 : Snd 0 RJ6 cJ6_bitCount_0f7a4 1 (some .int) (inM "bitCount") 10 (s_ild 0 11) := snd_iload_n (j := 0) (by decide +kernel) rfl
  have h11 : Snd 0 RJ6 cJ6_bitCount_0f7a4 1 (some .int) (inM "bitCount") 11 (s_push (.int 858993459) 14) := snd_ldcw (by decide +kernel) g_489
  have h14 : Snd 0 RJ6 cJ6_bitCount_0f7a4 1 (some .int) (inM "bitCount") 14 (s_iand 15) := snd_iand (by decide +kernel)
  have h15 : Snd 0 RJ6 cJ6_bitCount_0f7a4 1 (some .int) (inM "bitCount") 15 (s_ild 0 16) := snd_iload_n (j := 0) (by decide +kernel) rfl
  have h16 : Snd 0 RJ6 cJ6_bitCount_0f7a4 1 (some .int) (inM "bitCount") 16 (s_push (.int 2) 17) := snd_iconst (n := 2) (by decide +kernel) (by decide)
  have h17 : Snd 0 RJ6 cJ6_bitCount_0f7a4 1 (some .int) (inM "bitCount") 17 (s_iushr 18) := snd_iushr (by decide +kernel)
  have h18 : Snd 0 RJ6 cJ6_bitCount_0f7a4 1 (some .int) (inM "bitCount") 18 (s_push (.int 858993459) 21) := snd_ldcw (by decide +kernel) g_489
  have h21 : Snd 0 RJ6 cJ6_bitCount_0f7a4 1 (some .int) (inM "bitCount") 21 (s_iand 22) := snd_iand (by decide +kernel)
  have h22 : Snd 0 RJ6 cJ6_bitCount_0f7a4 1 (some .int) (inM "bitCount") 22 (s_iadd 23) := snd_iadd (by decide +kernel)
  have h23 : Snd 0 RJ6 cJ6_bitCount_0f7a4 1 (some .int) (inM "bitCount") 23 (s_ist 0 24) := snd_istore_n (j := 0) (by decide +kernel) rfl
  have h24 : Snd 0 RJ6 cJ6_bitCount_0f7a4 1 (some .int) (inM "bitCount") 24 (s_ild 0 25) := snd_iload_n (j := 0) (by decide +kernel) rfl
  have h25 : Snd 0 RJ6 cJ6_bitCount_0f7a4 1 (some .int) (inM "bitCount") 25 (s_ild 0 26) := snd_iload_n (j := 0) (by decide +kernel) rfl
  have h26 : Snd 0 RJ6 cJ6_bitCount_0f7a4 1 (some .int) (inM "bitCount") 26 (s_push (.int 4) 27) := snd_iconst (n := 4) (by decide +kernel) (by decide)
  have h27 : Snd 0 RJ6 cJ6_bitCount_0f7a4 1 (some .int) (inM "bitCount") 27 (s_iushr 28) := snd_iushr (by decide +kernel)
  have h28 : Snd 0 RJ6 cJ6_bitCount_0f7a4 1 (some .int) (inM "bitCount") 28 (s_iadd 29) := snd_iadd (by decide +kernel)
  have h29 : Snd 0 RJ6 cJ6_bitCount_0f7a4 1 (some .int) (inM "bitCount") 29 (s_push (.int 252645135) 32) := snd_ldcw (by decide +kernel) g_490
  have h32 : Snd 0 RJ6 cJ6_bitCount_0f7a4 1 (some .int) (inM "bitCount") 32 (s_iand 33) := snd_iand (by decide +kernel)
  have h33 : Snd 0 RJ6 cJ6_bitCount_0f7a4 1 (some .int) (inM "bitCount") 33 (s_ist 0 34) := snd_istore_n (j := 0) (by decide +kernel) rfl
  have h34 : Snd 0 RJ6 cJ6_bitCount_0f7a4 1 (some .int) (inM "bitCount") 34 (s_ild 0 35) := snd_iload_n (j := 0) (by decide +kernel) rfl
  have h35 : Snd 0 RJ6 cJ6_bitCount_0f7a4 1 (some .int) (inM "bitCount") 35 (s_ild 0 36) := snd_iload_n (j := 0) (by decide +kernel) rfl
  have h36 : Snd 0 RJ6 cJ6_bitCount_0f7a4 1 (some .int) (inM "bitCount") 36 (s_push (.int 8) 38) := snd_bipush (n := 8) (by decide +kernel) (by decide)
  have h38 : Snd 0 RJ6 cJ6_bitCount_0f7a4 1 (some .int) (inM "bitCount") 38 (s_iushr 39) := snd_iushr (by decide +kernel)
  have h39 : Snd 0 RJ6 cJ6_bitCount_0f7a4 1 (some .int) (inM "bitCount") 39 (s_iadd 40) := snd_iadd (by decide +kernel)
  have h40 : Snd 0 RJ6 cJ6_bitCount_0f7a4 1 (some .int) (inM "bitCount") 40 (s_ist 0 41) := snd_istore_n (j := 0) (by decide +kernel) rfl
  have h41 : Snd 0 RJ6 cJ6_bitCount_0f7a4 1 (some .int) (inM "bitCount") 41 (s_ild 0 42) := snd_iload_n (j := 0) (by decide +kernel) rfl
  have h42 : Snd 0 RJ6 cJ6_bitCount_0f7a4 1 (some .int) (inM "bitCount") 42 (s_ild 0 43) := snd_iload_n (j := 0) (by decide +kernel) rfl
  have h43 : Snd 0 RJ6 cJ6_bitCount_0f7a4 1 (some .int) (inM "bitCount") 43 (s_push (.int 16) 45) := snd_bipush (n := 16) (by decide +kernel) (by decide)
  have h45 : Snd 0 RJ6 cJ6_bitCount_0f7a4 1 (some .int) (inM "bitCount") 45 (s_iushr 46) := snd_iushr (by decide +kernel)
  have h46 : Snd 0 RJ6 cJ6_bitCount_0f7a4 1 (some .int) (inM "bitCount") 46 (s_iadd 47) := snd_iadd (by decide +kernel)
  have h47 : Snd 0 RJ6 cJ6_bitCount_0f7a4 1 (some .int) (inM "bitCount") 47 (s_ist 0 48) := snd_istore_n (j := 0) (by decide +kernel) rfl
  have h48 : Snd 0 RJ6 cJ6_bitCount_0f7a4 1 (some .int) (inM "bitCount") 48 (s_ild 0 49) := snd_iload_n (j := 0) (by decide +kernel) rfl
  have h49 : Snd 0 RJ6 cJ6_bitCount_0f7a4 1 (some .int) (inM "bitCount") 49 (s_push (.int 63) 51) := snd_bipush (n := 63) (by decide +kernel) (by decide)
  have h51 : Snd 0 RJ6 cJ6_bitCount_0f7a4 1 (some .int) (inM "bitCount") 51 (s_iand 52) := snd_iand (by decide +kernel)
  have h52 : Snd 0 RJ6 cJ6_bitCount_0f7a4 1 (some .int) (inM "bitCount") 52 (s_iret) := snd_iret (by decide +kernel)
  exact fun pc => snd_ite (snd_ite (snd_ite (snd_ite (snd_ite (snd_leaf (k := 0) h0) (snd_leaf (k := 1) h1)) (snd_ite (snd_leaf (k := 2) h2) (snd_ite (snd_leaf (k := 3) h3) (snd_leaf (k := 4) h4)))) (snd_ite (snd_ite (snd_leaf (k := 7) h7) (snd_leaf (k := 8) h8)) (snd_ite (snd_leaf (k := 9) h9) (snd_ite (snd_leaf (k := 10) h10) (snd_leaf (k := 11) h11))))) (snd_ite (snd_ite (snd_ite (snd_leaf (k := 14) h14) (snd_leaf (k := 15) h15)) (snd_ite (snd_leaf (k := 16) h16) (snd_ite (snd_leaf (k := 17) h17) (snd_leaf (k := 18) h18)))) (snd_ite (snd_ite (snd_leaf (k := 21) h21) (snd_ite (snd_leaf (k := 22) h22) (snd_leaf (k := 23) h23))) (snd_ite (snd_leaf (k := 24) h24) (snd_ite (snd_leaf (k := 25) h25) (snd_leaf (k := 26) h26)))))) (snd_ite (snd_ite (snd_ite (snd_ite (snd_leaf (k := 27) h27) (snd_leaf (k := 28) h28)) (snd_ite (snd_leaf (k := 29) h29) (snd_ite (snd_leaf (k := 32) h32) (snd_leaf (k := 33) h33)))) (snd_ite (snd_ite (snd_leaf (k := 34) h34) (snd_leaf (k := 35) h35)) (snd_ite (snd_leaf (k := 36) h36) (snd_ite (snd_leaf (k := 38) h38) (snd_leaf (k := 39) h39))))) (snd_ite (snd_ite (snd_ite (snd_leaf (k := 40) h40) (snd_leaf (k := 41) h41)) (snd_ite (snd_leaf (k := 42) h42) (snd_ite (snd_leaf (k := 43) h43) (snd_leaf (k := 45) h45)))) (snd_ite (snd_ite (snd_leaf (k := 46) h46) (snd_ite (snd_leaf (k := 47) h47) (snd_leaf (k := 48) h48))) (snd_ite (snd_leaf (k := 49) h49) (snd_ite (snd_leaf (k := 51) h51) (snd_leaf (k := 52) h52))))))
def pJ6_bitCount_0f7a4 : Spc := fun As g Q => match As with
  | [.int x] => Q (some (.int (bcI x))) g
  | _ => False

set_option maxRecDepth 20000 in
theorem oJ6_bitCount_0f7a4 : Ok 0 yJ6_bitCount_0f7a4 cJ6_bitCount_0f7a4 1 (some .int) pJ6_bitCount_0f7a4 := by
  refine ok_of (fun _ => false) 47 (fun _ _ _ _ _ _ _ _ => False) (by decide) rfl sJ6_bitCount_0f7a4 (fun As g Q h => ?_) (fun As g Q h => ?_) (fun _ _ _ _ _ _ _ _ _ h => h.elim)
  · simp only [pJ6_bitCount_0f7a4] at h
    split at h
    · exact ⟨Nat.le_of_ble_eq_true rfl, rfl⟩
    · exact h.elim
  · simp only [pJ6_bitCount_0f7a4] at h
    split at h
    · exact h
    · exact h.elim
def kX10_change : Nat → Stq := fun pc => if pc < 27 then (if pc < 13 then (if pc < 5 then (if pc < 1 then (if pc = 0 then s_ild 1 1 else s_bad) else (if pc < 2 then (if pc = 1 then s_push (.int (-1)) 2 else s_bad) else (if pc = 2 then s_icne 13 5 else s_bad))) else (if pc < 9 then (if pc < 6 then (if pc = 5 then s_ald 0 6 else s_bad) else (if pc = 6 then s_getf 9 0 9 else s_bad)) else (if pc < 12 then (if pc = 9 then s_getf 8 3 12 else s_bad) else (if pc = 12 then s_iret else s_bad)))) else (if pc < 19 then (if pc < 14 then (if pc = 13 then s_ild 1 14 else s_bad) else (if pc < 16 then (if pc = 14 then s_push (.int (-2)) 16 else s_bad) else (if pc = 16 then s_icne 27 19 else s_bad))) else (if pc < 23 then (if pc < 20 then (if pc = 19 then s_ald 0 20 else s_bad) else (if pc = 20 then s_getf 9 0 23 else s_bad)) else (if pc < 26 then (if pc = 23 then s_getf 8 4 26 else s_bad) else (if pc = 26 then s_iret else s_bad))))) else (if pc < 42 then (if pc < 32 then (if pc < 28 then (if pc = 27 then s_ild 1 28 else s_bad) else (if pc < 31 then (if pc = 28 then s_iflt 54 31 else s_bad) else (if pc = 31 then s_ild 1 32 else s_bad))) else (if pc < 36 then (if pc < 33 then (if pc = 32 then s_ald 0 33 else s_bad) else (if pc = 33 then s_getf 9 0 36 else s_bad)) else (if pc < 39 then (if pc = 36 then s_getf 8 2 39 else s_bad) else (if pc = 39 then s_icge 54 42 else s_bad)))) else (if pc < 50 then (if pc < 46 then (if pc < 43 then (if pc = 42 then s_ald 0 43 else s_bad) else (if pc = 43 then s_getf 9 0 46 else s_bad)) else (if pc < 49 then (if pc = 46 then s_getf 8 1 49 else s_bad) else (if pc = 49 then s_ild 1 50 else s_bad))) else (if pc < 54 then (if pc < 51 then (if pc = 50 then s_iald 51 else s_bad) else (if pc = 51 then s_goto 56 else s_bad)) else (if pc < 56 then (if pc = 54 then s_push (.int (-6)) 56 else s_bad) else (if pc = 56 then s_iret else s_bad)))))
set_option maxRecDepth 20000 in
theorem sX10_change : ∀ pc, Snd 0 RX10 cX10_change 2 (some .int) (inM "change") pc (kX10_change pc) := by
  have h0 : Snd 0 RX10 cX10_change 2 (some .int) (inM "change") 0 (s_ild 1 1) := snd_iload_n (j := 1) (by decide +kernel) rfl
  have h1 : Snd 0 RX10 cX10_change 2 (some .int) (inM "change") 1 (s_push (.int (-1)) 2) := snd_iconst (n := -1) (by decide +kernel) (by decide)
  have h2 : Snd 0 RX10 cX10_change 2 (some .int) (inM "change") 2 (s_icne 13 5) := snd_icne (off := 11) (by decide +kernel) (by decide)
  have h5 : Snd 0 RX10 cX10_change 2 (some .int) (inM "change") 5 (s_ald 0 6) := snd_aload_n (j := 0) (by decide +kernel) rfl
  have h6 : Snd 0 RX10 cX10_change 2 (some .int) (inM "change") 6 (s_getf 9 0 9) := snd_getf (T := TX10) (f := 0) cI_9 (by decide) g_361 (by decide +kernel)
  have h9 : Snd 0 RX10 cX10_change 2 (some .int) (inM "change") 9 (s_getf 8 3 12) := snd_getfN (T := TX9) (f := 3) cI_8 (by decide) g_110 (by decide +kernel)
  have h12 : Snd 0 RX10 cX10_change 2 (some .int) (inM "change") 12 (s_iret) := snd_iret (by decide +kernel)
  have h13 : Snd 0 RX10 cX10_change 2 (some .int) (inM "change") 13 (s_ild 1 14) := snd_iload_n (j := 1) (by decide +kernel) rfl
  have h14 : Snd 0 RX10 cX10_change 2 (some .int) (inM "change") 14 (s_push (.int (-2)) 16) := snd_bipush (n := -2) (by decide +kernel) (by decide)
  have h16 : Snd 0 RX10 cX10_change 2 (some .int) (inM "change") 16 (s_icne 27 19) := snd_icne (off := 11) (by decide +kernel) (by decide)
  have h19 : Snd 0 RX10 cX10_change 2 (some .int) (inM "change") 19 (s_ald 0 20) := snd_aload_n (j := 0) (by decide +kernel) rfl
  have h20 : Snd 0 RX10 cX10_change 2 (some .int) (inM "change") 20 (s_getf 9 0 23) := snd_getf (T := TX10) (f := 0) cI_9 (by decide) g_361 (by decide +kernel)
  have h23 : Snd 0 RX10 cX10_change 2 (some .int) (inM "change") 23 (s_getf 8 4 26) := snd_getfN (T := TX9) (f := 4) cI_8 (by decide) g_113 (by decide +kernel)
  have h26 : Snd 0 RX10 cX10_change 2 (some .int) (inM "change") 26 (s_iret) := snd_iret (by decide +kernel)
  have h27 : Snd 0 RX10 cX10_change 2 (some .int) (inM "change") 27 (s_ild 1 28) := snd_iload_n (j := 1) (by decide +kernel) rfl
  have h28 : Snd 0 RX10 cX10_change 2 (some .int) (inM "change") 28 (s_iflt 54 31) := snd_iflt (off := 26) (by decide +kernel) (by decide)
  have h31 : Snd 0 RX10 cX10_change 2 (some .int) (inM "change") 31 (s_ild 1 32) := snd_iload_n (j := 1) (by decide +kernel) rfl
  have h32 : Snd 0 RX10 cX10_change 2 (some .int) (inM "change") 32 (s_ald 0 33) := snd_aload_n (j := 0) (by decide +kernel) rfl
  have h33 : Snd 0 RX10 cX10_change 2 (some .int) (inM "change") 33 (s_getf 9 0 36) := snd_getf (T := TX10) (f := 0) cI_9 (by decide) g_361 (by decide +kernel)
  have h36 : Snd 0 RX10 cX10_change 2 (some .int) (inM "change") 36 (s_getf 8 2 39) := snd_getfN (T := TX9) (f := 2) cI_8 (by decide) g_107 (by decide +kernel)
  have h39 : Snd 0 RX10 cX10_change 2 (some .int) (inM "change") 39 (s_icge 54 42) := snd_icge (off := 15) (by decide +kernel) (by decide)
  have h42 : Snd 0 RX10 cX10_change 2 (some .int) (inM "change") 42 (s_ald 0 43) := snd_aload_n (j := 0) (by decide +kernel) rfl
  have h43 : Snd 0 RX10 cX10_change 2 (some .int) (inM "change") 43 (s_getf 9 0 46) := snd_getf (T := TX10) (f := 0) cI_9 (by decide) g_361 (by decide +kernel)
  have h46 : Snd 0 RX10 cX10_change 2 (some .int) (inM "change") 46 (s_getf 8 1 49) := snd_getfN (T := TX9) (f := 1) cI_8 (by decide) g_104 (by decide +kernel)
  have h49 : Snd 0 RX10 cX10_change 2 (some .int) (inM "change") 49 (s_ild 1 50) := snd_iload_n (j := 1) (by decide +kernel) rfl
  have h50 : Snd 0 RX10 cX10_change 2 (some .int) (inM "change") 50 (s_iald 51) := snd_iald (by decide +kernel)
  have h51 : Snd 0 RX10 cX10_change 2 (some .int) (inM "change") 51 (s_goto 56) := snd_goto (off := 5) (by decide +kernel) (by decide)
  have h54 : Snd 0 RX10 cX10_change 2 (some .int) (inM "change") 54 (s_push (.int (-6)) 56) := snd_bipush (n := -6) (by decide +kernel) (by decide)
  have h56 : Snd 0 RX10 cX10_change 2 (some .int) (inM "change") 56 (s_iret) := snd_iret (by decide +kernel)
  exact fun pc => snd_ite (snd_ite (snd_ite (snd_ite (snd_leaf (k := 0) h0) (snd_ite (snd_leaf (k := 1) h1) (snd_leaf (k := 2) h2))) (snd_ite (snd_ite (snd_leaf (k := 5) h5) (snd_leaf (k := 6) h6)) (snd_ite (snd_leaf (k := 9) h9) (snd_leaf (k := 12) h12)))) (snd_ite (snd_ite (snd_leaf (k := 13) h13) (snd_ite (snd_leaf (k := 14) h14) (snd_leaf (k := 16) h16))) (snd_ite (snd_ite (snd_leaf (k := 19) h19) (snd_leaf (k := 20) h20)) (snd_ite (snd_leaf (k := 23) h23) (snd_leaf (k := 26) h26))))) (snd_ite (snd_ite (snd_ite (snd_leaf (k := 27) h27) (snd_ite (snd_leaf (k := 28) h28) (snd_leaf (k := 31) h31))) (snd_ite (snd_ite (snd_leaf (k := 32) h32) (snd_leaf (k := 33) h33)) (snd_ite (snd_leaf (k := 36) h36) (snd_leaf (k := 39) h39)))) (snd_ite (snd_ite (snd_ite (snd_leaf (k := 42) h42) (snd_leaf (k := 43) h43)) (snd_ite (snd_leaf (k := 46) h46) (snd_leaf (k := 49) h49))) (snd_ite (snd_ite (snd_leaf (k := 50) h50) (snd_leaf (k := 51) h51)) (snd_ite (snd_leaf (k := 54) h54) (snd_leaf (k := 56) h56)))))
def pX10_change : Spc := inl kX10_change 2 34
theorem oX10_change : Ok 0 yX10_change cX10_change 2 (some .int) pX10_change := ok_inl (by decide) rfl sX10_change

def kX10_count : Nat → Stq := fun pc => if pc < 53 then (if pc < 43 then (if pc < 36 then (if pc < 1 then (if pc = 0 then s_ild 1 1 else s_bad) else (if pc = 1 then s_sw [(0, 36), (1, 44), (2, 52), (3, 60), (4, 68)] 73 else s_bad)) else (if pc < 37 then (if pc = 36 then s_ald 0 37 else s_bad) else (if pc < 40 then (if pc = 37 then s_getf 9 0 40 else s_bad) else (if pc = 40 then s_getf 8 0 43 else s_bad)))) else (if pc < 48 then (if pc < 44 then (if pc = 43 then s_iret else s_bad) else (if pc < 45 then (if pc = 44 then s_ald 0 45 else s_bad) else (if pc = 45 then s_getf 9 0 48 else s_bad))) else (if pc < 51 then (if pc = 48 then s_getf 8 2 51 else s_bad) else (if pc < 52 then (if pc = 51 then s_iret else s_bad) else (if pc = 52 then s_ald 0 53 else s_bad))))) else (if pc < 67 then (if pc < 60 then (if pc < 56 then (if pc = 53 then s_getf 9 0 56 else s_bad) else (if pc < 59 then (if pc = 56 then s_getf 8 6 59 else s_bad) else (if pc = 59 then s_iret else s_bad))) else (if pc < 61 then (if pc = 60 then s_ald 0 61 else s_bad) else (if pc < 64 then (if pc = 61 then s_getf 9 4 64 else s_bad) else (if pc = 64 then s_getf 4 1 67 else s_bad)))) else (if pc < 72 then (if pc < 68 then (if pc = 67 then s_iret else s_bad) else (if pc < 69 then (if pc = 68 then s_ald 0 69 else s_bad) else (if pc = 69 then s_getf 9 3 72 else s_bad))) else (if pc < 73 then (if pc = 72 then s_iret else s_bad) else (if pc < 75 then (if pc = 73 then s_push (.int (-2)) 75 else s_bad) else (if pc = 75 then s_iret else s_bad)))))
set_option maxRecDepth 20000 in
theorem sX10_count : ∀ pc, Snd 0 RX10 cX10_count 2 (some .int) (inM "count") pc (kX10_count pc) := by
  have h0 : Snd 0 RX10 cX10_count 2 (some .int) (inM "count") 0 (s_ild 1 1) := snd_iload_n (j := 1) (by decide +kernel) rfl
  have h1 : Snd 0 RX10 cX10_count 2 (some .int) (inM "count") 1 (s_sw [(0, 36), (1, 44), (2, 52), (3, 60), (4, 68)] 73) := snd_tsw (dflt := 72) (lo := 0) (hi := 4) (offs := #[35, 43, 51, 59, 67]) (len := 35) [(0, 36), (1, 44), (2, 52), (3, 60), (4, 68)] (by decide +kernel) (by decide) (by decide +kernel) (by decide +kernel)
  have h36 : Snd 0 RX10 cX10_count 2 (some .int) (inM "count") 36 (s_ald 0 37) := snd_aload_n (j := 0) (by decide +kernel) rfl
  have h37 : Snd 0 RX10 cX10_count 2 (some .int) (inM "count") 37 (s_getf 9 0 40) := snd_getf (T := TX10) (f := 0) cI_9 (by decide) g_361 (by decide +kernel)
  have h40 : Snd 0 RX10 cX10_count 2 (some .int) (inM "count") 40 (s_getf 8 0 43) := snd_getfN (T := TX9) (f := 0) cI_8 (by decide) g_101 (by decide +kernel)
  have h43 : Snd 0 RX10 cX10_count 2 (some .int) (inM "count") 43 (s_iret) := snd_iret (by decide +kernel)
  have h44 : Snd 0 RX10 cX10_count 2 (some .int) (inM "count") 44 (s_ald 0 45) := snd_aload_n (j := 0) (by decide +kernel) rfl
  have h45 : Snd 0 RX10 cX10_count 2 (some .int) (inM "count") 45 (s_getf 9 0 48) := snd_getf (T := TX10) (f := 0) cI_9 (by decide) g_361 (by decide +kernel)
  have h48 : Snd 0 RX10 cX10_count 2 (some .int) (inM "count") 48 (s_getf 8 2 51) := snd_getfN (T := TX9) (f := 2) cI_8 (by decide) g_107 (by decide +kernel)
  have h51 : Snd 0 RX10 cX10_count 2 (some .int) (inM "count") 51 (s_iret) := snd_iret (by decide +kernel)
  have h52 : Snd 0 RX10 cX10_count 2 (some .int) (inM "count") 52 (s_ald 0 53) := snd_aload_n (j := 0) (by decide +kernel) rfl
  have h53 : Snd 0 RX10 cX10_count 2 (some .int) (inM "count") 53 (s_getf 9 0 56) := snd_getf (T := TX10) (f := 0) cI_9 (by decide) g_361 (by decide +kernel)
  have h56 : Snd 0 RX10 cX10_count 2 (some .int) (inM "count") 56 (s_getf 8 6 59) := snd_getfN (T := TX9) (f := 6) cI_8 (by decide) g_119 (by decide +kernel)
  have h59 : Snd 0 RX10 cX10_count 2 (some .int) (inM "count") 59 (s_iret) := snd_iret (by decide +kernel)
  have h60 : Snd 0 RX10 cX10_count 2 (some .int) (inM "count") 60 (s_ald 0 61) := snd_aload_n (j := 0) (by decide +kernel) rfl
  have h61 : Snd 0 RX10 cX10_count 2 (some .int) (inM "count") 61 (s_getf 9 4 64) := snd_getf (T := TX10) (f := 4) cI_9 (by decide) g_365 (by decide +kernel)
  have h64 : Snd 0 RX10 cX10_count 2 (some .int) (inM "count") 64 (s_getf 4 1 67) := snd_getfN (T := TX4) (f := 1) cI_4 (by decide) g_146 (by decide +kernel)
  have h67 : Snd 0 RX10 cX10_count 2 (some .int) (inM "count") 67 (s_iret) := snd_iret (by decide +kernel)
  have h68 : Snd 0 RX10 cX10_count 2 (some .int) (inM "count") 68 (s_ald 0 69) := snd_aload_n (j := 0) (by decide +kernel) rfl
  have h69 : Snd 0 RX10 cX10_count 2 (some .int) (inM "count") 69 (s_getf 9 3 72) := snd_getf (T := TX10) (f := 3) cI_9 (by decide) g_364 (by decide +kernel)
  have h72 : Snd 0 RX10 cX10_count 2 (some .int) (inM "count") 72 (s_iret) := snd_iret (by decide +kernel)
  have h73 : Snd 0 RX10 cX10_count 2 (some .int) (inM "count") 73 (s_push (.int (-2)) 75) := snd_bipush (n := -2) (by decide +kernel) (by decide)
  have h75 : Snd 0 RX10 cX10_count 2 (some .int) (inM "count") 75 (s_iret) := snd_iret (by decide +kernel)
  exact fun pc => snd_ite (snd_ite (snd_ite (snd_ite (snd_leaf (k := 0) h0) (snd_leaf (k := 1) h1)) (snd_ite (snd_leaf (k := 36) h36) (snd_ite (snd_leaf (k := 37) h37) (snd_leaf (k := 40) h40)))) (snd_ite (snd_ite (snd_leaf (k := 43) h43) (snd_ite (snd_leaf (k := 44) h44) (snd_leaf (k := 45) h45))) (snd_ite (snd_leaf (k := 48) h48) (snd_ite (snd_leaf (k := 51) h51) (snd_leaf (k := 52) h52))))) (snd_ite (snd_ite (snd_ite (snd_leaf (k := 53) h53) (snd_ite (snd_leaf (k := 56) h56) (snd_leaf (k := 59) h59))) (snd_ite (snd_leaf (k := 60) h60) (snd_ite (snd_leaf (k := 61) h61) (snd_leaf (k := 64) h64)))) (snd_ite (snd_ite (snd_leaf (k := 67) h67) (snd_ite (snd_leaf (k := 68) h68) (snd_leaf (k := 69) h69))) (snd_ite (snd_leaf (k := 72) h72) (snd_ite (snd_leaf (k := 73) h73) (snd_leaf (k := 75) h75)))))
def pX10_count : Spc := inl kX10_count 2 28
theorem oX10_count : Ok 0 yX10_count cX10_count 2 (some .int) pX10_count := ok_inl (by decide) rfl sX10_count

def kX10_hasMethod : Nat → Stq := fun pc => if pc < 10 then (if pc < 4 then (if pc < 1 then (if pc = 0 then s_ald 0 1 else s_bad) else (if pc = 1 then s_getf 9 0 4 else s_bad)) else (if pc < 7 then (if pc = 4 then s_getf 8 2 7 else s_bad) else (if pc = 7 then s_ifle 14 10 else s_bad))) else (if pc < 14 then (if pc < 11 then (if pc = 10 then s_push (.int 1) 11 else s_bad) else (if pc = 11 then s_goto 15 else s_bad)) else (if pc < 15 then (if pc = 14 then s_push (.int 0) 15 else s_bad) else (if pc = 15 then s_zret else s_bad)))
set_option maxRecDepth 20000 in
theorem sX10_hasMethod : ∀ pc, Snd 0 RX10 cX10_hasMethod 1 (some .boolean) (inM "hasMethod") pc (kX10_hasMethod pc) := by
  have h0 : Snd 0 RX10 cX10_hasMethod 1 (some .boolean) (inM "hasMethod") 0 (s_ald 0 1) := snd_aload_n (j := 0) (by decide +kernel) rfl
  have h1 : Snd 0 RX10 cX10_hasMethod 1 (some .boolean) (inM "hasMethod") 1 (s_getf 9 0 4) := snd_getf (T := TX10) (f := 0) cI_9 (by decide) g_361 (by decide +kernel)
  have h4 : Snd 0 RX10 cX10_hasMethod 1 (some .boolean) (inM "hasMethod") 4 (s_getf 8 2 7) := snd_getfN (T := TX9) (f := 2) cI_8 (by decide) g_107 (by decide +kernel)
  have h7 : Snd 0 RX10 cX10_hasMethod 1 (some .boolean) (inM "hasMethod") 7 (s_ifle 14 10) := snd_ifle (off := 7) (by decide +kernel) (by decide)
  have h10 : Snd 0 RX10 cX10_hasMethod 1 (some .boolean) (inM "hasMethod") 10 (s_push (.int 1) 11) := snd_iconst (n := 1) (by decide +kernel) (by decide)
  have h11 : Snd 0 RX10 cX10_hasMethod 1 (some .boolean) (inM "hasMethod") 11 (s_goto 15) := snd_goto (off := 4) (by decide +kernel) (by decide)
  have h14 : Snd 0 RX10 cX10_hasMethod 1 (some .boolean) (inM "hasMethod") 14 (s_push (.int 0) 15) := snd_iconst (n := 0) (by decide +kernel) (by decide)
  have h15 : Snd 0 RX10 cX10_hasMethod 1 (some .boolean) (inM "hasMethod") 15 (s_zret) := snd_zret (by decide +kernel)
  exact fun pc => snd_ite (snd_ite (snd_ite (snd_leaf (k := 0) h0) (snd_leaf (k := 1) h1)) (snd_ite (snd_leaf (k := 4) h4) (snd_leaf (k := 7) h7))) (snd_ite (snd_ite (snd_leaf (k := 10) h10) (snd_leaf (k := 11) h11)) (snd_ite (snd_leaf (k := 14) h14) (snd_leaf (k := 15) h15)))
def pX10_hasMethod : Spc := inl kX10_hasMethod 1 13
theorem oX10_hasMethod : Ok 0 yX10_hasMethod cX10_hasMethod 1 (some .boolean) pX10_hasMethod := ok_inl (by decide) rfl sX10_hasMethod

def kX10_hasMethodAndTouch : Nat → Stq := fun pc => if pc < 14 then (if pc < 7 then (if pc < 1 then (if pc = 0 then s_ald 0 1 else s_bad) else (if pc < 4 then (if pc = 1 then s_getf 9 0 4 else s_bad) else (if pc = 4 then s_getf 8 2 7 else s_bad))) else (if pc < 10 then (if pc = 7 then s_ifle 24 10 else s_bad) else (if pc < 11 then (if pc = 10 then s_ald 0 11 else s_bad) else (if pc = 11 then s_getf 9 0 14 else s_bad)))) else (if pc < 21 then (if pc < 17 then (if pc = 14 then s_getf 8 6 17 else s_bad) else (if pc < 20 then (if pc = 17 then s_ifle 24 20 else s_bad) else (if pc = 20 then s_push (.int 1) 21 else s_bad))) else (if pc < 24 then (if pc = 21 then s_goto 25 else s_bad) else (if pc < 25 then (if pc = 24 then s_push (.int 0) 25 else s_bad) else (if pc = 25 then s_zret else s_bad))))
set_option maxRecDepth 20000 in
theorem sX10_hasMethodAndTouch : ∀ pc, Snd 0 RX10 cX10_hasMethodAndTouch 1 (some .boolean) (inM "hasMethodAndTouch") pc (kX10_hasMethodAndTouch pc) := by
  have h0 : Snd 0 RX10 cX10_hasMethodAndTouch 1 (some .boolean) (inM "hasMethodAndTouch") 0 (s_ald 0 1) := snd_aload_n (j := 0) (by decide +kernel) rfl
  have h1 : Snd 0 RX10 cX10_hasMethodAndTouch 1 (some .boolean) (inM "hasMethodAndTouch") 1 (s_getf 9 0 4) := snd_getf (T := TX10) (f := 0) cI_9 (by decide) g_361 (by decide +kernel)
  have h4 : Snd 0 RX10 cX10_hasMethodAndTouch 1 (some .boolean) (inM "hasMethodAndTouch") 4 (s_getf 8 2 7) := snd_getfN (T := TX9) (f := 2) cI_8 (by decide) g_107 (by decide +kernel)
  have h7 : Snd 0 RX10 cX10_hasMethodAndTouch 1 (some .boolean) (inM "hasMethodAndTouch") 7 (s_ifle 24 10) := snd_ifle (off := 17) (by decide +kernel) (by decide)
  have h10 : Snd 0 RX10 cX10_hasMethodAndTouch 1 (some .boolean) (inM "hasMethodAndTouch") 10 (s_ald 0 11) := snd_aload_n (j := 0) (by decide +kernel) rfl
  have h11 : Snd 0 RX10 cX10_hasMethodAndTouch 1 (some .boolean) (inM "hasMethodAndTouch") 11 (s_getf 9 0 14) := snd_getf (T := TX10) (f := 0) cI_9 (by decide) g_361 (by decide +kernel)
  have h14 : Snd 0 RX10 cX10_hasMethodAndTouch 1 (some .boolean) (inM "hasMethodAndTouch") 14 (s_getf 8 6 17) := snd_getfN (T := TX9) (f := 6) cI_8 (by decide) g_119 (by decide +kernel)
  have h17 : Snd 0 RX10 cX10_hasMethodAndTouch 1 (some .boolean) (inM "hasMethodAndTouch") 17 (s_ifle 24 20) := snd_ifle (off := 7) (by decide +kernel) (by decide)
  have h20 : Snd 0 RX10 cX10_hasMethodAndTouch 1 (some .boolean) (inM "hasMethodAndTouch") 20 (s_push (.int 1) 21) := snd_iconst (n := 1) (by decide +kernel) (by decide)
  have h21 : Snd 0 RX10 cX10_hasMethodAndTouch 1 (some .boolean) (inM "hasMethodAndTouch") 21 (s_goto 25) := snd_goto (off := 4) (by decide +kernel) (by decide)
  have h24 : Snd 0 RX10 cX10_hasMethodAndTouch 1 (some .boolean) (inM "hasMethodAndTouch") 24 (s_push (.int 0) 25) := snd_iconst (n := 0) (by decide +kernel) (by decide)
  have h25 : Snd 0 RX10 cX10_hasMethodAndTouch 1 (some .boolean) (inM "hasMethodAndTouch") 25 (s_zret) := snd_zret (by decide +kernel)
  exact fun pc => snd_ite (snd_ite (snd_ite (snd_leaf (k := 0) h0) (snd_ite (snd_leaf (k := 1) h1) (snd_leaf (k := 4) h4))) (snd_ite (snd_leaf (k := 7) h7) (snd_ite (snd_leaf (k := 10) h10) (snd_leaf (k := 11) h11)))) (snd_ite (snd_ite (snd_leaf (k := 14) h14) (snd_ite (snd_leaf (k := 17) h17) (snd_leaf (k := 20) h20))) (snd_ite (snd_leaf (k := 21) h21) (snd_ite (snd_leaf (k := 24) h24) (snd_leaf (k := 25) h25))))
def pX10_hasMethodAndTouch : Spc := inl kX10_hasMethodAndTouch 1 17
theorem oX10_hasMethodAndTouch : Ok 0 yX10_hasMethodAndTouch cX10_hasMethodAndTouch 1 (some .boolean) pX10_hasMethodAndTouch := ok_inl (by decide) rfl sX10_hasMethodAndTouch

def kX10_imageOf : Nat → Stq := fun pc => if pc < 8 then (if pc < 4 then (if pc < 1 then (if pc = 0 then s_ild 1 1 else s_bad) else (if pc = 1 then s_ifne 11 4 else s_bad)) else (if pc < 5 then (if pc = 4 then s_ald 0 5 else s_bad) else (if pc = 5 then s_getf 9 1 8 else s_bad))) else (if pc < 12 then (if pc < 11 then (if pc = 8 then s_goto 15 else s_bad) else (if pc = 11 then s_ald 0 12 else s_bad)) else (if pc < 15 then (if pc = 12 then s_getf 9 2 15 else s_bad) else (if pc = 15 then s_aret else s_bad)))
set_option maxRecDepth 20000 in
theorem sX10_imageOf : ∀ pc, Snd 0 RX10 cX10_imageOf 2 (some (.object "BellTouches$Setting")) (inM "imageOf") pc (kX10_imageOf pc) := by
  have h0 : Snd 0 RX10 cX10_imageOf 2 (some (.object "BellTouches$Setting")) (inM "imageOf") 0 (s_ild 1 1) := snd_iload_n (j := 1) (by decide +kernel) rfl
  have h1 : Snd 0 RX10 cX10_imageOf 2 (some (.object "BellTouches$Setting")) (inM "imageOf") 1 (s_ifne 11 4) := snd_ifne (off := 10) (by decide +kernel) (by decide)
  have h4 : Snd 0 RX10 cX10_imageOf 2 (some (.object "BellTouches$Setting")) (inM "imageOf") 4 (s_ald 0 5) := snd_aload_n (j := 0) (by decide +kernel) rfl
  have h5 : Snd 0 RX10 cX10_imageOf 2 (some (.object "BellTouches$Setting")) (inM "imageOf") 5 (s_getf 9 1 8) := snd_getf (T := TX10) (f := 1) cI_9 (by decide) g_362 (by decide +kernel)
  have h8 : Snd 0 RX10 cX10_imageOf 2 (some (.object "BellTouches$Setting")) (inM "imageOf") 8 (s_goto 15) := snd_goto (off := 7) (by decide +kernel) (by decide)
  have h11 : Snd 0 RX10 cX10_imageOf 2 (some (.object "BellTouches$Setting")) (inM "imageOf") 11 (s_ald 0 12) := snd_aload_n (j := 0) (by decide +kernel) rfl
  have h12 : Snd 0 RX10 cX10_imageOf 2 (some (.object "BellTouches$Setting")) (inM "imageOf") 12 (s_getf 9 2 15) := snd_getf (T := TX10) (f := 2) cI_9 (by decide) g_363 (by decide +kernel)
  have h15 : Snd 0 RX10 cX10_imageOf 2 (some (.object "BellTouches$Setting")) (inM "imageOf") 15 (s_aret) := snd_aret (by decide +kernel)
  exact fun pc => snd_ite (snd_ite (snd_ite (snd_leaf (k := 0) h0) (snd_leaf (k := 1) h1)) (snd_ite (snd_leaf (k := 4) h4) (snd_leaf (k := 5) h5))) (snd_ite (snd_ite (snd_leaf (k := 8) h8) (snd_leaf (k := 11) h11)) (snd_ite (snd_leaf (k := 12) h12) (snd_leaf (k := 15) h15)))
def pX10_imageOf : Spc := inl kX10_imageOf 2 13
theorem oX10_imageOf : Ok 0 yX10_imageOf cX10_imageOf 2 (some (.object "BellTouches$Setting")) pX10_imageOf := ok_inl (by decide) rfl sX10_imageOf

def kX10_wipe : Nat → Stq := fun pc => if pc < 9 then (if pc < 4 then (if pc < 1 then (if pc = 0 then s_ald 0 1 else s_bad) else (if pc = 1 then s_getf 9 4 4 else s_bad)) else (if pc < 7 then (if pc = 4 then s_getf 4 1 7 else s_bad) else (if pc < 8 then (if pc = 7 then s_ist 1 8 else s_bad) else (if pc = 8 then s_ald 0 9 else s_bad)))) else (if pc < 13 then (if pc < 12 then (if pc = 9 then s_getf 9 4 12 else s_bad) else (if pc = 12 then s_push (.int 0) 13 else s_bad)) else (if pc < 16 then (if pc = 13 then s_puti 4 1 16 else s_bad) else (if pc < 17 then (if pc = 16 then s_ild 1 17 else s_bad) else (if pc = 17 then s_iret else s_bad))))
set_option maxRecDepth 20000 in
theorem sX10_wipe : ∀ pc, Snd 0 RX10 cX10_wipe 2 (some .int) (inM "wipe") pc (kX10_wipe pc) := by
  have h0 : Snd 0 RX10 cX10_wipe 2 (some .int) (inM "wipe") 0 (s_ald 0 1) := snd_aload_n (j := 0) (by decide +kernel) rfl
  have h1 : Snd 0 RX10 cX10_wipe 2 (some .int) (inM "wipe") 1 (s_getf 9 4 4) := snd_getf (T := TX10) (f := 4) cI_9 (by decide) g_365 (by decide +kernel)
  have h4 : Snd 0 RX10 cX10_wipe 2 (some .int) (inM "wipe") 4 (s_getf 4 1 7) := snd_getfN (T := TX4) (f := 1) cI_4 (by decide) g_146 (by decide +kernel)
  have h7 : Snd 0 RX10 cX10_wipe 2 (some .int) (inM "wipe") 7 (s_ist 1 8) := snd_istore_n (j := 1) (by decide +kernel) rfl
  have h8 : Snd 0 RX10 cX10_wipe 2 (some .int) (inM "wipe") 8 (s_ald 0 9) := snd_aload_n (j := 0) (by decide +kernel) rfl
  have h9 : Snd 0 RX10 cX10_wipe 2 (some .int) (inM "wipe") 9 (s_getf 9 4 12) := snd_getf (T := TX10) (f := 4) cI_9 (by decide) g_365 (by decide +kernel)
  have h12 : Snd 0 RX10 cX10_wipe 2 (some .int) (inM "wipe") 12 (s_push (.int 0) 13) := snd_iconst (n := 0) (by decide +kernel) (by decide)
  have h13 : Snd 0 RX10 cX10_wipe 2 (some .int) (inM "wipe") 13 (s_puti 4 1 16) := snd_putiN (T := TX4) (f := 1) cI_4 (by decide) g_146 (by decide) (by decide +kernel) (by decide +kernel)
  have h16 : Snd 0 RX10 cX10_wipe 2 (some .int) (inM "wipe") 16 (s_ild 1 17) := snd_iload_n (j := 1) (by decide +kernel) rfl
  have h17 : Snd 0 RX10 cX10_wipe 2 (some .int) (inM "wipe") 17 (s_iret) := snd_iret (by decide +kernel)
  exact fun pc => snd_ite (snd_ite (snd_ite (snd_leaf (k := 0) h0) (snd_leaf (k := 1) h1)) (snd_ite (snd_leaf (k := 4) h4) (snd_ite (snd_leaf (k := 7) h7) (snd_leaf (k := 8) h8)))) (snd_ite (snd_ite (snd_leaf (k := 9) h9) (snd_leaf (k := 12) h12)) (snd_ite (snd_leaf (k := 13) h13) (snd_ite (snd_leaf (k := 16) h16) (snd_leaf (k := 17) h17))))
def pX10_wipe : Spc := inl kX10_wipe 2 15
theorem oX10_wipe : Ok 0 yX10_wipe cX10_wipe 2 (some .int) pX10_wipe := ok_inl (by decide) rfl sX10_wipe

def kX0_forget : Nat → Stq := fun pc => if pc < 2 then (if pc < 1 then (if pc = 0 then s_ald 0 1 else s_bad) else (if pc = 1 then s_push (.int 0) 2 else s_bad)) else (if pc < 5 then (if pc = 2 then s_putz 0 3 5 else s_bad) else (if pc = 5 then s_vret else s_bad))
set_option maxRecDepth 20000 in
theorem sX0_forget : ∀ pc, Snd 0 RX0 cX0_forget 1 none (inM "forget") pc (kX0_forget pc) := by
  have h0 : Snd 0 RX0 cX0_forget 1 none (inM "forget") 0 (s_ald 0 1) := snd_aload_n (j := 0) (by decide +kernel) rfl
  have h1 : Snd 0 RX0 cX0_forget 1 none (inM "forget") 1 (s_push (.int 0) 2) := snd_iconst (n := 0) (by decide +kernel) (by decide)
  have h2 : Snd 0 RX0 cX0_forget 1 none (inM "forget") 2 (s_putz 0 3 5) := snd_putz (T := TX0) (f := 3) cI_0 (by decide) g_270 (by decide) (by decide +kernel) (by decide +kernel)
  have h5 : Snd 0 RX0 cX0_forget 1 none (inM "forget") 5 (s_vret) := snd_vret (by decide +kernel)
  exact fun pc => snd_ite (snd_ite (snd_leaf (k := 0) h0) (snd_leaf (k := 1) h1)) (snd_ite (snd_leaf (k := 2) h2) (snd_leaf (k := 5) h5))
def pX0_forget : Spc := inl kX0_forget 1 9
theorem oX0_forget : Ok 0 yX0_forget cX0_forget 1 none pX0_forget := ok_inl (by decide) rfl sX0_forget

def kX0_numberAt : Nat → Stq := fun pc => if pc < 12 then (if pc < 5 then (if pc < 1 then (if pc = 0 then s_ild 1 1 else s_bad) else (if pc < 4 then (if pc = 1 then s_iflt 21 4 else s_bad) else (if pc = 4 then s_ild 1 5 else s_bad))) else (if pc < 6 then (if pc = 5 then s_ald 0 6 else s_bad) else (if pc < 9 then (if pc = 6 then s_getf 0 2 9 else s_bad) else (if pc = 9 then s_icge 21 12 else s_bad)))) else (if pc < 17 then (if pc < 13 then (if pc = 12 then s_ald 0 13 else s_bad) else (if pc < 16 then (if pc = 13 then s_getf 0 1 16 else s_bad) else (if pc = 16 then s_ild 1 17 else s_bad))) else (if pc < 21 then (if pc < 18 then (if pc = 17 then s_iald 18 else s_bad) else (if pc = 18 then s_goto 23 else s_bad)) else (if pc < 23 then (if pc = 21 then s_push (.int (-6)) 23 else s_bad) else (if pc = 23 then s_iret else s_bad))))
set_option maxRecDepth 20000 in
theorem sX0_numberAt : ∀ pc, Snd 0 RX0 cX0_numberAt 2 (some .int) (inM "numberAt") pc (kX0_numberAt pc) := by
  have h0 : Snd 0 RX0 cX0_numberAt 2 (some .int) (inM "numberAt") 0 (s_ild 1 1) := snd_iload_n (j := 1) (by decide +kernel) rfl
  have h1 : Snd 0 RX0 cX0_numberAt 2 (some .int) (inM "numberAt") 1 (s_iflt 21 4) := snd_iflt (off := 20) (by decide +kernel) (by decide)
  have h4 : Snd 0 RX0 cX0_numberAt 2 (some .int) (inM "numberAt") 4 (s_ild 1 5) := snd_iload_n (j := 1) (by decide +kernel) rfl
  have h5 : Snd 0 RX0 cX0_numberAt 2 (some .int) (inM "numberAt") 5 (s_ald 0 6) := snd_aload_n (j := 0) (by decide +kernel) rfl
  have h6 : Snd 0 RX0 cX0_numberAt 2 (some .int) (inM "numberAt") 6 (s_getf 0 2 9) := snd_getf (T := TX0) (f := 2) cI_0 (by decide) g_268 (by decide +kernel)
  have h9 : Snd 0 RX0 cX0_numberAt 2 (some .int) (inM "numberAt") 9 (s_icge 21 12) := snd_icge (off := 12) (by decide +kernel) (by decide)
  have h12 : Snd 0 RX0 cX0_numberAt 2 (some .int) (inM "numberAt") 12 (s_ald 0 13) := snd_aload_n (j := 0) (by decide +kernel) rfl
  have h13 : Snd 0 RX0 cX0_numberAt 2 (some .int) (inM "numberAt") 13 (s_getf 0 1 16) := snd_getf (T := TX0) (f := 1) cI_0 (by decide) g_267 (by decide +kernel)
  have h16 : Snd 0 RX0 cX0_numberAt 2 (some .int) (inM "numberAt") 16 (s_ild 1 17) := snd_iload_n (j := 1) (by decide +kernel) rfl
  have h17 : Snd 0 RX0 cX0_numberAt 2 (some .int) (inM "numberAt") 17 (s_iald 18) := snd_iald (by decide +kernel)
  have h18 : Snd 0 RX0 cX0_numberAt 2 (some .int) (inM "numberAt") 18 (s_goto 23) := snd_goto (off := 5) (by decide +kernel) (by decide)
  have h21 : Snd 0 RX0 cX0_numberAt 2 (some .int) (inM "numberAt") 21 (s_push (.int (-6)) 23) := snd_bipush (n := -6) (by decide +kernel) (by decide)
  have h23 : Snd 0 RX0 cX0_numberAt 2 (some .int) (inM "numberAt") 23 (s_iret) := snd_iret (by decide +kernel)
  exact fun pc => snd_ite (snd_ite (snd_ite (snd_leaf (k := 0) h0) (snd_ite (snd_leaf (k := 1) h1) (snd_leaf (k := 4) h4))) (snd_ite (snd_leaf (k := 5) h5) (snd_ite (snd_leaf (k := 6) h6) (snd_leaf (k := 9) h9)))) (snd_ite (snd_ite (snd_leaf (k := 12) h12) (snd_ite (snd_leaf (k := 13) h13) (snd_leaf (k := 16) h16))) (snd_ite (snd_ite (snd_leaf (k := 17) h17) (snd_leaf (k := 18) h18)) (snd_ite (snd_leaf (k := 21) h21) (snd_leaf (k := 23) h23))))
def pX0_numberAt : Spc := inl kX0_numberAt 2 18
theorem oX0_numberAt : Ok 0 yX0_numberAt cX0_numberAt 2 (some .int) pX0_numberAt := ok_inl (by decide) rfl sX0_numberAt

def kX1_endOf : Nat → Stq := fun pc => if pc < 11 then (if pc < 5 then (if pc < 1 then (if pc = 0 then s_ild 1 1 else s_bad) else (if pc < 4 then (if pc = 1 then s_ifne 9 4 else s_bad) else (if pc = 4 then s_ald 0 5 else s_bad))) else (if pc < 9 then (if pc < 8 then (if pc = 5 then s_getf 1 5 8 else s_bad) else (if pc = 8 then s_iret else s_bad)) else (if pc < 10 then (if pc = 9 then s_ild 1 10 else s_bad) else (if pc = 10 then s_push (.int 1) 11 else s_bad)))) else (if pc < 18 then (if pc < 14 then (if pc = 11 then s_icne 21 14 else s_bad) else (if pc < 15 then (if pc = 14 then s_ald 0 15 else s_bad) else (if pc = 15 then s_getf 1 6 18 else s_bad))) else (if pc < 22 then (if pc < 21 then (if pc = 18 then s_goto 25 else s_bad) else (if pc = 21 then s_ald 0 22 else s_bad)) else (if pc < 25 then (if pc = 22 then s_getf 1 7 25 else s_bad) else (if pc = 25 then s_iret else s_bad))))
set_option maxRecDepth 20000 in
theorem sX1_endOf : ∀ pc, Snd 0 RX1 cX1_endOf 2 (some .int) (inM "endOf") pc (kX1_endOf pc) := by
  have h0 : Snd 0 RX1 cX1_endOf 2 (some .int) (inM "endOf") 0 (s_ild 1 1) := snd_iload_n (j := 1) (by decide +kernel) rfl
  have h1 : Snd 0 RX1 cX1_endOf 2 (some .int) (inM "endOf") 1 (s_ifne 9 4) := snd_ifne (off := 8) (by decide +kernel) (by decide)
  have h4 : Snd 0 RX1 cX1_endOf 2 (some .int) (inM "endOf") 4 (s_ald 0 5) := snd_aload_n (j := 0) (by decide +kernel) rfl
  have h5 : Snd 0 RX1 cX1_endOf 2 (some .int) (inM "endOf") 5 (s_getf 1 5 8) := snd_getf (T := TX1) (f := 5) cI_1 (by decide) g_203 (by decide +kernel)
  have h8 : Snd 0 RX1 cX1_endOf 2 (some .int) (inM "endOf") 8 (s_iret) := snd_iret (by decide +kernel)
  have h9 : Snd 0 RX1 cX1_endOf 2 (some .int) (inM "endOf") 9 (s_ild 1 10) := snd_iload_n (j := 1) (by decide +kernel) rfl
  have h10 : Snd 0 RX1 cX1_endOf 2 (some .int) (inM "endOf") 10 (s_push (.int 1) 11) := snd_iconst (n := 1) (by decide +kernel) (by decide)
  have h11 : Snd 0 RX1 cX1_endOf 2 (some .int) (inM "endOf") 11 (s_icne 21 14) := snd_icne (off := 10) (by decide +kernel) (by decide)
  have h14 : Snd 0 RX1 cX1_endOf 2 (some .int) (inM "endOf") 14 (s_ald 0 15) := snd_aload_n (j := 0) (by decide +kernel) rfl
  have h15 : Snd 0 RX1 cX1_endOf 2 (some .int) (inM "endOf") 15 (s_getf 1 6 18) := snd_getf (T := TX1) (f := 6) cI_1 (by decide) g_204 (by decide +kernel)
  have h18 : Snd 0 RX1 cX1_endOf 2 (some .int) (inM "endOf") 18 (s_goto 25) := snd_goto (off := 7) (by decide +kernel) (by decide)
  have h21 : Snd 0 RX1 cX1_endOf 2 (some .int) (inM "endOf") 21 (s_ald 0 22) := snd_aload_n (j := 0) (by decide +kernel) rfl
  have h22 : Snd 0 RX1 cX1_endOf 2 (some .int) (inM "endOf") 22 (s_getf 1 7 25) := snd_getf (T := TX1) (f := 7) cI_1 (by decide) g_205 (by decide +kernel)
  have h25 : Snd 0 RX1 cX1_endOf 2 (some .int) (inM "endOf") 25 (s_iret) := snd_iret (by decide +kernel)
  exact fun pc => snd_ite (snd_ite (snd_ite (snd_leaf (k := 0) h0) (snd_ite (snd_leaf (k := 1) h1) (snd_leaf (k := 4) h4))) (snd_ite (snd_ite (snd_leaf (k := 5) h5) (snd_leaf (k := 8) h8)) (snd_ite (snd_leaf (k := 9) h9) (snd_leaf (k := 10) h10)))) (snd_ite (snd_ite (snd_leaf (k := 11) h11) (snd_ite (snd_leaf (k := 14) h14) (snd_leaf (k := 15) h15))) (snd_ite (snd_ite (snd_leaf (k := 18) h18) (snd_leaf (k := 21) h21)) (snd_ite (snd_leaf (k := 22) h22) (snd_leaf (k := 25) h25))))
def pX1_endOf : Spc := inl kX1_endOf 2 19
theorem oX1_endOf : Ok 0 yX1_endOf cX1_endOf 2 (some .int) pX1_endOf := ok_inl (by decide) rfl sX1_endOf

def kX2_letterOf : Nat → Stq := fun pc => if pc < 3 then (if pc < 1 then (if pc = 0 then s_ild 0 1 else s_bad) else (if pc < 2 then (if pc = 1 then s_push (.int 1) 2 else s_bad) else (if pc = 2 then s_isub 3 else s_bad))) else (if pc < 4 then (if pc = 3 then s_push (.int 3) 4 else s_bad) else (if pc < 5 then (if pc = 4 then s_irem 5 else s_bad) else (if pc = 5 then s_iret else s_bad)))
set_option maxRecDepth 20000 in
theorem sX2_letterOf : ∀ pc, Snd 0 RX2 cX2_letterOf 1 (some .int) (inM "letterOf") pc (kX2_letterOf pc) := by
  have h0 : Snd 0 RX2 cX2_letterOf 1 (some .int) (inM "letterOf") 0 (s_ild 0 1) := snd_iload_n (j := 0) (by decide +kernel) rfl
  have h1 : Snd 0 RX2 cX2_letterOf 1 (some .int) (inM "letterOf") 1 (s_push (.int 1) 2) := snd_iconst (n := 1) (by decide +kernel) (by decide)
  have h2 : Snd 0 RX2 cX2_letterOf 1 (some .int) (inM "letterOf") 2 (s_isub 3) := snd_isub (by decide +kernel)
  have h3 : Snd 0 RX2 cX2_letterOf 1 (some .int) (inM "letterOf") 3 (s_push (.int 3) 4) := snd_iconst (n := 3) (by decide +kernel) (by decide)
  have h4 : Snd 0 RX2 cX2_letterOf 1 (some .int) (inM "letterOf") 4 (s_irem 5) := snd_irem (by decide +kernel)
  have h5 : Snd 0 RX2 cX2_letterOf 1 (some .int) (inM "letterOf") 5 (s_iret) := snd_iret (by decide +kernel)
  exact fun pc => snd_ite (snd_ite (snd_leaf (k := 0) h0) (snd_ite (snd_leaf (k := 1) h1) (snd_leaf (k := 2) h2))) (snd_ite (snd_leaf (k := 3) h3) (snd_ite (snd_leaf (k := 4) h4) (snd_leaf (k := 5) h5)))
def pX2_letterOf : Spc := inl kX2_letterOf 1 11
theorem oX2_letterOf : Ok 0 yX2_letterOf cX2_letterOf 1 (some .int) pX2_letterOf := ok_inl (by decide) rfl sX2_letterOf

def kX2_parentOf : Nat → Stq := fun pc => if pc < 3 then (if pc < 1 then (if pc = 0 then s_ild 0 1 else s_bad) else (if pc < 2 then (if pc = 1 then s_push (.int 1) 2 else s_bad) else (if pc = 2 then s_isub 3 else s_bad))) else (if pc < 4 then (if pc = 3 then s_push (.int 3) 4 else s_bad) else (if pc < 5 then (if pc = 4 then s_idiv 5 else s_bad) else (if pc = 5 then s_iret else s_bad)))
set_option maxRecDepth 20000 in
theorem sX2_parentOf : ∀ pc, Snd 0 RX2 cX2_parentOf 1 (some .int) (inM "parentOf") pc (kX2_parentOf pc) := by
  have h0 : Snd 0 RX2 cX2_parentOf 1 (some .int) (inM "parentOf") 0 (s_ild 0 1) := snd_iload_n (j := 0) (by decide +kernel) rfl
  have h1 : Snd 0 RX2 cX2_parentOf 1 (some .int) (inM "parentOf") 1 (s_push (.int 1) 2) := snd_iconst (n := 1) (by decide +kernel) (by decide)
  have h2 : Snd 0 RX2 cX2_parentOf 1 (some .int) (inM "parentOf") 2 (s_isub 3) := snd_isub (by decide +kernel)
  have h3 : Snd 0 RX2 cX2_parentOf 1 (some .int) (inM "parentOf") 3 (s_push (.int 3) 4) := snd_iconst (n := 3) (by decide +kernel) (by decide)
  have h4 : Snd 0 RX2 cX2_parentOf 1 (some .int) (inM "parentOf") 4 (s_idiv 5) := snd_idiv (by decide +kernel)
  have h5 : Snd 0 RX2 cX2_parentOf 1 (some .int) (inM "parentOf") 5 (s_iret) := snd_iret (by decide +kernel)
  exact fun pc => snd_ite (snd_ite (snd_leaf (k := 0) h0) (snd_ite (snd_leaf (k := 1) h1) (snd_leaf (k := 2) h2))) (snd_ite (snd_leaf (k := 3) h3) (snd_ite (snd_leaf (k := 4) h4) (snd_leaf (k := 5) h5)))
def pX2_parentOf : Spc := inl kX2_parentOf 1 11
theorem oX2_parentOf : Ok 0 yX2_parentOf cX2_parentOf 1 (some .int) pX2_parentOf := ok_inl (by decide) rfl sX2_parentOf

def kX3_addSet : Nat → Stq := fun pc => if pc < 19 then (if pc < 10 then (if pc < 4 then (if pc < 1 then (if pc = 0 then s_ald 0 1 else s_bad) else (if pc = 1 then s_getf 3 4 4 else s_bad)) else (if pc < 6 then (if pc = 4 then s_push (.int 40) 6 else s_bad) else (if pc < 9 then (if pc = 6 then s_iclt 11 9 else s_bad) else (if pc = 9 then s_push (.int 0) 10 else s_bad)))) else (if pc < 12 then (if pc < 11 then (if pc = 10 then s_zret else s_bad) else (if pc = 11 then s_ald 0 12 else s_bad)) else (if pc < 15 then (if pc = 12 then s_getf 3 3 15 else s_bad) else (if pc < 16 then (if pc = 15 then s_ald 0 16 else s_bad) else (if pc = 16 then s_getf 3 4 19 else s_bad))))) else (if pc < 26 then (if pc < 21 then (if pc < 20 then (if pc = 19 then s_push (.int 0) 20 else s_bad) else (if pc = 20 then s_iast 21 else s_bad)) else (if pc < 22 then (if pc = 21 then s_ald 0 22 else s_bad) else (if pc < 23 then (if pc = 22 then s_dup 23 else s_bad) else (if pc = 23 then s_getf 3 4 26 else s_bad)))) else (if pc < 28 then (if pc < 27 then (if pc = 26 then s_push (.int 1) 27 else s_bad) else (if pc = 27 then s_iadd 28 else s_bad)) else (if pc < 31 then (if pc = 28 then s_puti 3 4 31 else s_bad) else (if pc < 32 then (if pc = 31 then s_push (.int 1) 32 else s_bad) else (if pc = 32 then s_zret else s_bad)))))
set_option maxRecDepth 20000 in
theorem sX3_addSet : ∀ pc, Snd 0 RX3 cX3_addSet 1 (some .boolean) (inM "addSet") pc (kX3_addSet pc) := by
  have h0 : Snd 0 RX3 cX3_addSet 1 (some .boolean) (inM "addSet") 0 (s_ald 0 1) := snd_aload_n (j := 0) (by decide +kernel) rfl
  have h1 : Snd 0 RX3 cX3_addSet 1 (some .boolean) (inM "addSet") 1 (s_getf 3 4 4) := snd_getf (T := TX3) (f := 4) cI_3 (by decide) g_162 (by decide +kernel)
  have h4 : Snd 0 RX3 cX3_addSet 1 (some .boolean) (inM "addSet") 4 (s_push (.int 40) 6) := snd_bipush (n := 40) (by decide +kernel) (by decide)
  have h6 : Snd 0 RX3 cX3_addSet 1 (some .boolean) (inM "addSet") 6 (s_iclt 11 9) := snd_iclt (off := 5) (by decide +kernel) (by decide)
  have h9 : Snd 0 RX3 cX3_addSet 1 (some .boolean) (inM "addSet") 9 (s_push (.int 0) 10) := snd_iconst (n := 0) (by decide +kernel) (by decide)
  have h10 : Snd 0 RX3 cX3_addSet 1 (some .boolean) (inM "addSet") 10 (s_zret) := snd_zret (by decide +kernel)
  have h11 : Snd 0 RX3 cX3_addSet 1 (some .boolean) (inM "addSet") 11 (s_ald 0 12) := snd_aload_n (j := 0) (by decide +kernel) rfl
  have h12 : Snd 0 RX3 cX3_addSet 1 (some .boolean) (inM "addSet") 12 (s_getf 3 3 15) := snd_getf (T := TX3) (f := 3) cI_3 (by decide) g_161 (by decide +kernel)
  have h15 : Snd 0 RX3 cX3_addSet 1 (some .boolean) (inM "addSet") 15 (s_ald 0 16) := snd_aload_n (j := 0) (by decide +kernel) rfl
  have h16 : Snd 0 RX3 cX3_addSet 1 (some .boolean) (inM "addSet") 16 (s_getf 3 4 19) := snd_getf (T := TX3) (f := 4) cI_3 (by decide) g_162 (by decide +kernel)
  have h19 : Snd 0 RX3 cX3_addSet 1 (some .boolean) (inM "addSet") 19 (s_push (.int 0) 20) := snd_iconst (n := 0) (by decide +kernel) (by decide)
  have h20 : Snd 0 RX3 cX3_addSet 1 (some .boolean) (inM "addSet") 20 (s_iast 21) := snd_iast (by decide +kernel)
  have h21 : Snd 0 RX3 cX3_addSet 1 (some .boolean) (inM "addSet") 21 (s_ald 0 22) := snd_aload_n (j := 0) (by decide +kernel) rfl
  have h22 : Snd 0 RX3 cX3_addSet 1 (some .boolean) (inM "addSet") 22 (s_dup 23) := snd_dup (by decide +kernel)
  have h23 : Snd 0 RX3 cX3_addSet 1 (some .boolean) (inM "addSet") 23 (s_getf 3 4 26) := snd_getf (T := TX3) (f := 4) cI_3 (by decide) g_162 (by decide +kernel)
  have h26 : Snd 0 RX3 cX3_addSet 1 (some .boolean) (inM "addSet") 26 (s_push (.int 1) 27) := snd_iconst (n := 1) (by decide +kernel) (by decide)
  have h27 : Snd 0 RX3 cX3_addSet 1 (some .boolean) (inM "addSet") 27 (s_iadd 28) := snd_iadd (by decide +kernel)
  have h28 : Snd 0 RX3 cX3_addSet 1 (some .boolean) (inM "addSet") 28 (s_puti 3 4 31) := snd_puti (T := TX3) (f := 4) cI_3 (by decide) g_162 (by decide) (by decide +kernel) (by decide +kernel)
  have h31 : Snd 0 RX3 cX3_addSet 1 (some .boolean) (inM "addSet") 31 (s_push (.int 1) 32) := snd_iconst (n := 1) (by decide +kernel) (by decide)
  have h32 : Snd 0 RX3 cX3_addSet 1 (some .boolean) (inM "addSet") 32 (s_zret) := snd_zret (by decide +kernel)
  exact fun pc => snd_ite (snd_ite (snd_ite (snd_ite (snd_leaf (k := 0) h0) (snd_leaf (k := 1) h1)) (snd_ite (snd_leaf (k := 4) h4) (snd_ite (snd_leaf (k := 6) h6) (snd_leaf (k := 9) h9)))) (snd_ite (snd_ite (snd_leaf (k := 10) h10) (snd_leaf (k := 11) h11)) (snd_ite (snd_leaf (k := 12) h12) (snd_ite (snd_leaf (k := 15) h15) (snd_leaf (k := 16) h16))))) (snd_ite (snd_ite (snd_ite (snd_leaf (k := 19) h19) (snd_leaf (k := 20) h20)) (snd_ite (snd_leaf (k := 21) h21) (snd_ite (snd_leaf (k := 22) h22) (snd_leaf (k := 23) h23)))) (snd_ite (snd_ite (snd_leaf (k := 26) h26) (snd_leaf (k := 27) h27)) (snd_ite (snd_leaf (k := 28) h28) (snd_ite (snd_leaf (k := 31) h31) (snd_leaf (k := 32) h32)))))
def pX3_addSet : Spc := inl kX3_addSet 1 25
theorem oX3_addSet : Ok 0 yX3_addSet cX3_addSet 1 (some .boolean) pX3_addSet := ok_inl (by decide) rfl sX3_addSet

def kX3_changeCanEnd : Nat → Stq := fun pc => if pc < 19 then (if pc < 8 then (if pc < 4 then (if pc < 1 then (if pc = 0 then s_ald 0 1 else s_bad) else (if pc = 1 then s_getf 3 2 4 else s_bad)) else (if pc < 5 then (if pc = 4 then s_push (.int (-1)) 5 else s_bad) else (if pc = 5 then s_iceq 29 8 else s_bad))) else (if pc < 12 then (if pc < 9 then (if pc = 8 then s_ald 0 9 else s_bad) else (if pc = 9 then s_getf 3 2 12 else s_bad)) else (if pc < 15 then (if pc = 12 then s_ifle 33 15 else s_bad) else (if pc < 16 then (if pc = 15 then s_ald 0 16 else s_bad) else (if pc = 16 then s_getf 3 0 19 else s_bad))))) else (if pc < 26 then (if pc < 23 then (if pc < 20 then (if pc = 19 then s_ald 0 20 else s_bad) else (if pc = 20 then s_getf 3 2 23 else s_bad)) else (if pc < 24 then (if pc = 23 then s_isub 24 else s_bad) else (if pc < 25 then (if pc = 24 then s_push (.int 2) 25 else s_bad) else (if pc = 25 then s_irem 26 else s_bad)))) else (if pc < 30 then (if pc < 29 then (if pc = 26 then s_ifne 33 29 else s_bad) else (if pc = 29 then s_push (.int 1) 30 else s_bad)) else (if pc < 33 then (if pc = 30 then s_goto 34 else s_bad) else (if pc < 34 then (if pc = 33 then s_push (.int 0) 34 else s_bad) else (if pc = 34 then s_zret else s_bad)))))
set_option maxRecDepth 20000 in
theorem sX3_changeCanEnd : ∀ pc, Snd 0 RX3 cX3_changeCanEnd 1 (some .boolean) (inM "changeCanEnd") pc (kX3_changeCanEnd pc) := by
  have h0 : Snd 0 RX3 cX3_changeCanEnd 1 (some .boolean) (inM "changeCanEnd") 0 (s_ald 0 1) := snd_aload_n (j := 0) (by decide +kernel) rfl
  have h1 : Snd 0 RX3 cX3_changeCanEnd 1 (some .boolean) (inM "changeCanEnd") 1 (s_getf 3 2 4) := snd_getf (T := TX3) (f := 2) cI_3 (by decide) g_160 (by decide +kernel)
  have h4 : Snd 0 RX3 cX3_changeCanEnd 1 (some .boolean) (inM "changeCanEnd") 4 (s_push (.int (-1)) 5) := snd_iconst (n := -1) (by decide +kernel) (by decide)
  have h5 : Snd 0 RX3 cX3_changeCanEnd 1 (some .boolean) (inM "changeCanEnd") 5 (s_iceq 29 8) := snd_iceq (off := 24) (by decide +kernel) (by decide)
  have h8 : Snd 0 RX3 cX3_changeCanEnd 1 (some .boolean) (inM "changeCanEnd") 8 (s_ald 0 9) := snd_aload_n (j := 0) (by decide +kernel) rfl
  have h9 : Snd 0 RX3 cX3_changeCanEnd 1 (some .boolean) (inM "changeCanEnd") 9 (s_getf 3 2 12) := snd_getf (T := TX3) (f := 2) cI_3 (by decide) g_160 (by decide +kernel)
  have h12 : Snd 0 RX3 cX3_changeCanEnd 1 (some .boolean) (inM "changeCanEnd") 12 (s_ifle 33 15) := snd_ifle (off := 21) (by decide +kernel) (by decide)
  have h15 : Snd 0 RX3 cX3_changeCanEnd 1 (some .boolean) (inM "changeCanEnd") 15 (s_ald 0 16) := snd_aload_n (j := 0) (by decide +kernel) rfl
  have h16 : Snd 0 RX3 cX3_changeCanEnd 1 (some .boolean) (inM "changeCanEnd") 16 (s_getf 3 0 19) := snd_getf (T := TX3) (f := 0) cI_3 (by decide) g_158 (by decide +kernel)
  have h19 : Snd 0 RX3 cX3_changeCanEnd 1 (some .boolean) (inM "changeCanEnd") 19 (s_ald 0 20) := snd_aload_n (j := 0) (by decide +kernel) rfl
  have h20 : Snd 0 RX3 cX3_changeCanEnd 1 (some .boolean) (inM "changeCanEnd") 20 (s_getf 3 2 23) := snd_getf (T := TX3) (f := 2) cI_3 (by decide) g_160 (by decide +kernel)
  have h23 : Snd 0 RX3 cX3_changeCanEnd 1 (some .boolean) (inM "changeCanEnd") 23 (s_isub 24) := snd_isub (by decide +kernel)
  have h24 : Snd 0 RX3 cX3_changeCanEnd 1 (some .boolean) (inM "changeCanEnd") 24 (s_push (.int 2) 25) := snd_iconst (n := 2) (by decide +kernel) (by decide)
  have h25 : Snd 0 RX3 cX3_changeCanEnd 1 (some .boolean) (inM "changeCanEnd") 25 (s_irem 26) := snd_irem (by decide +kernel)
  have h26 : Snd 0 RX3 cX3_changeCanEnd 1 (some .boolean) (inM "changeCanEnd") 26 (s_ifne 33 29) := snd_ifne (off := 7) (by decide +kernel) (by decide)
  have h29 : Snd 0 RX3 cX3_changeCanEnd 1 (some .boolean) (inM "changeCanEnd") 29 (s_push (.int 1) 30) := snd_iconst (n := 1) (by decide +kernel) (by decide)
  have h30 : Snd 0 RX3 cX3_changeCanEnd 1 (some .boolean) (inM "changeCanEnd") 30 (s_goto 34) := snd_goto (off := 4) (by decide +kernel) (by decide)
  have h33 : Snd 0 RX3 cX3_changeCanEnd 1 (some .boolean) (inM "changeCanEnd") 33 (s_push (.int 0) 34) := snd_iconst (n := 0) (by decide +kernel) (by decide)
  have h34 : Snd 0 RX3 cX3_changeCanEnd 1 (some .boolean) (inM "changeCanEnd") 34 (s_zret) := snd_zret (by decide +kernel)
  exact fun pc => snd_ite (snd_ite (snd_ite (snd_ite (snd_leaf (k := 0) h0) (snd_leaf (k := 1) h1)) (snd_ite (snd_leaf (k := 4) h4) (snd_leaf (k := 5) h5))) (snd_ite (snd_ite (snd_leaf (k := 8) h8) (snd_leaf (k := 9) h9)) (snd_ite (snd_leaf (k := 12) h12) (snd_ite (snd_leaf (k := 15) h15) (snd_leaf (k := 16) h16))))) (snd_ite (snd_ite (snd_ite (snd_leaf (k := 19) h19) (snd_leaf (k := 20) h20)) (snd_ite (snd_leaf (k := 23) h23) (snd_ite (snd_leaf (k := 24) h24) (snd_leaf (k := 25) h25)))) (snd_ite (snd_ite (snd_leaf (k := 26) h26) (snd_leaf (k := 29) h29)) (snd_ite (snd_leaf (k := 30) h30) (snd_ite (snd_leaf (k := 33) h33) (snd_leaf (k := 34) h34)))))
def pX3_changeCanEnd : Spc := inl kX3_changeCanEnd 1 24
theorem oX3_changeCanEnd : Ok 0 yX3_changeCanEnd cX3_changeCanEnd 1 (some .boolean) pX3_changeCanEnd := ok_inl (by decide) rfl sX3_changeCanEnd

def kX3_firstChange : Nat → Stq := fun pc => if pc < 4 then (if pc < 1 then (if pc = 0 then s_ald 0 1 else s_bad) else (if pc = 1 then s_getf 3 3 4 else s_bad)) else (if pc < 5 then (if pc = 4 then s_push (.int 0) 5 else s_bad) else (if pc < 6 then (if pc = 5 then s_iald 6 else s_bad) else (if pc = 6 then s_iret else s_bad)))
set_option maxRecDepth 20000 in
theorem sX3_firstChange : ∀ pc, Snd 0 RX3 cX3_firstChange 1 (some .int) (inM "firstChange") pc (kX3_firstChange pc) := by
  have h0 : Snd 0 RX3 cX3_firstChange 1 (some .int) (inM "firstChange") 0 (s_ald 0 1) := snd_aload_n (j := 0) (by decide +kernel) rfl
  have h1 : Snd 0 RX3 cX3_firstChange 1 (some .int) (inM "firstChange") 1 (s_getf 3 3 4) := snd_getf (T := TX3) (f := 3) cI_3 (by decide) g_161 (by decide +kernel)
  have h4 : Snd 0 RX3 cX3_firstChange 1 (some .int) (inM "firstChange") 4 (s_push (.int 0) 5) := snd_iconst (n := 0) (by decide +kernel) (by decide)
  have h5 : Snd 0 RX3 cX3_firstChange 1 (some .int) (inM "firstChange") 5 (s_iald 6) := snd_iald (by decide +kernel)
  have h6 : Snd 0 RX3 cX3_firstChange 1 (some .int) (inM "firstChange") 6 (s_iret) := snd_iret (by decide +kernel)
  exact fun pc => snd_ite (snd_ite (snd_leaf (k := 0) h0) (snd_leaf (k := 1) h1)) (snd_ite (snd_leaf (k := 4) h4) (snd_ite (snd_leaf (k := 5) h5) (snd_leaf (k := 6) h6)))
def pX3_firstChange : Spc := inl kX3_firstChange 1 10
theorem oX3_firstChange : Ok 0 yX3_firstChange cX3_firstChange 1 (some .int) pX3_firstChange := ok_inl (by decide) rfl sX3_firstChange

def kX3_length : Nat → Stq := fun pc => if pc < 16 then (if pc < 6 then (if pc < 1 then (if pc = 0 then s_ald 0 1 else s_bad) else (if pc < 4 then (if pc = 1 then s_getf 3 5 4 else s_bad) else (if pc = 4 then s_push (.int (-6)) 6 else s_bad))) else (if pc < 10 then (if pc < 9 then (if pc = 6 then s_icne 16 9 else s_bad) else (if pc = 9 then s_ald 0 10 else s_bad)) else (if pc < 13 then (if pc = 10 then s_getf 3 4 13 else s_bad) else (if pc = 13 then s_goto 24 else s_bad)))) else (if pc < 21 then (if pc < 17 then (if pc = 16 then s_push (.int 2) 17 else s_bad) else (if pc < 18 then (if pc = 17 then s_ald 0 18 else s_bad) else (if pc = 18 then s_getf 3 4 21 else s_bad))) else (if pc < 23 then (if pc < 22 then (if pc = 21 then s_imul 22 else s_bad) else (if pc = 22 then s_push (.int 2) 23 else s_bad)) else (if pc < 24 then (if pc = 23 then s_isub 24 else s_bad) else (if pc = 24 then s_iret else s_bad))))
set_option maxRecDepth 20000 in
theorem sX3_length : ∀ pc, Snd 0 RX3 cX3_length 1 (some .int) (inM "length") pc (kX3_length pc) := by
  have h0 : Snd 0 RX3 cX3_length 1 (some .int) (inM "length") 0 (s_ald 0 1) := snd_aload_n (j := 0) (by decide +kernel) rfl
  have h1 : Snd 0 RX3 cX3_length 1 (some .int) (inM "length") 1 (s_getf 3 5 4) := snd_getf (T := TX3) (f := 5) cI_3 (by decide) g_163 (by decide +kernel)
  have h4 : Snd 0 RX3 cX3_length 1 (some .int) (inM "length") 4 (s_push (.int (-6)) 6) := snd_bipush (n := -6) (by decide +kernel) (by decide)
  have h6 : Snd 0 RX3 cX3_length 1 (some .int) (inM "length") 6 (s_icne 16 9) := snd_icne (off := 10) (by decide +kernel) (by decide)
  have h9 : Snd 0 RX3 cX3_length 1 (some .int) (inM "length") 9 (s_ald 0 10) := snd_aload_n (j := 0) (by decide +kernel) rfl
  have h10 : Snd 0 RX3 cX3_length 1 (some .int) (inM "length") 10 (s_getf 3 4 13) := snd_getf (T := TX3) (f := 4) cI_3 (by decide) g_162 (by decide +kernel)
  have h13 : Snd 0 RX3 cX3_length 1 (some .int) (inM "length") 13 (s_goto 24) := snd_goto (off := 11) (by decide +kernel) (by decide)
  have h16 : Snd 0 RX3 cX3_length 1 (some .int) (inM "length") 16 (s_push (.int 2) 17) := snd_iconst (n := 2) (by decide +kernel) (by decide)
  have h17 : Snd 0 RX3 cX3_length 1 (some .int) (inM "length") 17 (s_ald 0 18) := snd_aload_n (j := 0) (by decide +kernel) rfl
  have h18 : Snd 0 RX3 cX3_length 1 (some .int) (inM "length") 18 (s_getf 3 4 21) := snd_getf (T := TX3) (f := 4) cI_3 (by decide) g_162 (by decide +kernel)
  have h21 : Snd 0 RX3 cX3_length 1 (some .int) (inM "length") 21 (s_imul 22) := snd_imul (by decide +kernel)
  have h22 : Snd 0 RX3 cX3_length 1 (some .int) (inM "length") 22 (s_push (.int 2) 23) := snd_iconst (n := 2) (by decide +kernel) (by decide)
  have h23 : Snd 0 RX3 cX3_length 1 (some .int) (inM "length") 23 (s_isub 24) := snd_isub (by decide +kernel)
  have h24 : Snd 0 RX3 cX3_length 1 (some .int) (inM "length") 24 (s_iret) := snd_iret (by decide +kernel)
  exact fun pc => snd_ite (snd_ite (snd_ite (snd_leaf (k := 0) h0) (snd_ite (snd_leaf (k := 1) h1) (snd_leaf (k := 4) h4))) (snd_ite (snd_ite (snd_leaf (k := 6) h6) (snd_leaf (k := 9) h9)) (snd_ite (snd_leaf (k := 10) h10) (snd_leaf (k := 13) h13)))) (snd_ite (snd_ite (snd_leaf (k := 16) h16) (snd_ite (snd_leaf (k := 17) h17) (snd_leaf (k := 18) h18))) (snd_ite (snd_ite (snd_leaf (k := 21) h21) (snd_leaf (k := 22) h22)) (snd_ite (snd_leaf (k := 23) h23) (snd_leaf (k := 24) h24))))
def pX3_length : Spc := inl kX3_length 1 19
theorem oX3_length : Ok 0 yX3_length cX3_length 1 (some .int) pX3_length := ok_inl (by decide) rfl sX3_length

def kX4_add : Nat → Stq := fun pc => if pc < 19 then (if pc < 10 then (if pc < 4 then (if pc < 1 then (if pc = 0 then s_ald 0 1 else s_bad) else (if pc = 1 then s_getf 4 1 4 else s_bad)) else (if pc < 6 then (if pc = 4 then s_push (.int 40) 6 else s_bad) else (if pc < 9 then (if pc = 6 then s_iclt 11 9 else s_bad) else (if pc = 9 then s_push (.int 0) 10 else s_bad)))) else (if pc < 12 then (if pc < 11 then (if pc = 10 then s_zret else s_bad) else (if pc = 11 then s_ald 0 12 else s_bad)) else (if pc < 15 then (if pc = 12 then s_getf 4 0 15 else s_bad) else (if pc < 16 then (if pc = 15 then s_ald 0 16 else s_bad) else (if pc = 16 then s_getf 4 1 19 else s_bad))))) else (if pc < 26 then (if pc < 21 then (if pc < 20 then (if pc = 19 then s_ild 1 20 else s_bad) else (if pc = 20 then s_iast 21 else s_bad)) else (if pc < 22 then (if pc = 21 then s_ald 0 22 else s_bad) else (if pc < 23 then (if pc = 22 then s_dup 23 else s_bad) else (if pc = 23 then s_getf 4 1 26 else s_bad)))) else (if pc < 28 then (if pc < 27 then (if pc = 26 then s_push (.int 1) 27 else s_bad) else (if pc = 27 then s_iadd 28 else s_bad)) else (if pc < 31 then (if pc = 28 then s_puti 4 1 31 else s_bad) else (if pc < 32 then (if pc = 31 then s_push (.int 1) 32 else s_bad) else (if pc = 32 then s_zret else s_bad)))))
set_option maxRecDepth 20000 in
theorem sX4_add : ∀ pc, Snd 0 RX4 cX4_add 2 (some .boolean) (inM "add") pc (kX4_add pc) := by
  have h0 : Snd 0 RX4 cX4_add 2 (some .boolean) (inM "add") 0 (s_ald 0 1) := snd_aload_n (j := 0) (by decide +kernel) rfl
  have h1 : Snd 0 RX4 cX4_add 2 (some .boolean) (inM "add") 1 (s_getf 4 1 4) := snd_getf (T := TX4) (f := 1) cI_4 (by decide) g_144 (by decide +kernel)
  have h4 : Snd 0 RX4 cX4_add 2 (some .boolean) (inM "add") 4 (s_push (.int 40) 6) := snd_bipush (n := 40) (by decide +kernel) (by decide)
  have h6 : Snd 0 RX4 cX4_add 2 (some .boolean) (inM "add") 6 (s_iclt 11 9) := snd_iclt (off := 5) (by decide +kernel) (by decide)
  have h9 : Snd 0 RX4 cX4_add 2 (some .boolean) (inM "add") 9 (s_push (.int 0) 10) := snd_iconst (n := 0) (by decide +kernel) (by decide)
  have h10 : Snd 0 RX4 cX4_add 2 (some .boolean) (inM "add") 10 (s_zret) := snd_zret (by decide +kernel)
  have h11 : Snd 0 RX4 cX4_add 2 (some .boolean) (inM "add") 11 (s_ald 0 12) := snd_aload_n (j := 0) (by decide +kernel) rfl
  have h12 : Snd 0 RX4 cX4_add 2 (some .boolean) (inM "add") 12 (s_getf 4 0 15) := snd_getf (T := TX4) (f := 0) cI_4 (by decide) g_142 (by decide +kernel)
  have h15 : Snd 0 RX4 cX4_add 2 (some .boolean) (inM "add") 15 (s_ald 0 16) := snd_aload_n (j := 0) (by decide +kernel) rfl
  have h16 : Snd 0 RX4 cX4_add 2 (some .boolean) (inM "add") 16 (s_getf 4 1 19) := snd_getf (T := TX4) (f := 1) cI_4 (by decide) g_144 (by decide +kernel)
  have h19 : Snd 0 RX4 cX4_add 2 (some .boolean) (inM "add") 19 (s_ild 1 20) := snd_iload_n (j := 1) (by decide +kernel) rfl
  have h20 : Snd 0 RX4 cX4_add 2 (some .boolean) (inM "add") 20 (s_iast 21) := snd_iast (by decide +kernel)
  have h21 : Snd 0 RX4 cX4_add 2 (some .boolean) (inM "add") 21 (s_ald 0 22) := snd_aload_n (j := 0) (by decide +kernel) rfl
  have h22 : Snd 0 RX4 cX4_add 2 (some .boolean) (inM "add") 22 (s_dup 23) := snd_dup (by decide +kernel)
  have h23 : Snd 0 RX4 cX4_add 2 (some .boolean) (inM "add") 23 (s_getf 4 1 26) := snd_getf (T := TX4) (f := 1) cI_4 (by decide) g_144 (by decide +kernel)
  have h26 : Snd 0 RX4 cX4_add 2 (some .boolean) (inM "add") 26 (s_push (.int 1) 27) := snd_iconst (n := 1) (by decide +kernel) (by decide)
  have h27 : Snd 0 RX4 cX4_add 2 (some .boolean) (inM "add") 27 (s_iadd 28) := snd_iadd (by decide +kernel)
  have h28 : Snd 0 RX4 cX4_add 2 (some .boolean) (inM "add") 28 (s_puti 4 1 31) := snd_puti (T := TX4) (f := 1) cI_4 (by decide) g_144 (by decide) (by decide +kernel) (by decide +kernel)
  have h31 : Snd 0 RX4 cX4_add 2 (some .boolean) (inM "add") 31 (s_push (.int 1) 32) := snd_iconst (n := 1) (by decide +kernel) (by decide)
  have h32 : Snd 0 RX4 cX4_add 2 (some .boolean) (inM "add") 32 (s_zret) := snd_zret (by decide +kernel)
  exact fun pc => snd_ite (snd_ite (snd_ite (snd_ite (snd_leaf (k := 0) h0) (snd_leaf (k := 1) h1)) (snd_ite (snd_leaf (k := 4) h4) (snd_ite (snd_leaf (k := 6) h6) (snd_leaf (k := 9) h9)))) (snd_ite (snd_ite (snd_leaf (k := 10) h10) (snd_leaf (k := 11) h11)) (snd_ite (snd_leaf (k := 12) h12) (snd_ite (snd_leaf (k := 15) h15) (snd_leaf (k := 16) h16))))) (snd_ite (snd_ite (snd_ite (snd_leaf (k := 19) h19) (snd_leaf (k := 20) h20)) (snd_ite (snd_leaf (k := 21) h21) (snd_ite (snd_leaf (k := 22) h22) (snd_leaf (k := 23) h23)))) (snd_ite (snd_ite (snd_leaf (k := 26) h26) (snd_leaf (k := 27) h27)) (snd_ite (snd_leaf (k := 28) h28) (snd_ite (snd_leaf (k := 31) h31) (snd_leaf (k := 32) h32)))))
def pX4_add : Spc := inl kX4_add 2 25
theorem oX4_add : Ok 0 yX4_add cX4_add 2 (some .boolean) pX4_add := ok_inl (by decide) rfl sX4_add

def kX4_kindOf : Nat → Stq := fun pc => if pc < 39 then (if pc < 36 then (if pc < 1 then (if pc = 0 then s_ild 0 1 else s_bad) else (if pc = 1 then s_sw [(98, 38), (112, 36), (115, 40)] 42 else s_bad)) else (if pc < 37 then (if pc = 36 then s_push (.int 0) 37 else s_bad) else (if pc < 38 then (if pc = 37 then s_iret else s_bad) else (if pc = 38 then s_push (.int 1) 39 else s_bad)))) else (if pc < 41 then (if pc < 40 then (if pc = 39 then s_iret else s_bad) else (if pc = 40 then s_push (.int 2) 41 else s_bad)) else (if pc < 42 then (if pc = 41 then s_iret else s_bad) else (if pc < 44 then (if pc = 42 then s_push (.int (-6)) 44 else s_bad) else (if pc = 44 then s_iret else s_bad))))
set_option maxRecDepth 20000 in
theorem sX4_kindOf : ∀ pc, Snd 0 RX4 cX4_kindOf 1 (some .int) (inM "kindOf") pc (kX4_kindOf pc) := by
  have h0 : Snd 0 RX4 cX4_kindOf 1 (some .int) (inM "kindOf") 0 (s_ild 0 1) := snd_iload_n (j := 0) (by decide +kernel) rfl
  have h1 : Snd 0 RX4 cX4_kindOf 1 (some .int) (inM "kindOf") 1 (s_sw [(98, 38), (112, 36), (115, 40)] 42) := snd_lsw (dflt := 41) (ps := #[(98, 37), (112, 35), (115, 39)]) (len := 35) [(98, 38), (112, 36), (115, 40)] (by decide +kernel) (by decide) (by decide +kernel) (by decide +kernel)
  have h36 : Snd 0 RX4 cX4_kindOf 1 (some .int) (inM "kindOf") 36 (s_push (.int 0) 37) := snd_iconst (n := 0) (by decide +kernel) (by decide)
  have h37 : Snd 0 RX4 cX4_kindOf 1 (some .int) (inM "kindOf") 37 (s_iret) := snd_iret (by decide +kernel)
  have h38 : Snd 0 RX4 cX4_kindOf 1 (some .int) (inM "kindOf") 38 (s_push (.int 1) 39) := snd_iconst (n := 1) (by decide +kernel) (by decide)
  have h39 : Snd 0 RX4 cX4_kindOf 1 (some .int) (inM "kindOf") 39 (s_iret) := snd_iret (by decide +kernel)
  have h40 : Snd 0 RX4 cX4_kindOf 1 (some .int) (inM "kindOf") 40 (s_push (.int 2) 41) := snd_iconst (n := 2) (by decide +kernel) (by decide)
  have h41 : Snd 0 RX4 cX4_kindOf 1 (some .int) (inM "kindOf") 41 (s_iret) := snd_iret (by decide +kernel)
  have h42 : Snd 0 RX4 cX4_kindOf 1 (some .int) (inM "kindOf") 42 (s_push (.int (-6)) 44) := snd_bipush (n := -6) (by decide +kernel) (by decide)
  have h44 : Snd 0 RX4 cX4_kindOf 1 (some .int) (inM "kindOf") 44 (s_iret) := snd_iret (by decide +kernel)
  exact fun pc => snd_ite (snd_ite (snd_ite (snd_leaf (k := 0) h0) (snd_leaf (k := 1) h1)) (snd_ite (snd_leaf (k := 36) h36) (snd_ite (snd_leaf (k := 37) h37) (snd_leaf (k := 38) h38)))) (snd_ite (snd_ite (snd_leaf (k := 39) h39) (snd_leaf (k := 40) h40)) (snd_ite (snd_leaf (k := 41) h41) (snd_ite (snd_leaf (k := 42) h42) (snd_leaf (k := 44) h44))))
def pX4_kindOf : Spc := inl kX4_kindOf 1 15
theorem oX4_kindOf : Ok 0 yX4_kindOf cX4_kindOf 1 (some .int) pX4_kindOf := ok_inl (by decide) rfl sX4_kindOf

def kX5_has : Nat → Stq := fun pc => if pc < 9 then (if pc < 4 then (if pc < 1 then (if pc = 0 then s_ild 1 1 else s_bad) else (if pc = 1 then s_iflt 16 4 else s_bad)) else (if pc < 5 then (if pc = 4 then s_ild 1 5 else s_bad) else (if pc < 6 then (if pc = 5 then s_ald 0 6 else s_bad) else (if pc = 6 then s_getf 5 1 9 else s_bad)))) else (if pc < 13 then (if pc < 12 then (if pc = 9 then s_icgt 16 12 else s_bad) else (if pc = 12 then s_push (.int 1) 13 else s_bad)) else (if pc < 16 then (if pc = 13 then s_goto 17 else s_bad) else (if pc < 17 then (if pc = 16 then s_push (.int 0) 17 else s_bad) else (if pc = 17 then s_zret else s_bad))))
set_option maxRecDepth 20000 in
theorem sX5_has : ∀ pc, Snd 0 RX5 cX5_has 2 (some .boolean) (inM "has") pc (kX5_has pc) := by
  have h0 : Snd 0 RX5 cX5_has 2 (some .boolean) (inM "has") 0 (s_ild 1 1) := snd_iload_n (j := 1) (by decide +kernel) rfl
  have h1 : Snd 0 RX5 cX5_has 2 (some .boolean) (inM "has") 1 (s_iflt 16 4) := snd_iflt (off := 15) (by decide +kernel) (by decide)
  have h4 : Snd 0 RX5 cX5_has 2 (some .boolean) (inM "has") 4 (s_ild 1 5) := snd_iload_n (j := 1) (by decide +kernel) rfl
  have h5 : Snd 0 RX5 cX5_has 2 (some .boolean) (inM "has") 5 (s_ald 0 6) := snd_aload_n (j := 0) (by decide +kernel) rfl
  have h6 : Snd 0 RX5 cX5_has 2 (some .boolean) (inM "has") 6 (s_getf 5 1 9) := snd_getf (T := TX5) (f := 1) cI_5 (by decide) g_247 (by decide +kernel)
  have h9 : Snd 0 RX5 cX5_has 2 (some .boolean) (inM "has") 9 (s_icgt 16 12) := snd_icgt (off := 7) (by decide +kernel) (by decide)
  have h12 : Snd 0 RX5 cX5_has 2 (some .boolean) (inM "has") 12 (s_push (.int 1) 13) := snd_iconst (n := 1) (by decide +kernel) (by decide)
  have h13 : Snd 0 RX5 cX5_has 2 (some .boolean) (inM "has") 13 (s_goto 17) := snd_goto (off := 4) (by decide +kernel) (by decide)
  have h16 : Snd 0 RX5 cX5_has 2 (some .boolean) (inM "has") 16 (s_push (.int 0) 17) := snd_iconst (n := 0) (by decide +kernel) (by decide)
  have h17 : Snd 0 RX5 cX5_has 2 (some .boolean) (inM "has") 17 (s_zret) := snd_zret (by decide +kernel)
  exact fun pc => snd_ite (snd_ite (snd_ite (snd_leaf (k := 0) h0) (snd_leaf (k := 1) h1)) (snd_ite (snd_leaf (k := 4) h4) (snd_ite (snd_leaf (k := 5) h5) (snd_leaf (k := 6) h6)))) (snd_ite (snd_ite (snd_leaf (k := 9) h9) (snd_leaf (k := 12) h12)) (snd_ite (snd_leaf (k := 13) h13) (snd_ite (snd_leaf (k := 16) h16) (snd_leaf (k := 17) h17))))
def pX5_has : Spc := inl kX5_has 2 15
theorem oX5_has : Ok 0 yX5_has cX5_has 2 (some .boolean) pX5_has := ok_inl (by decide) rfl sX5_has

def kX6_isTaken : Nat → Stq := fun pc => if pc < 10 then (if pc < 5 then (if pc < 1 then (if pc = 0 then s_ald 0 1 else s_bad) else (if pc < 4 then (if pc = 1 then s_getf 6 0 4 else s_bad) else (if pc = 4 then s_ild 1 5 else s_bad))) else (if pc < 8 then (if pc < 6 then (if pc = 5 then s_lald 6 else s_bad) else (if pc = 6 then s_push (.int 32) 8 else s_bad)) else (if pc < 9 then (if pc = 8 then s_lushr 9 else s_bad) else (if pc = 9 then s_l2i 10 else s_bad)))) else (if pc < 17 then (if pc < 11 then (if pc = 10 then s_ald 0 11 else s_bad) else (if pc < 14 then (if pc = 11 then s_getf 6 2 14 else s_bad) else (if pc = 14 then s_icne 21 17 else s_bad))) else (if pc < 21 then (if pc < 18 then (if pc = 17 then s_push (.int 1) 18 else s_bad) else (if pc = 18 then s_goto 22 else s_bad)) else (if pc < 22 then (if pc = 21 then s_push (.int 0) 22 else s_bad) else (if pc = 22 then s_zret else s_bad))))
set_option maxRecDepth 20000 in
theorem sX6_isTaken : ∀ pc, Snd 0 RX6 cX6_isTaken 2 (some .boolean) (inM "isTaken") pc (kX6_isTaken pc) := by
  have h0 : Snd 0 RX6 cX6_isTaken 2 (some .boolean) (inM "isTaken") 0 (s_ald 0 1) := snd_aload_n (j := 0) (by decide +kernel) rfl
  have h1 : Snd 0 RX6 cX6_isTaken 2 (some .boolean) (inM "isTaken") 1 (s_getf 6 0 4) := snd_getf (T := TX6) (f := 0) cI_6 (by decide) g_235 (by decide +kernel)
  have h4 : Snd 0 RX6 cX6_isTaken 2 (some .boolean) (inM "isTaken") 4 (s_ild 1 5) := snd_iload_n (j := 1) (by decide +kernel) rfl
  have h5 : Snd 0 RX6 cX6_isTaken 2 (some .boolean) (inM "isTaken") 5 (s_lald 6) := snd_lald (by decide +kernel)
  have h6 : Snd 0 RX6 cX6_isTaken 2 (some .boolean) (inM "isTaken") 6 (s_push (.int 32) 8) := snd_bipush (n := 32) (by decide +kernel) (by decide)
  have h8 : Snd 0 RX6 cX6_isTaken 2 (some .boolean) (inM "isTaken") 8 (s_lushr 9) := snd_lushr (by decide +kernel)
  have h9 : Snd 0 RX6 cX6_isTaken 2 (some .boolean) (inM "isTaken") 9 (s_l2i 10) := snd_l2i (by decide +kernel)
  have h10 : Snd 0 RX6 cX6_isTaken 2 (some .boolean) (inM "isTaken") 10 (s_ald 0 11) := snd_aload_n (j := 0) (by decide +kernel) rfl
  have h11 : Snd 0 RX6 cX6_isTaken 2 (some .boolean) (inM "isTaken") 11 (s_getf 6 2 14) := snd_getf (T := TX6) (f := 2) cI_6 (by decide) g_237 (by decide +kernel)
  have h14 : Snd 0 RX6 cX6_isTaken 2 (some .boolean) (inM "isTaken") 14 (s_icne 21 17) := snd_icne (off := 7) (by decide +kernel) (by decide)
  have h17 : Snd 0 RX6 cX6_isTaken 2 (some .boolean) (inM "isTaken") 17 (s_push (.int 1) 18) := snd_iconst (n := 1) (by decide +kernel) (by decide)
  have h18 : Snd 0 RX6 cX6_isTaken 2 (some .boolean) (inM "isTaken") 18 (s_goto 22) := snd_goto (off := 4) (by decide +kernel) (by decide)
  have h21 : Snd 0 RX6 cX6_isTaken 2 (some .boolean) (inM "isTaken") 21 (s_push (.int 0) 22) := snd_iconst (n := 0) (by decide +kernel) (by decide)
  have h22 : Snd 0 RX6 cX6_isTaken 2 (some .boolean) (inM "isTaken") 22 (s_zret) := snd_zret (by decide +kernel)
  exact fun pc => snd_ite (snd_ite (snd_ite (snd_leaf (k := 0) h0) (snd_ite (snd_leaf (k := 1) h1) (snd_leaf (k := 4) h4))) (snd_ite (snd_ite (snd_leaf (k := 5) h5) (snd_leaf (k := 6) h6)) (snd_ite (snd_leaf (k := 8) h8) (snd_leaf (k := 9) h9)))) (snd_ite (snd_ite (snd_leaf (k := 10) h10) (snd_ite (snd_leaf (k := 11) h11) (snd_leaf (k := 14) h14))) (snd_ite (snd_ite (snd_leaf (k := 17) h17) (snd_leaf (k := 18) h18)) (snd_ite (snd_leaf (k := 21) h21) (snd_leaf (k := 22) h22))))
def pX6_isTaken : Spc := inl kX6_isTaken 2 19
theorem oX6_isTaken : Ok 0 yX6_isTaken cX6_isTaken 2 (some .boolean) pX6_isTaken := ok_inl (by decide) rfl sX6_isTaken

def kX9_begin : Nat → Stq := fun pc => if pc < 21 then (if pc < 9 then (if pc < 3 then (if pc < 1 then (if pc = 0 then s_ild 1 1 else s_bad) else (if pc < 2 then (if pc = 1 then s_push (.int 2) 2 else s_bad) else (if pc = 2 then s_irem 3 else s_bad))) else (if pc < 7 then (if pc < 4 then (if pc = 3 then s_push (.int 1) 4 else s_bad) else (if pc = 4 then s_icne 13 7 else s_bad)) else (if pc < 8 then (if pc = 7 then s_push (.int 1) 8 else s_bad) else (if pc = 8 then s_ild 1 9 else s_bad)))) else (if pc < 15 then (if pc < 13 then (if pc < 10 then (if pc = 9 then s_ishl 10 else s_bad) else (if pc = 10 then s_goto 14 else s_bad)) else (if pc < 14 then (if pc = 13 then s_push (.int 0) 14 else s_bad) else (if pc = 14 then s_ist 2 15 else s_bad))) else (if pc < 17 then (if pc < 16 then (if pc = 15 then s_ald 0 16 else s_bad) else (if pc = 16 then s_ild 1 17 else s_bad)) else (if pc < 20 then (if pc = 17 then s_puti 8 0 20 else s_bad) else (if pc = 20 then s_ald 0 21 else s_bad))))) else (if pc < 34 then (if pc < 27 then (if pc < 25 then (if pc < 22 then (if pc = 21 then s_push (.int 0) 22 else s_bad) else (if pc = 22 then s_puti 8 2 25 else s_bad)) else (if pc < 26 then (if pc = 25 then s_ald 0 26 else s_bad) else (if pc = 26 then s_push (.int 0) 27 else s_bad))) else (if pc < 31 then (if pc < 30 then (if pc = 27 then s_puti 8 6 30 else s_bad) else (if pc = 30 then s_ald 0 31 else s_bad)) else (if pc < 33 then (if pc = 31 then s_push (.int 18) 33 else s_bad) else (if pc = 33 then s_ild 2 34 else s_bad)))) else (if pc < 41 then (if pc < 38 then (if pc < 35 then (if pc = 34 then s_ior 35 else s_bad) else (if pc = 35 then s_puti 8 3 38 else s_bad)) else (if pc < 39 then (if pc = 38 then s_ald 0 39 else s_bad) else (if pc = 39 then s_push (.int 30) 41 else s_bad))) else (if pc < 43 then (if pc < 42 then (if pc = 41 then s_ild 2 42 else s_bad) else (if pc = 42 then s_ior 43 else s_bad)) else (if pc < 46 then (if pc = 43 then s_puti 8 4 46 else s_bad) else (if pc = 46 then s_vret else s_bad)))))
set_option maxRecDepth 20000 in
theorem sX9_begin : ∀ pc, Snd 0 RX9 cX9_begin 3 none (inM "begin") pc (kX9_begin pc) := by
  have h0 : Snd 0 RX9 cX9_begin 3 none (inM "begin") 0 (s_ild 1 1) := snd_iload_n (j := 1) (by decide +kernel) rfl
  have h1 : Snd 0 RX9 cX9_begin 3 none (inM "begin") 1 (s_push (.int 2) 2) := snd_iconst (n := 2) (by decide +kernel) (by decide)
  have h2 : Snd 0 RX9 cX9_begin 3 none (inM "begin") 2 (s_irem 3) := snd_irem (by decide +kernel)
  have h3 : Snd 0 RX9 cX9_begin 3 none (inM "begin") 3 (s_push (.int 1) 4) := snd_iconst (n := 1) (by decide +kernel) (by decide)
  have h4 : Snd 0 RX9 cX9_begin 3 none (inM "begin") 4 (s_icne 13 7) := snd_icne (off := 9) (by decide +kernel) (by decide)
  have h7 : Snd 0 RX9 cX9_begin 3 none (inM "begin") 7 (s_push (.int 1) 8) := snd_iconst (n := 1) (by decide +kernel) (by decide)
  have h8 : Snd 0 RX9 cX9_begin 3 none (inM "begin") 8 (s_ild 1 9) := snd_iload_n (j := 1) (by decide +kernel) rfl
  have h9 : Snd 0 RX9 cX9_begin 3 none (inM "begin") 9 (s_ishl 10) := snd_ishl (by decide +kernel)
  have h10 : Snd 0 RX9 cX9_begin 3 none (inM "begin") 10 (s_goto 14) := snd_goto (off := 4) (by decide +kernel) (by decide)
  have h13 : Snd 0 RX9 cX9_begin 3 none (inM "begin") 13 (s_push (.int 0) 14) := snd_iconst (n := 0) (by decide +kernel) (by decide)
  have h14 : Snd 0 RX9 cX9_begin 3 none (inM "begin") 14 (s_ist 2 15) := snd_istore_n (j := 2) (by decide +kernel) rfl
  have h15 : Snd 0 RX9 cX9_begin 3 none (inM "begin") 15 (s_ald 0 16) := snd_aload_n (j := 0) (by decide +kernel) rfl
  have h16 : Snd 0 RX9 cX9_begin 3 none (inM "begin") 16 (s_ild 1 17) := snd_iload_n (j := 1) (by decide +kernel) rfl
  have h17 : Snd 0 RX9 cX9_begin 3 none (inM "begin") 17 (s_puti 8 0 20) := snd_puti (T := TX9) (f := 0) cI_8 (by decide) g_99 (by decide) (by decide +kernel) (by decide +kernel)
  have h20 : Snd 0 RX9 cX9_begin 3 none (inM "begin") 20 (s_ald 0 21) := snd_aload_n (j := 0) (by decide +kernel) rfl
  have h21 : Snd 0 RX9 cX9_begin 3 none (inM "begin") 21 (s_push (.int 0) 22) := snd_iconst (n := 0) (by decide +kernel) (by decide)
  have h22 : Snd 0 RX9 cX9_begin 3 none (inM "begin") 22 (s_puti 8 2 25) := snd_puti (T := TX9) (f := 2) cI_8 (by decide) g_105 (by decide) (by decide +kernel) (by decide +kernel)
  have h25 : Snd 0 RX9 cX9_begin 3 none (inM "begin") 25 (s_ald 0 26) := snd_aload_n (j := 0) (by decide +kernel) rfl
  have h26 : Snd 0 RX9 cX9_begin 3 none (inM "begin") 26 (s_push (.int 0) 27) := snd_iconst (n := 0) (by decide +kernel) (by decide)
  have h27 : Snd 0 RX9 cX9_begin 3 none (inM "begin") 27 (s_puti 8 6 30) := snd_puti (T := TX9) (f := 6) cI_8 (by decide) g_117 (by decide) (by decide +kernel) (by decide +kernel)
  have h30 : Snd 0 RX9 cX9_begin 3 none (inM "begin") 30 (s_ald 0 31) := snd_aload_n (j := 0) (by decide +kernel) rfl
  have h31 : Snd 0 RX9 cX9_begin 3 none (inM "begin") 31 (s_push (.int 18) 33) := snd_bipush (n := 18) (by decide +kernel) (by decide)
  have h33 : Snd 0 RX9 cX9_begin 3 none (inM "begin") 33 (s_ild 2 34) := snd_iload_n (j := 2) (by decide +kernel) rfl
  have h34 : Snd 0 RX9 cX9_begin 3 none (inM "begin") 34 (s_ior 35) := snd_ior (by decide +kernel)
  have h35 : Snd 0 RX9 cX9_begin 3 none (inM "begin") 35 (s_puti 8 3 38) := snd_puti (T := TX9) (f := 3) cI_8 (by decide) g_108 (by decide) (by decide +kernel) (by decide +kernel)
  have h38 : Snd 0 RX9 cX9_begin 3 none (inM "begin") 38 (s_ald 0 39) := snd_aload_n (j := 0) (by decide +kernel) rfl
  have h39 : Snd 0 RX9 cX9_begin 3 none (inM "begin") 39 (s_push (.int 30) 41) := snd_bipush (n := 30) (by decide +kernel) (by decide)
  have h41 : Snd 0 RX9 cX9_begin 3 none (inM "begin") 41 (s_ild 2 42) := snd_iload_n (j := 2) (by decide +kernel) rfl
  have h42 : Snd 0 RX9 cX9_begin 3 none (inM "begin") 42 (s_ior 43) := snd_ior (by decide +kernel)
  have h43 : Snd 0 RX9 cX9_begin 3 none (inM "begin") 43 (s_puti 8 4 46) := snd_puti (T := TX9) (f := 4) cI_8 (by decide) g_111 (by decide) (by decide +kernel) (by decide +kernel)
  have h46 : Snd 0 RX9 cX9_begin 3 none (inM "begin") 46 (s_vret) := snd_vret (by decide +kernel)
  exact fun pc => snd_ite (snd_ite (snd_ite (snd_ite (snd_leaf (k := 0) h0) (snd_ite (snd_leaf (k := 1) h1) (snd_leaf (k := 2) h2))) (snd_ite (snd_ite (snd_leaf (k := 3) h3) (snd_leaf (k := 4) h4)) (snd_ite (snd_leaf (k := 7) h7) (snd_leaf (k := 8) h8)))) (snd_ite (snd_ite (snd_ite (snd_leaf (k := 9) h9) (snd_leaf (k := 10) h10)) (snd_ite (snd_leaf (k := 13) h13) (snd_leaf (k := 14) h14))) (snd_ite (snd_ite (snd_leaf (k := 15) h15) (snd_leaf (k := 16) h16)) (snd_ite (snd_leaf (k := 17) h17) (snd_leaf (k := 20) h20))))) (snd_ite (snd_ite (snd_ite (snd_ite (snd_leaf (k := 21) h21) (snd_leaf (k := 22) h22)) (snd_ite (snd_leaf (k := 25) h25) (snd_leaf (k := 26) h26))) (snd_ite (snd_ite (snd_leaf (k := 27) h27) (snd_leaf (k := 30) h30)) (snd_ite (snd_leaf (k := 31) h31) (snd_leaf (k := 33) h33)))) (snd_ite (snd_ite (snd_ite (snd_leaf (k := 34) h34) (snd_leaf (k := 35) h35)) (snd_ite (snd_leaf (k := 38) h38) (snd_leaf (k := 39) h39))) (snd_ite (snd_ite (snd_leaf (k := 41) h41) (snd_leaf (k := 42) h42)) (snd_ite (snd_leaf (k := 43) h43) (snd_leaf (k := 46) h46)))))
def pX9_begin : Spc := inl kX9_begin 3 36
theorem oX9_begin : Ok 0 yX9_begin cX9_begin 3 none pX9_begin := ok_inl (by decide) rfl sX9_begin

def kX11_addChange : Nat → Stq := fun pc => if pc < 10 then (if pc < 5 then (if pc < 1 then (if pc = 0 then s_ald 0 1 else s_bad) else (if pc < 4 then (if pc = 1 then s_getf 10 5 4 else s_bad) else (if pc = 4 then s_ald 0 5 else s_bad))) else (if pc < 8 then (if pc = 5 then s_getf 10 6 8 else s_bad) else (if pc < 9 then (if pc = 8 then s_ild 1 9 else s_bad) else (if pc = 9 then s_iast 10 else s_bad)))) else (if pc < 15 then (if pc < 11 then (if pc = 10 then s_ald 0 11 else s_bad) else (if pc < 12 then (if pc = 11 then s_dup 12 else s_bad) else (if pc = 12 then s_getf 10 6 15 else s_bad))) else (if pc < 17 then (if pc < 16 then (if pc = 15 then s_push (.int 1) 16 else s_bad) else (if pc = 16 then s_iadd 17 else s_bad)) else (if pc < 20 then (if pc = 17 then s_puti 10 6 20 else s_bad) else (if pc = 20 then s_vret else s_bad))))
set_option maxRecDepth 20000 in
theorem sX11_addChange : ∀ pc, Snd 0 RX11 cX11_addChange 2 none (inM "addChange") pc (kX11_addChange pc) := by
  have h0 : Snd 0 RX11 cX11_addChange 2 none (inM "addChange") 0 (s_ald 0 1) := snd_aload_n (j := 0) (by decide +kernel) rfl
  have h1 : Snd 0 RX11 cX11_addChange 2 none (inM "addChange") 1 (s_getf 10 5 4) := snd_getf (T := TX11) (f := 5) cI_10 (by decide) g_774 (by decide +kernel)
  have h4 : Snd 0 RX11 cX11_addChange 2 none (inM "addChange") 4 (s_ald 0 5) := snd_aload_n (j := 0) (by decide +kernel) rfl
  have h5 : Snd 0 RX11 cX11_addChange 2 none (inM "addChange") 5 (s_getf 10 6 8) := snd_getf (T := TX11) (f := 6) cI_10 (by decide) g_775 (by decide +kernel)
  have h8 : Snd 0 RX11 cX11_addChange 2 none (inM "addChange") 8 (s_ild 1 9) := snd_iload_n (j := 1) (by decide +kernel) rfl
  have h9 : Snd 0 RX11 cX11_addChange 2 none (inM "addChange") 9 (s_iast 10) := snd_iast (by decide +kernel)
  have h10 : Snd 0 RX11 cX11_addChange 2 none (inM "addChange") 10 (s_ald 0 11) := snd_aload_n (j := 0) (by decide +kernel) rfl
  have h11 : Snd 0 RX11 cX11_addChange 2 none (inM "addChange") 11 (s_dup 12) := snd_dup (by decide +kernel)
  have h12 : Snd 0 RX11 cX11_addChange 2 none (inM "addChange") 12 (s_getf 10 6 15) := snd_getf (T := TX11) (f := 6) cI_10 (by decide) g_775 (by decide +kernel)
  have h15 : Snd 0 RX11 cX11_addChange 2 none (inM "addChange") 15 (s_push (.int 1) 16) := snd_iconst (n := 1) (by decide +kernel) (by decide)
  have h16 : Snd 0 RX11 cX11_addChange 2 none (inM "addChange") 16 (s_iadd 17) := snd_iadd (by decide +kernel)
  have h17 : Snd 0 RX11 cX11_addChange 2 none (inM "addChange") 17 (s_puti 10 6 20) := snd_puti (T := TX11) (f := 6) cI_10 (by decide) g_775 (by decide) (by decide +kernel) (by decide +kernel)
  have h20 : Snd 0 RX11 cX11_addChange 2 none (inM "addChange") 20 (s_vret) := snd_vret (by decide +kernel)
  exact fun pc => snd_ite (snd_ite (snd_ite (snd_leaf (k := 0) h0) (snd_ite (snd_leaf (k := 1) h1) (snd_leaf (k := 4) h4))) (snd_ite (snd_leaf (k := 5) h5) (snd_ite (snd_leaf (k := 8) h8) (snd_leaf (k := 9) h9)))) (snd_ite (snd_ite (snd_leaf (k := 10) h10) (snd_ite (snd_leaf (k := 11) h11) (snd_leaf (k := 12) h12))) (snd_ite (snd_ite (snd_leaf (k := 15) h15) (snd_leaf (k := 16) h16)) (snd_ite (snd_leaf (k := 17) h17) (snd_leaf (k := 20) h20))))
def pX11_addChange : Spc := inl kX11_addChange 2 18
theorem oX11_addChange : Ok 0 yX11_addChange cX11_addChange 2 none pX11_addChange := ok_inl (by decide) rfl sX11_addChange

def kX11_begin : Nat → Stq := fun pc => if pc < 13 then (if pc < 6 then (if pc < 2 then (if pc < 1 then (if pc = 0 then s_ald 0 1 else s_bad) else (if pc = 1 then s_push (.int 0) 2 else s_bad)) else (if pc < 5 then (if pc = 2 then s_puti 10 6 5 else s_bad) else (if pc = 5 then s_ald 0 6 else s_bad))) else (if pc < 11 then (if pc < 8 then (if pc = 6 then s_push (.int (-6)) 8 else s_bad) else (if pc = 8 then s_puti 10 7 11 else s_bad)) else (if pc < 12 then (if pc = 11 then s_ald 0 12 else s_bad) else (if pc = 12 then s_push (.int 0) 13 else s_bad)))) else (if pc < 21 then (if pc < 17 then (if pc < 16 then (if pc = 13 then s_puti 10 8 16 else s_bad) else (if pc = 16 then s_ald 0 17 else s_bad)) else (if pc < 18 then (if pc = 17 then s_push (.int 0) 18 else s_bad) else (if pc = 18 then s_putz 10 9 21 else s_bad))) else (if pc < 23 then (if pc < 22 then (if pc = 21 then s_ald 0 22 else s_bad) else (if pc = 22 then s_push (.int 0) 23 else s_bad)) else (if pc < 26 then (if pc = 23 then s_putz 10 10 26 else s_bad) else (if pc = 26 then s_vret else s_bad))))
set_option maxRecDepth 20000 in
theorem sX11_begin : ∀ pc, Snd 0 RX11 cX11_begin 1 none (inM "begin") pc (kX11_begin pc) := by
  have h0 : Snd 0 RX11 cX11_begin 1 none (inM "begin") 0 (s_ald 0 1) := snd_aload_n (j := 0) (by decide +kernel) rfl
  have h1 : Snd 0 RX11 cX11_begin 1 none (inM "begin") 1 (s_push (.int 0) 2) := snd_iconst (n := 0) (by decide +kernel) (by decide)
  have h2 : Snd 0 RX11 cX11_begin 1 none (inM "begin") 2 (s_puti 10 6 5) := snd_puti (T := TX11) (f := 6) cI_10 (by decide) g_775 (by decide) (by decide +kernel) (by decide +kernel)
  have h5 : Snd 0 RX11 cX11_begin 1 none (inM "begin") 5 (s_ald 0 6) := snd_aload_n (j := 0) (by decide +kernel) rfl
  have h6 : Snd 0 RX11 cX11_begin 1 none (inM "begin") 6 (s_push (.int (-6)) 8) := snd_bipush (n := -6) (by decide +kernel) (by decide)
  have h8 : Snd 0 RX11 cX11_begin 1 none (inM "begin") 8 (s_puti 10 7 11) := snd_puti (T := TX11) (f := 7) cI_10 (by decide) g_776 (by decide) (by decide +kernel) (by decide +kernel)
  have h11 : Snd 0 RX11 cX11_begin 1 none (inM "begin") 11 (s_ald 0 12) := snd_aload_n (j := 0) (by decide +kernel) rfl
  have h12 : Snd 0 RX11 cX11_begin 1 none (inM "begin") 12 (s_push (.int 0) 13) := snd_iconst (n := 0) (by decide +kernel) (by decide)
  have h13 : Snd 0 RX11 cX11_begin 1 none (inM "begin") 13 (s_puti 10 8 16) := snd_puti (T := TX11) (f := 8) cI_10 (by decide) g_777 (by decide) (by decide +kernel) (by decide +kernel)
  have h16 : Snd 0 RX11 cX11_begin 1 none (inM "begin") 16 (s_ald 0 17) := snd_aload_n (j := 0) (by decide +kernel) rfl
  have h17 : Snd 0 RX11 cX11_begin 1 none (inM "begin") 17 (s_push (.int 0) 18) := snd_iconst (n := 0) (by decide +kernel) (by decide)
  have h18 : Snd 0 RX11 cX11_begin 1 none (inM "begin") 18 (s_putz 10 9 21) := snd_putz (T := TX11) (f := 9) cI_10 (by decide) g_778 (by decide) (by decide +kernel) (by decide +kernel)
  have h21 : Snd 0 RX11 cX11_begin 1 none (inM "begin") 21 (s_ald 0 22) := snd_aload_n (j := 0) (by decide +kernel) rfl
  have h22 : Snd 0 RX11 cX11_begin 1 none (inM "begin") 22 (s_push (.int 0) 23) := snd_iconst (n := 0) (by decide +kernel) (by decide)
  have h23 : Snd 0 RX11 cX11_begin 1 none (inM "begin") 23 (s_putz 10 10 26) := snd_putz (T := TX11) (f := 10) cI_10 (by decide) g_779 (by decide) (by decide +kernel) (by decide +kernel)
  have h26 : Snd 0 RX11 cX11_begin 1 none (inM "begin") 26 (s_vret) := snd_vret (by decide +kernel)
  exact fun pc => snd_ite (snd_ite (snd_ite (snd_ite (snd_leaf (k := 0) h0) (snd_leaf (k := 1) h1)) (snd_ite (snd_leaf (k := 2) h2) (snd_leaf (k := 5) h5))) (snd_ite (snd_ite (snd_leaf (k := 6) h6) (snd_leaf (k := 8) h8)) (snd_ite (snd_leaf (k := 11) h11) (snd_leaf (k := 12) h12)))) (snd_ite (snd_ite (snd_ite (snd_leaf (k := 13) h13) (snd_leaf (k := 16) h16)) (snd_ite (snd_leaf (k := 17) h17) (snd_leaf (k := 18) h18))) (snd_ite (snd_ite (snd_leaf (k := 21) h21) (snd_leaf (k := 22) h22)) (snd_ite (snd_leaf (k := 23) h23) (snd_leaf (k := 26) h26))))
def pX11_begin : Spc := inl kX11_begin 1 21
theorem oX11_begin : Ok 0 yX11_begin cX11_begin 1 none pX11_begin := ok_inl (by decide) rfl sX11_begin

def kX11_beginSearch : Nat → Stq := fun pc => if pc < 7 then (if pc < 2 then (if pc < 1 then (if pc = 0 then s_ald 0 1 else s_bad) else (if pc = 1 then s_dup 2 else s_bad)) else (if pc < 5 then (if pc = 2 then s_getf 10 17 5 else s_bad) else (if pc < 6 then (if pc = 5 then s_push (.int 1) 6 else s_bad) else (if pc = 6 then s_iadd 7 else s_bad)))) else (if pc < 11 then (if pc < 10 then (if pc = 7 then s_puti 10 17 10 else s_bad) else (if pc = 10 then s_ald 0 11 else s_bad)) else (if pc < 12 then (if pc = 11 then s_push (.int 0) 12 else s_bad) else (if pc < 15 then (if pc = 12 then s_puti 10 19 15 else s_bad) else (if pc = 15 then s_vret else s_bad))))
set_option maxRecDepth 20000 in
theorem sX11_beginSearch : ∀ pc, Snd 0 RX11 cX11_beginSearch 1 none (inM "beginSearch") pc (kX11_beginSearch pc) := by
  have h0 : Snd 0 RX11 cX11_beginSearch 1 none (inM "beginSearch") 0 (s_ald 0 1) := snd_aload_n (j := 0) (by decide +kernel) rfl
  have h1 : Snd 0 RX11 cX11_beginSearch 1 none (inM "beginSearch") 1 (s_dup 2) := snd_dup (by decide +kernel)
  have h2 : Snd 0 RX11 cX11_beginSearch 1 none (inM "beginSearch") 2 (s_getf 10 17 5) := snd_getf (T := TX11) (f := 17) cI_10 (by decide) g_786 (by decide +kernel)
  have h5 : Snd 0 RX11 cX11_beginSearch 1 none (inM "beginSearch") 5 (s_push (.int 1) 6) := snd_iconst (n := 1) (by decide +kernel) (by decide)
  have h6 : Snd 0 RX11 cX11_beginSearch 1 none (inM "beginSearch") 6 (s_iadd 7) := snd_iadd (by decide +kernel)
  have h7 : Snd 0 RX11 cX11_beginSearch 1 none (inM "beginSearch") 7 (s_puti 10 17 10) := snd_puti (T := TX11) (f := 17) cI_10 (by decide) g_786 (by decide) (by decide +kernel) (by decide +kernel)
  have h10 : Snd 0 RX11 cX11_beginSearch 1 none (inM "beginSearch") 10 (s_ald 0 11) := snd_aload_n (j := 0) (by decide +kernel) rfl
  have h11 : Snd 0 RX11 cX11_beginSearch 1 none (inM "beginSearch") 11 (s_push (.int 0) 12) := snd_iconst (n := 0) (by decide +kernel) (by decide)
  have h12 : Snd 0 RX11 cX11_beginSearch 1 none (inM "beginSearch") 12 (s_puti 10 19 15) := snd_puti (T := TX11) (f := 19) cI_10 (by decide) g_788 (by decide) (by decide +kernel) (by decide +kernel)
  have h15 : Snd 0 RX11 cX11_beginSearch 1 none (inM "beginSearch") 15 (s_vret) := snd_vret (by decide +kernel)
  exact fun pc => snd_ite (snd_ite (snd_ite (snd_leaf (k := 0) h0) (snd_leaf (k := 1) h1)) (snd_ite (snd_leaf (k := 2) h2) (snd_ite (snd_leaf (k := 5) h5) (snd_leaf (k := 6) h6)))) (snd_ite (snd_ite (snd_leaf (k := 7) h7) (snd_leaf (k := 10) h10)) (snd_ite (snd_leaf (k := 11) h11) (snd_ite (snd_leaf (k := 12) h12) (snd_leaf (k := 15) h15))))
def pX11_beginSearch : Spc := inl kX11_beginSearch 1 15
theorem oX11_beginSearch : Ok 0 yX11_beginSearch cX11_beginSearch 1 none pX11_beginSearch := ok_inl (by decide) rfl sX11_beginSearch

def kX11_changeOf : Nat → Stq := fun pc => if pc < 22 then (if pc < 10 then (if pc < 5 then (if pc < 1 then (if pc = 0 then s_ild 1 1 else s_bad) else (if pc < 4 then (if pc = 1 then s_ifle 30 4 else s_bad) else (if pc = 4 then s_ild 2 5 else s_bad))) else (if pc < 6 then (if pc = 5 then s_ald 0 6 else s_bad) else (if pc < 9 then (if pc = 6 then s_getf 10 0 9 else s_bad) else (if pc = 9 then s_push (.int 1) 10 else s_bad)))) else (if pc < 13 then (if pc < 11 then (if pc = 10 then s_iald 11 else s_bad) else (if pc < 12 then (if pc = 11 then s_push (.int 1) 12 else s_bad) else (if pc = 12 then s_isub 13 else s_bad))) else (if pc < 17 then (if pc < 16 then (if pc = 13 then s_icne 30 16 else s_bad) else (if pc = 16 then s_ald 0 17 else s_bad)) else (if pc < 20 then (if pc = 17 then s_getf 10 0 20 else s_bad) else (if pc = 20 then s_push (.int 42) 22 else s_bad))))) else (if pc < 30 then (if pc < 25 then (if pc < 23 then (if pc = 22 then s_ild 1 23 else s_bad) else (if pc < 24 then (if pc = 23 then s_iadd 24 else s_bad) else (if pc = 24 then s_push (.int 1) 25 else s_bad))) else (if pc < 26 then (if pc = 25 then s_isub 26 else s_bad) else (if pc < 27 then (if pc = 26 then s_iald 27 else s_bad) else (if pc = 27 then s_goto 38 else s_bad)))) else (if pc < 35 then (if pc < 31 then (if pc = 30 then s_ald 0 31 else s_bad) else (if pc < 34 then (if pc = 31 then s_getf 10 0 34 else s_bad) else (if pc = 34 then s_push (.int 2) 35 else s_bad))) else (if pc < 37 then (if pc < 36 then (if pc = 35 then s_ild 2 36 else s_bad) else (if pc = 36 then s_iadd 37 else s_bad)) else (if pc < 38 then (if pc = 37 then s_iald 38 else s_bad) else (if pc = 38 then s_iret else s_bad)))))
set_option maxRecDepth 20000 in
theorem sX11_changeOf : ∀ pc, Snd 0 RX11 cX11_changeOf 3 (some .int) (inM "changeOf") pc (kX11_changeOf pc) := by
  have h0 : Snd 0 RX11 cX11_changeOf 3 (some .int) (inM "changeOf") 0 (s_ild 1 1) := snd_iload_n (j := 1) (by decide +kernel) rfl
  have h1 : Snd 0 RX11 cX11_changeOf 3 (some .int) (inM "changeOf") 1 (s_ifle 30 4) := snd_ifle (off := 29) (by decide +kernel) (by decide)
  have h4 : Snd 0 RX11 cX11_changeOf 3 (some .int) (inM "changeOf") 4 (s_ild 2 5) := snd_iload_n (j := 2) (by decide +kernel) rfl
  have h5 : Snd 0 RX11 cX11_changeOf 3 (some .int) (inM "changeOf") 5 (s_ald 0 6) := snd_aload_n (j := 0) (by decide +kernel) rfl
  have h6 : Snd 0 RX11 cX11_changeOf 3 (some .int) (inM "changeOf") 6 (s_getf 10 0 9) := snd_getf (T := TX11) (f := 0) cI_10 (by decide) g_769 (by decide +kernel)
  have h9 : Snd 0 RX11 cX11_changeOf 3 (some .int) (inM "changeOf") 9 (s_push (.int 1) 10) := snd_iconst (n := 1) (by decide +kernel) (by decide)
  have h10 : Snd 0 RX11 cX11_changeOf 3 (some .int) (inM "changeOf") 10 (s_iald 11) := snd_iald (by decide +kernel)
  have h11 : Snd 0 RX11 cX11_changeOf 3 (some .int) (inM "changeOf") 11 (s_push (.int 1) 12) := snd_iconst (n := 1) (by decide +kernel) (by decide)
  have h12 : Snd 0 RX11 cX11_changeOf 3 (some .int) (inM "changeOf") 12 (s_isub 13) := snd_isub (by decide +kernel)
  have h13 : Snd 0 RX11 cX11_changeOf 3 (some .int) (inM "changeOf") 13 (s_icne 30 16) := snd_icne (off := 17) (by decide +kernel) (by decide)
  have h16 : Snd 0 RX11 cX11_changeOf 3 (some .int) (inM "changeOf") 16 (s_ald 0 17) := snd_aload_n (j := 0) (by decide +kernel) rfl
  have h17 : Snd 0 RX11 cX11_changeOf 3 (some .int) (inM "changeOf") 17 (s_getf 10 0 20) := snd_getf (T := TX11) (f := 0) cI_10 (by decide) g_769 (by decide +kernel)
  have h20 : Snd 0 RX11 cX11_changeOf 3 (some .int) (inM "changeOf") 20 (s_push (.int 42) 22) := snd_bipush (n := 42) (by decide +kernel) (by decide)
  have h22 : Snd 0 RX11 cX11_changeOf 3 (some .int) (inM "changeOf") 22 (s_ild 1 23) := snd_iload_n (j := 1) (by decide +kernel) rfl
  have h23 : Snd 0 RX11 cX11_changeOf 3 (some .int) (inM "changeOf") 23 (s_iadd 24) := snd_iadd (by decide +kernel)
  have h24 : Snd 0 RX11 cX11_changeOf 3 (some .int) (inM "changeOf") 24 (s_push (.int 1) 25) := snd_iconst (n := 1) (by decide +kernel) (by decide)
  have h25 : Snd 0 RX11 cX11_changeOf 3 (some .int) (inM "changeOf") 25 (s_isub 26) := snd_isub (by decide +kernel)
  have h26 : Snd 0 RX11 cX11_changeOf 3 (some .int) (inM "changeOf") 26 (s_iald 27) := snd_iald (by decide +kernel)
  have h27 : Snd 0 RX11 cX11_changeOf 3 (some .int) (inM "changeOf") 27 (s_goto 38) := snd_goto (off := 11) (by decide +kernel) (by decide)
  have h30 : Snd 0 RX11 cX11_changeOf 3 (some .int) (inM "changeOf") 30 (s_ald 0 31) := snd_aload_n (j := 0) (by decide +kernel) rfl
  have h31 : Snd 0 RX11 cX11_changeOf 3 (some .int) (inM "changeOf") 31 (s_getf 10 0 34) := snd_getf (T := TX11) (f := 0) cI_10 (by decide) g_769 (by decide +kernel)
  have h34 : Snd 0 RX11 cX11_changeOf 3 (some .int) (inM "changeOf") 34 (s_push (.int 2) 35) := snd_iconst (n := 2) (by decide +kernel) (by decide)
  have h35 : Snd 0 RX11 cX11_changeOf 3 (some .int) (inM "changeOf") 35 (s_ild 2 36) := snd_iload_n (j := 2) (by decide +kernel) rfl
  have h36 : Snd 0 RX11 cX11_changeOf 3 (some .int) (inM "changeOf") 36 (s_iadd 37) := snd_iadd (by decide +kernel)
  have h37 : Snd 0 RX11 cX11_changeOf 3 (some .int) (inM "changeOf") 37 (s_iald 38) := snd_iald (by decide +kernel)
  have h38 : Snd 0 RX11 cX11_changeOf 3 (some .int) (inM "changeOf") 38 (s_iret) := snd_iret (by decide +kernel)
  exact fun pc => snd_ite (snd_ite (snd_ite (snd_ite (snd_leaf (k := 0) h0) (snd_ite (snd_leaf (k := 1) h1) (snd_leaf (k := 4) h4))) (snd_ite (snd_leaf (k := 5) h5) (snd_ite (snd_leaf (k := 6) h6) (snd_leaf (k := 9) h9)))) (snd_ite (snd_ite (snd_leaf (k := 10) h10) (snd_ite (snd_leaf (k := 11) h11) (snd_leaf (k := 12) h12))) (snd_ite (snd_ite (snd_leaf (k := 13) h13) (snd_leaf (k := 16) h16)) (snd_ite (snd_leaf (k := 17) h17) (snd_leaf (k := 20) h20))))) (snd_ite (snd_ite (snd_ite (snd_leaf (k := 22) h22) (snd_ite (snd_leaf (k := 23) h23) (snd_leaf (k := 24) h24))) (snd_ite (snd_leaf (k := 25) h25) (snd_ite (snd_leaf (k := 26) h26) (snd_leaf (k := 27) h27)))) (snd_ite (snd_ite (snd_leaf (k := 30) h30) (snd_ite (snd_leaf (k := 31) h31) (snd_leaf (k := 34) h34))) (snd_ite (snd_ite (snd_leaf (k := 35) h35) (snd_leaf (k := 36) h36)) (snd_ite (snd_leaf (k := 37) h37) (snd_leaf (k := 38) h38)))))
def pX11_changeOf : Spc := inl kX11_changeOf 3 31
theorem oX11_changeOf : Ok 0 yX11_changeOf cX11_changeOf 3 (some .int) pX11_changeOf := ok_inl (by decide) rfl sX11_changeOf

def kX11_close : Nat → Stq := fun pc => if pc < 5 then (if pc < 1 then (if pc = 0 then s_ald 0 1 else s_bad) else (if pc < 2 then (if pc = 1 then s_push (.int 0) 2 else s_bad) else (if pc = 2 then s_putz 10 9 5 else s_bad))) else (if pc < 7 then (if pc < 6 then (if pc = 5 then s_ald 0 6 else s_bad) else (if pc = 6 then s_push (.int 0) 7 else s_bad)) else (if pc < 10 then (if pc = 7 then s_puti 10 8 10 else s_bad) else (if pc = 10 then s_vret else s_bad)))
set_option maxRecDepth 20000 in
theorem sX11_close : ∀ pc, Snd 0 RX11 cX11_close 1 none (inM "close") pc (kX11_close pc) := by
  have h0 : Snd 0 RX11 cX11_close 1 none (inM "close") 0 (s_ald 0 1) := snd_aload_n (j := 0) (by decide +kernel) rfl
  have h1 : Snd 0 RX11 cX11_close 1 none (inM "close") 1 (s_push (.int 0) 2) := snd_iconst (n := 0) (by decide +kernel) (by decide)
  have h2 : Snd 0 RX11 cX11_close 1 none (inM "close") 2 (s_putz 10 9 5) := snd_putz (T := TX11) (f := 9) cI_10 (by decide) g_778 (by decide) (by decide +kernel) (by decide +kernel)
  have h5 : Snd 0 RX11 cX11_close 1 none (inM "close") 5 (s_ald 0 6) := snd_aload_n (j := 0) (by decide +kernel) rfl
  have h6 : Snd 0 RX11 cX11_close 1 none (inM "close") 6 (s_push (.int 0) 7) := snd_iconst (n := 0) (by decide +kernel) (by decide)
  have h7 : Snd 0 RX11 cX11_close 1 none (inM "close") 7 (s_puti 10 8 10) := snd_puti (T := TX11) (f := 8) cI_10 (by decide) g_777 (by decide) (by decide +kernel) (by decide +kernel)
  have h10 : Snd 0 RX11 cX11_close 1 none (inM "close") 10 (s_vret) := snd_vret (by decide +kernel)
  exact fun pc => snd_ite (snd_ite (snd_leaf (k := 0) h0) (snd_ite (snd_leaf (k := 1) h1) (snd_leaf (k := 2) h2))) (snd_ite (snd_ite (snd_leaf (k := 5) h5) (snd_leaf (k := 6) h6)) (snd_ite (snd_leaf (k := 7) h7) (snd_leaf (k := 10) h10)))
def pX11_close : Spc := inl kX11_close 1 12
theorem oX11_close : Ok 0 yX11_close cX11_close 1 none pX11_close := ok_inl (by decide) rfl sX11_close

def kX11_in : Nat → Stq := fun pc => if pc < 7 then (if pc < 2 then (if pc < 1 then (if pc = 0 then s_ild 0 1 else s_bad) else (if pc = 1 then s_ild 1 2 else s_bad)) else (if pc < 5 then (if pc = 2 then s_iclt 14 5 else s_bad) else (if pc < 6 then (if pc = 5 then s_ild 0 6 else s_bad) else (if pc = 6 then s_ild 2 7 else s_bad)))) else (if pc < 11 then (if pc < 10 then (if pc = 7 then s_icgt 14 10 else s_bad) else (if pc = 10 then s_push (.int 1) 11 else s_bad)) else (if pc < 14 then (if pc = 11 then s_goto 15 else s_bad) else (if pc < 15 then (if pc = 14 then s_push (.int 0) 15 else s_bad) else (if pc = 15 then s_zret else s_bad))))
set_option maxRecDepth 20000 in
theorem sX11_in : ∀ pc, Snd 0 RX11 cX11_in 3 (some .boolean) (inM "in") pc (kX11_in pc) := by
  have h0 : Snd 0 RX11 cX11_in 3 (some .boolean) (inM "in") 0 (s_ild 0 1) := snd_iload_n (j := 0) (by decide +kernel) rfl
  have h1 : Snd 0 RX11 cX11_in 3 (some .boolean) (inM "in") 1 (s_ild 1 2) := snd_iload_n (j := 1) (by decide +kernel) rfl
  have h2 : Snd 0 RX11 cX11_in 3 (some .boolean) (inM "in") 2 (s_iclt 14 5) := snd_iclt (off := 12) (by decide +kernel) (by decide)
  have h5 : Snd 0 RX11 cX11_in 3 (some .boolean) (inM "in") 5 (s_ild 0 6) := snd_iload_n (j := 0) (by decide +kernel) rfl
  have h6 : Snd 0 RX11 cX11_in 3 (some .boolean) (inM "in") 6 (s_ild 2 7) := snd_iload_n (j := 2) (by decide +kernel) rfl
  have h7 : Snd 0 RX11 cX11_in 3 (some .boolean) (inM "in") 7 (s_icgt 14 10) := snd_icgt (off := 7) (by decide +kernel) (by decide)
  have h10 : Snd 0 RX11 cX11_in 3 (some .boolean) (inM "in") 10 (s_push (.int 1) 11) := snd_iconst (n := 1) (by decide +kernel) (by decide)
  have h11 : Snd 0 RX11 cX11_in 3 (some .boolean) (inM "in") 11 (s_goto 15) := snd_goto (off := 4) (by decide +kernel) (by decide)
  have h14 : Snd 0 RX11 cX11_in 3 (some .boolean) (inM "in") 14 (s_push (.int 0) 15) := snd_iconst (n := 0) (by decide +kernel) (by decide)
  have h15 : Snd 0 RX11 cX11_in 3 (some .boolean) (inM "in") 15 (s_zret) := snd_zret (by decide +kernel)
  exact fun pc => snd_ite (snd_ite (snd_ite (snd_leaf (k := 0) h0) (snd_leaf (k := 1) h1)) (snd_ite (snd_leaf (k := 2) h2) (snd_ite (snd_leaf (k := 5) h5) (snd_leaf (k := 6) h6)))) (snd_ite (snd_ite (snd_leaf (k := 7) h7) (snd_leaf (k := 10) h10)) (snd_ite (snd_leaf (k := 11) h11) (snd_ite (snd_leaf (k := 14) h14) (snd_leaf (k := 15) h15))))
def pX11_in : Spc := inl kX11_in 3 15
theorem oX11_in : Ok 0 yX11_in cX11_in 3 (some .boolean) pX11_in := ok_inl (by decide) rfl sX11_in

def kX11_isReady : Nat → Stq := fun pc => if pc < 13 then (if pc < 5 then (if pc < 1 then (if pc = 0 then s_ald 0 1 else s_bad) else (if pc < 4 then (if pc = 1 then s_getf 10 0 4 else s_bad) else (if pc = 4 then s_push (.int 1) 5 else s_bad))) else (if pc < 9 then (if pc < 6 then (if pc = 5 then s_iald 6 else s_bad) else (if pc = 6 then s_ifle 23 9 else s_bad)) else (if pc < 10 then (if pc = 9 then s_ald 0 10 else s_bad) else (if pc = 10 then s_getf 10 0 13 else s_bad)))) else (if pc < 19 then (if pc < 15 then (if pc = 13 then s_push (.int 44) 15 else s_bad) else (if pc < 16 then (if pc = 15 then s_iald 16 else s_bad) else (if pc = 16 then s_ifle 23 19 else s_bad))) else (if pc < 23 then (if pc < 20 then (if pc = 19 then s_push (.int 1) 20 else s_bad) else (if pc = 20 then s_goto 24 else s_bad)) else (if pc < 24 then (if pc = 23 then s_push (.int 0) 24 else s_bad) else (if pc = 24 then s_zret else s_bad))))
set_option maxRecDepth 20000 in
theorem sX11_isReady : ∀ pc, Snd 0 RX11 cX11_isReady 1 (some .boolean) (inM "isReady") pc (kX11_isReady pc) := by
  have h0 : Snd 0 RX11 cX11_isReady 1 (some .boolean) (inM "isReady") 0 (s_ald 0 1) := snd_aload_n (j := 0) (by decide +kernel) rfl
  have h1 : Snd 0 RX11 cX11_isReady 1 (some .boolean) (inM "isReady") 1 (s_getf 10 0 4) := snd_getf (T := TX11) (f := 0) cI_10 (by decide) g_769 (by decide +kernel)
  have h4 : Snd 0 RX11 cX11_isReady 1 (some .boolean) (inM "isReady") 4 (s_push (.int 1) 5) := snd_iconst (n := 1) (by decide +kernel) (by decide)
  have h5 : Snd 0 RX11 cX11_isReady 1 (some .boolean) (inM "isReady") 5 (s_iald 6) := snd_iald (by decide +kernel)
  have h6 : Snd 0 RX11 cX11_isReady 1 (some .boolean) (inM "isReady") 6 (s_ifle 23 9) := snd_ifle (off := 17) (by decide +kernel) (by decide)
  have h9 : Snd 0 RX11 cX11_isReady 1 (some .boolean) (inM "isReady") 9 (s_ald 0 10) := snd_aload_n (j := 0) (by decide +kernel) rfl
  have h10 : Snd 0 RX11 cX11_isReady 1 (some .boolean) (inM "isReady") 10 (s_getf 10 0 13) := snd_getf (T := TX11) (f := 0) cI_10 (by decide) g_769 (by decide +kernel)
  have h13 : Snd 0 RX11 cX11_isReady 1 (some .boolean) (inM "isReady") 13 (s_push (.int 44) 15) := snd_bipush (n := 44) (by decide +kernel) (by decide)
  have h15 : Snd 0 RX11 cX11_isReady 1 (some .boolean) (inM "isReady") 15 (s_iald 16) := snd_iald (by decide +kernel)
  have h16 : Snd 0 RX11 cX11_isReady 1 (some .boolean) (inM "isReady") 16 (s_ifle 23 19) := snd_ifle (off := 7) (by decide +kernel) (by decide)
  have h19 : Snd 0 RX11 cX11_isReady 1 (some .boolean) (inM "isReady") 19 (s_push (.int 1) 20) := snd_iconst (n := 1) (by decide +kernel) (by decide)
  have h20 : Snd 0 RX11 cX11_isReady 1 (some .boolean) (inM "isReady") 20 (s_goto 24) := snd_goto (off := 4) (by decide +kernel) (by decide)
  have h23 : Snd 0 RX11 cX11_isReady 1 (some .boolean) (inM "isReady") 23 (s_push (.int 0) 24) := snd_iconst (n := 0) (by decide +kernel) (by decide)
  have h24 : Snd 0 RX11 cX11_isReady 1 (some .boolean) (inM "isReady") 24 (s_zret) := snd_zret (by decide +kernel)
  exact fun pc => snd_ite (snd_ite (snd_ite (snd_leaf (k := 0) h0) (snd_ite (snd_leaf (k := 1) h1) (snd_leaf (k := 4) h4))) (snd_ite (snd_ite (snd_leaf (k := 5) h5) (snd_leaf (k := 6) h6)) (snd_ite (snd_leaf (k := 9) h9) (snd_leaf (k := 10) h10)))) (snd_ite (snd_ite (snd_leaf (k := 13) h13) (snd_ite (snd_leaf (k := 15) h15) (snd_leaf (k := 16) h16))) (snd_ite (snd_ite (snd_leaf (k := 19) h19) (snd_leaf (k := 20) h20)) (snd_ite (snd_leaf (k := 23) h23) (snd_leaf (k := 24) h24))))
def pX11_isReady : Spc := inl kX11_isReady 1 19
theorem oX11_isReady : Ok 0 yX11_isReady cX11_isReady 1 (some .boolean) pX11_isReady := ok_inl (by decide) rfl sX11_isReady

def kX11_lay : Nat → Stq := fun pc => if pc < 29 then (if pc < 14 then (if pc < 7 then (if pc < 4 then (if pc < 1 then (if pc = 0 then s_ald 0 1 else s_bad) else (if pc = 1 then s_getf 10 0 4 else s_bad)) else (if pc < 5 then (if pc = 4 then s_push (.int 0) 5 else s_bad) else (if pc < 6 then (if pc = 5 then s_ild 1 6 else s_bad) else (if pc = 6 then s_iast 7 else s_bad)))) else (if pc < 11 then (if pc < 8 then (if pc = 7 then s_ald 0 8 else s_bad) else (if pc = 8 then s_getf 10 0 11 else s_bad)) else (if pc < 12 then (if pc = 11 then s_push (.int 1) 12 else s_bad) else (if pc < 13 then (if pc = 12 then s_push (.int 0) 13 else s_bad) else (if pc = 13 then s_iast 14 else s_bad))))) else (if pc < 22 then (if pc < 18 then (if pc < 15 then (if pc = 14 then s_ald 0 15 else s_bad) else (if pc = 15 then s_getf 10 0 18 else s_bad)) else (if pc < 20 then (if pc = 18 then s_push (.int 44) 20 else s_bad) else (if pc < 21 then (if pc = 20 then s_push (.int 0) 21 else s_bad) else (if pc = 21 then s_iast 22 else s_bad)))) else (if pc < 24 then (if pc < 23 then (if pc = 22 then s_ild 1 23 else s_bad) else (if pc = 23 then s_push (.int 2) 24 else s_bad)) else (if pc < 25 then (if pc = 24 then s_irem 25 else s_bad) else (if pc < 26 then (if pc = 25 then s_push (.int 1) 26 else s_bad) else (if pc = 26 then s_icne 35 29 else s_bad)))))) else (if pc < 45 then (if pc < 36 then (if pc < 31 then (if pc < 30 then (if pc = 29 then s_push (.int 1) 30 else s_bad) else (if pc = 30 then s_ild 1 31 else s_bad)) else (if pc < 32 then (if pc = 31 then s_ishl 32 else s_bad) else (if pc < 35 then (if pc = 32 then s_goto 36 else s_bad) else (if pc = 35 then s_push (.int 0) 36 else s_bad)))) else (if pc < 38 then (if pc < 37 then (if pc = 36 then s_ist 2 37 else s_bad) else (if pc = 37 then s_ald 0 38 else s_bad)) else (if pc < 41 then (if pc = 38 then s_getf 10 0 41 else s_bad) else (if pc < 43 then (if pc = 41 then s_push (.int 42) 43 else s_bad) else (if pc = 43 then s_push (.int 18) 45 else s_bad))))) else (if pc < 52 then (if pc < 47 then (if pc < 46 then (if pc = 45 then s_ild 2 46 else s_bad) else (if pc = 46 then s_ior 47 else s_bad)) else (if pc < 48 then (if pc = 47 then s_iast 48 else s_bad) else (if pc < 49 then (if pc = 48 then s_ald 0 49 else s_bad) else (if pc = 49 then s_getf 10 0 52 else s_bad)))) else (if pc < 57 then (if pc < 54 then (if pc = 52 then s_push (.int 43) 54 else s_bad) else (if pc < 56 then (if pc = 54 then s_push (.int 30) 56 else s_bad) else (if pc = 56 then s_ild 2 57 else s_bad))) else (if pc < 58 then (if pc = 57 then s_ior 58 else s_bad) else (if pc < 59 then (if pc = 58 then s_iast 59 else s_bad) else (if pc = 59 then s_vret else s_bad))))))
set_option maxRecDepth 20000 in
theorem sX11_lay : ∀ pc, Snd 0 RX11 cX11_lay 3 none (inM "lay") pc (kX11_lay pc) := by
  have h0 : Snd 0 RX11 cX11_lay 3 none (inM "lay") 0 (s_ald 0 1) := snd_aload_n (j := 0) (by decide +kernel) rfl
  have h1 : Snd 0 RX11 cX11_lay 3 none (inM "lay") 1 (s_getf 10 0 4) := snd_getf (T := TX11) (f := 0) cI_10 (by decide) g_769 (by decide +kernel)
  have h4 : Snd 0 RX11 cX11_lay 3 none (inM "lay") 4 (s_push (.int 0) 5) := snd_iconst (n := 0) (by decide +kernel) (by decide)
  have h5 : Snd 0 RX11 cX11_lay 3 none (inM "lay") 5 (s_ild 1 6) := snd_iload_n (j := 1) (by decide +kernel) rfl
  have h6 : Snd 0 RX11 cX11_lay 3 none (inM "lay") 6 (s_iast 7) := snd_iast (by decide +kernel)
  have h7 : Snd 0 RX11 cX11_lay 3 none (inM "lay") 7 (s_ald 0 8) := snd_aload_n (j := 0) (by decide +kernel) rfl
  have h8 : Snd 0 RX11 cX11_lay 3 none (inM "lay") 8 (s_getf 10 0 11) := snd_getf (T := TX11) (f := 0) cI_10 (by decide) g_769 (by decide +kernel)
  have h11 : Snd 0 RX11 cX11_lay 3 none (inM "lay") 11 (s_push (.int 1) 12) := snd_iconst (n := 1) (by decide +kernel) (by decide)
  have h12 : Snd 0 RX11 cX11_lay 3 none (inM "lay") 12 (s_push (.int 0) 13) := snd_iconst (n := 0) (by decide +kernel) (by decide)
  have h13 : Snd 0 RX11 cX11_lay 3 none (inM "lay") 13 (s_iast 14) := snd_iast (by decide +kernel)
  have h14 : Snd 0 RX11 cX11_lay 3 none (inM "lay") 14 (s_ald 0 15) := snd_aload_n (j := 0) (by decide +kernel) rfl
  have h15 : Snd 0 RX11 cX11_lay 3 none (inM "lay") 15 (s_getf 10 0 18) := snd_getf (T := TX11) (f := 0) cI_10 (by decide) g_769 (by decide +kernel)
  have h18 : Snd 0 RX11 cX11_lay 3 none (inM "lay") 18 (s_push (.int 44) 20) := snd_bipush (n := 44) (by decide +kernel) (by decide)
  have h20 : Snd 0 RX11 cX11_lay 3 none (inM "lay") 20 (s_push (.int 0) 21) := snd_iconst (n := 0) (by decide +kernel) (by decide)
  have h21 : Snd 0 RX11 cX11_lay 3 none (inM "lay") 21 (s_iast 22) := snd_iast (by decide +kernel)
  have h22 : Snd 0 RX11 cX11_lay 3 none (inM "lay") 22 (s_ild 1 23) := snd_iload_n (j := 1) (by decide +kernel) rfl
  have h23 : Snd 0 RX11 cX11_lay 3 none (inM "lay") 23 (s_push (.int 2) 24) := snd_iconst (n := 2) (by decide +kernel) (by decide)
  have h24 : Snd 0 RX11 cX11_lay 3 none (inM "lay") 24 (s_irem 25) := snd_irem (by decide +kernel)
  have h25 : Snd 0 RX11 cX11_lay 3 none (inM "lay") 25 (s_push (.int 1) 26) := snd_iconst (n := 1) (by decide +kernel) (by decide)
  have h26 : Snd 0 RX11 cX11_lay 3 none (inM "lay") 26 (s_icne 35 29) := snd_icne (off := 9) (by decide +kernel) (by decide)
  have h29 : Snd 0 RX11 cX11_lay 3 none (inM "lay") 29 (s_push (.int 1) 30) := snd_iconst (n := 1) (by decide +kernel) (by decide)
  have h30 : Snd 0 RX11 cX11_lay 3 none (inM "lay") 30 (s_ild 1 31) := snd_iload_n (j := 1) (by decide +kernel) rfl
  have h31 : Snd 0 RX11 cX11_lay 3 none (inM "lay") 31 (s_ishl 32) := snd_ishl (by decide +kernel)
  have h32 : Snd 0 RX11 cX11_lay 3 none (inM "lay") 32 (s_goto 36) := snd_goto (off := 4) (by decide +kernel) (by decide)
  have h35 : Snd 0 RX11 cX11_lay 3 none (inM "lay") 35 (s_push (.int 0) 36) := snd_iconst (n := 0) (by decide +kernel) (by decide)
  have h36 : Snd 0 RX11 cX11_lay 3 none (inM "lay") 36 (s_ist 2 37) := snd_istore_n (j := 2) (by decide +kernel) rfl
  have h37 : Snd 0 RX11 cX11_lay 3 none (inM "lay") 37 (s_ald 0 38) := snd_aload_n (j := 0) (by decide +kernel) rfl
  have h38 : Snd 0 RX11 cX11_lay 3 none (inM "lay") 38 (s_getf 10 0 41) := snd_getf (T := TX11) (f := 0) cI_10 (by decide) g_769 (by decide +kernel)
  have h41 : Snd 0 RX11 cX11_lay 3 none (inM "lay") 41 (s_push (.int 42) 43) := snd_bipush (n := 42) (by decide +kernel) (by decide)
  have h43 : Snd 0 RX11 cX11_lay 3 none (inM "lay") 43 (s_push (.int 18) 45) := snd_bipush (n := 18) (by decide +kernel) (by decide)
  have h45 : Snd 0 RX11 cX11_lay 3 none (inM "lay") 45 (s_ild 2 46) := snd_iload_n (j := 2) (by decide +kernel) rfl
  have h46 : Snd 0 RX11 cX11_lay 3 none (inM "lay") 46 (s_ior 47) := snd_ior (by decide +kernel)
  have h47 : Snd 0 RX11 cX11_lay 3 none (inM "lay") 47 (s_iast 48) := snd_iast (by decide +kernel)
  have h48 : Snd 0 RX11 cX11_lay 3 none (inM "lay") 48 (s_ald 0 49) := snd_aload_n (j := 0) (by decide +kernel) rfl
  have h49 : Snd 0 RX11 cX11_lay 3 none (inM "lay") 49 (s_getf 10 0 52) := snd_getf (T := TX11) (f := 0) cI_10 (by decide) g_769 (by decide +kernel)
  have h52 : Snd 0 RX11 cX11_lay 3 none (inM "lay") 52 (s_push (.int 43) 54) := snd_bipush (n := 43) (by decide +kernel) (by decide)
  have h54 : Snd 0 RX11 cX11_lay 3 none (inM "lay") 54 (s_push (.int 30) 56) := snd_bipush (n := 30) (by decide +kernel) (by decide)
  have h56 : Snd 0 RX11 cX11_lay 3 none (inM "lay") 56 (s_ild 2 57) := snd_iload_n (j := 2) (by decide +kernel) rfl
  have h57 : Snd 0 RX11 cX11_lay 3 none (inM "lay") 57 (s_ior 58) := snd_ior (by decide +kernel)
  have h58 : Snd 0 RX11 cX11_lay 3 none (inM "lay") 58 (s_iast 59) := snd_iast (by decide +kernel)
  have h59 : Snd 0 RX11 cX11_lay 3 none (inM "lay") 59 (s_vret) := snd_vret (by decide +kernel)
  exact fun pc => snd_ite (snd_ite (snd_ite (snd_ite (snd_ite (snd_leaf (k := 0) h0) (snd_leaf (k := 1) h1)) (snd_ite (snd_leaf (k := 4) h4) (snd_ite (snd_leaf (k := 5) h5) (snd_leaf (k := 6) h6)))) (snd_ite (snd_ite (snd_leaf (k := 7) h7) (snd_leaf (k := 8) h8)) (snd_ite (snd_leaf (k := 11) h11) (snd_ite (snd_leaf (k := 12) h12) (snd_leaf (k := 13) h13))))) (snd_ite (snd_ite (snd_ite (snd_leaf (k := 14) h14) (snd_leaf (k := 15) h15)) (snd_ite (snd_leaf (k := 18) h18) (snd_ite (snd_leaf (k := 20) h20) (snd_leaf (k := 21) h21)))) (snd_ite (snd_ite (snd_leaf (k := 22) h22) (snd_leaf (k := 23) h23)) (snd_ite (snd_leaf (k := 24) h24) (snd_ite (snd_leaf (k := 25) h25) (snd_leaf (k := 26) h26)))))) (snd_ite (snd_ite (snd_ite (snd_ite (snd_leaf (k := 29) h29) (snd_leaf (k := 30) h30)) (snd_ite (snd_leaf (k := 31) h31) (snd_ite (snd_leaf (k := 32) h32) (snd_leaf (k := 35) h35)))) (snd_ite (snd_ite (snd_leaf (k := 36) h36) (snd_leaf (k := 37) h37)) (snd_ite (snd_leaf (k := 38) h38) (snd_ite (snd_leaf (k := 41) h41) (snd_leaf (k := 43) h43))))) (snd_ite (snd_ite (snd_ite (snd_leaf (k := 45) h45) (snd_leaf (k := 46) h46)) (snd_ite (snd_leaf (k := 47) h47) (snd_ite (snd_leaf (k := 48) h48) (snd_leaf (k := 49) h49)))) (snd_ite (snd_ite (snd_leaf (k := 52) h52) (snd_ite (snd_leaf (k := 54) h54) (snd_leaf (k := 56) h56))) (snd_ite (snd_leaf (k := 57) h57) (snd_ite (snd_leaf (k := 58) h58) (snd_leaf (k := 59) h59))))))
def pX11_lay : Spc := inl kX11_lay 3 46
theorem oX11_lay : Ok 0 yX11_lay cX11_lay 3 none pX11_lay := ok_inl (by decide) rfl sX11_lay

def kX11_letterOf : Nat → Stq := fun pc => if pc < 16 then (if pc < 7 then (if pc < 3 then (if pc < 1 then (if pc = 0 then s_ild 0 1 else s_bad) else (if pc = 1 then s_push (.int 112) 3 else s_bad)) else (if pc < 6 then (if pc = 3 then s_icne 10 6 else s_bad) else (if pc = 6 then s_push (.int 0) 7 else s_bad))) else (if pc < 11 then (if pc < 10 then (if pc = 7 then s_goto 32 else s_bad) else (if pc = 10 then s_ild 0 11 else s_bad)) else (if pc < 13 then (if pc = 11 then s_push (.int 98) 13 else s_bad) else (if pc = 13 then s_icne 20 16 else s_bad)))) else (if pc < 23 then (if pc < 20 then (if pc < 17 then (if pc = 16 then s_push (.int 1) 17 else s_bad) else (if pc = 17 then s_goto 32 else s_bad)) else (if pc < 21 then (if pc = 20 then s_ild 0 21 else s_bad) else (if pc = 21 then s_push (.int 115) 23 else s_bad))) else (if pc < 27 then (if pc < 26 then (if pc = 23 then s_icne 30 26 else s_bad) else (if pc = 26 then s_push (.int 2) 27 else s_bad)) else (if pc < 30 then (if pc = 27 then s_goto 32 else s_bad) else (if pc < 32 then (if pc = 30 then s_push (.int (-6)) 32 else s_bad) else (if pc = 32 then s_iret else s_bad)))))
set_option maxRecDepth 20000 in
theorem sX11_letterOf : ∀ pc, Snd 0 RX11 cX11_letterOf 1 (some .int) (inM "letterOf") pc (kX11_letterOf pc) := by
  have h0 : Snd 0 RX11 cX11_letterOf 1 (some .int) (inM "letterOf") 0 (s_ild 0 1) := snd_iload_n (j := 0) (by decide +kernel) rfl
  have h1 : Snd 0 RX11 cX11_letterOf 1 (some .int) (inM "letterOf") 1 (s_push (.int 112) 3) := snd_bipush (n := 112) (by decide +kernel) (by decide)
  have h3 : Snd 0 RX11 cX11_letterOf 1 (some .int) (inM "letterOf") 3 (s_icne 10 6) := snd_icne (off := 7) (by decide +kernel) (by decide)
  have h6 : Snd 0 RX11 cX11_letterOf 1 (some .int) (inM "letterOf") 6 (s_push (.int 0) 7) := snd_iconst (n := 0) (by decide +kernel) (by decide)
  have h7 : Snd 0 RX11 cX11_letterOf 1 (some .int) (inM "letterOf") 7 (s_goto 32) := snd_goto (off := 25) (by decide +kernel) (by decide)
  have h10 : Snd 0 RX11 cX11_letterOf 1 (some .int) (inM "letterOf") 10 (s_ild 0 11) := snd_iload_n (j := 0) (by decide +kernel) rfl
  have h11 : Snd 0 RX11 cX11_letterOf 1 (some .int) (inM "letterOf") 11 (s_push (.int 98) 13) := snd_bipush (n := 98) (by decide +kernel) (by decide)
  have h13 : Snd 0 RX11 cX11_letterOf 1 (some .int) (inM "letterOf") 13 (s_icne 20 16) := snd_icne (off := 7) (by decide +kernel) (by decide)
  have h16 : Snd 0 RX11 cX11_letterOf 1 (some .int) (inM "letterOf") 16 (s_push (.int 1) 17) := snd_iconst (n := 1) (by decide +kernel) (by decide)
  have h17 : Snd 0 RX11 cX11_letterOf 1 (some .int) (inM "letterOf") 17 (s_goto 32) := snd_goto (off := 15) (by decide +kernel) (by decide)
  have h20 : Snd 0 RX11 cX11_letterOf 1 (some .int) (inM "letterOf") 20 (s_ild 0 21) := snd_iload_n (j := 0) (by decide +kernel) rfl
  have h21 : Snd 0 RX11 cX11_letterOf 1 (some .int) (inM "letterOf") 21 (s_push (.int 115) 23) := snd_bipush (n := 115) (by decide +kernel) (by decide)
  have h23 : Snd 0 RX11 cX11_letterOf 1 (some .int) (inM "letterOf") 23 (s_icne 30 26) := snd_icne (off := 7) (by decide +kernel) (by decide)
  have h26 : Snd 0 RX11 cX11_letterOf 1 (some .int) (inM "letterOf") 26 (s_push (.int 2) 27) := snd_iconst (n := 2) (by decide +kernel) (by decide)
  have h27 : Snd 0 RX11 cX11_letterOf 1 (some .int) (inM "letterOf") 27 (s_goto 32) := snd_goto (off := 5) (by decide +kernel) (by decide)
  have h30 : Snd 0 RX11 cX11_letterOf 1 (some .int) (inM "letterOf") 30 (s_push (.int (-6)) 32) := snd_bipush (n := -6) (by decide +kernel) (by decide)
  have h32 : Snd 0 RX11 cX11_letterOf 1 (some .int) (inM "letterOf") 32 (s_iret) := snd_iret (by decide +kernel)
  exact fun pc => snd_ite (snd_ite (snd_ite (snd_ite (snd_leaf (k := 0) h0) (snd_leaf (k := 1) h1)) (snd_ite (snd_leaf (k := 3) h3) (snd_leaf (k := 6) h6))) (snd_ite (snd_ite (snd_leaf (k := 7) h7) (snd_leaf (k := 10) h10)) (snd_ite (snd_leaf (k := 11) h11) (snd_leaf (k := 13) h13)))) (snd_ite (snd_ite (snd_ite (snd_leaf (k := 16) h16) (snd_leaf (k := 17) h17)) (snd_ite (snd_leaf (k := 20) h20) (snd_leaf (k := 21) h21))) (snd_ite (snd_ite (snd_leaf (k := 23) h23) (snd_leaf (k := 26) h26)) (snd_ite (snd_leaf (k := 27) h27) (snd_ite (snd_leaf (k := 30) h30) (snd_leaf (k := 32) h32)))))
def pX11_letterOf : Spc := inl kX11_letterOf 1 22
theorem oX11_letterOf : Ok 0 yX11_letterOf cX11_letterOf 1 (some .int) pX11_letterOf := ok_inl (by decide) rfl sX11_letterOf

def kX11_many : Nat → Stq := fun pc => if pc < 4 then (if pc < 1 then (if pc = 0 then s_ald 0 1 else s_bad) else (if pc = 1 then s_getf 10 0 4 else s_bad)) else (if pc < 5 then (if pc = 4 then s_push (.int 0) 5 else s_bad) else (if pc < 6 then (if pc = 5 then s_iald 6 else s_bad) else (if pc = 6 then s_iret else s_bad)))
set_option maxRecDepth 20000 in
theorem sX11_many : ∀ pc, Snd 0 RX11 cX11_many 1 (some .int) (inM "many") pc (kX11_many pc) := by
  have h0 : Snd 0 RX11 cX11_many 1 (some .int) (inM "many") 0 (s_ald 0 1) := snd_aload_n (j := 0) (by decide +kernel) rfl
  have h1 : Snd 0 RX11 cX11_many 1 (some .int) (inM "many") 1 (s_getf 10 0 4) := snd_getf (T := TX11) (f := 0) cI_10 (by decide) g_769 (by decide +kernel)
  have h4 : Snd 0 RX11 cX11_many 1 (some .int) (inM "many") 4 (s_push (.int 0) 5) := snd_iconst (n := 0) (by decide +kernel) (by decide)
  have h5 : Snd 0 RX11 cX11_many 1 (some .int) (inM "many") 5 (s_iald 6) := snd_iald (by decide +kernel)
  have h6 : Snd 0 RX11 cX11_many 1 (some .int) (inM "many") 6 (s_iret) := snd_iret (by decide +kernel)
  exact fun pc => snd_ite (snd_ite (snd_leaf (k := 0) h0) (snd_leaf (k := 1) h1)) (snd_ite (snd_leaf (k := 4) h4) (snd_ite (snd_leaf (k := 5) h5) (snd_leaf (k := 6) h6)))
def pX11_many : Spc := inl kX11_many 1 10
theorem oX11_many : Ok 0 yX11_many cX11_many 1 (some .int) pX11_many := ok_inl (by decide) rfl sX11_many

def kX11_meet : Nat → Stq := fun pc => if pc < 24 then (if pc < 13 then (if pc < 5 then (if pc < 1 then (if pc = 0 then s_ald 0 1 else s_bad) else (if pc < 4 then (if pc = 1 then s_getf 10 16 4 else s_bad) else (if pc = 4 then s_ild 1 5 else s_bad))) else (if pc < 7 then (if pc < 6 then (if pc = 5 then s_iald 6 else s_bad) else (if pc = 6 then s_ald 0 7 else s_bad)) else (if pc < 10 then (if pc = 7 then s_getf 10 17 10 else s_bad) else (if pc = 10 then s_icne 15 13 else s_bad)))) else (if pc < 16 then (if pc < 14 then (if pc = 13 then s_push (.int 0) 14 else s_bad) else (if pc < 15 then (if pc = 14 then s_zret else s_bad) else (if pc = 15 then s_ald 0 16 else s_bad))) else (if pc < 20 then (if pc < 19 then (if pc = 16 then s_getf 10 16 19 else s_bad) else (if pc = 19 then s_ild 1 20 else s_bad)) else (if pc < 21 then (if pc = 20 then s_ald 0 21 else s_bad) else (if pc = 21 then s_getf 10 17 24 else s_bad))))) else (if pc < 35 then (if pc < 29 then (if pc < 25 then (if pc = 24 then s_iast 25 else s_bad) else (if pc < 26 then (if pc = 25 then s_ald 0 26 else s_bad) else (if pc = 26 then s_getf 10 18 29 else s_bad))) else (if pc < 33 then (if pc < 30 then (if pc = 29 then s_ald 0 30 else s_bad) else (if pc = 30 then s_getf 10 19 33 else s_bad)) else (if pc < 34 then (if pc = 33 then s_ild 1 34 else s_bad) else (if pc = 34 then s_iast 35 else s_bad)))) else (if pc < 41 then (if pc < 37 then (if pc < 36 then (if pc = 35 then s_ald 0 36 else s_bad) else (if pc = 36 then s_dup 37 else s_bad)) else (if pc < 40 then (if pc = 37 then s_getf 10 19 40 else s_bad) else (if pc = 40 then s_push (.int 1) 41 else s_bad))) else (if pc < 45 then (if pc < 42 then (if pc = 41 then s_iadd 42 else s_bad) else (if pc = 42 then s_puti 10 19 45 else s_bad)) else (if pc < 46 then (if pc = 45 then s_push (.int 1) 46 else s_bad) else (if pc = 46 then s_zret else s_bad)))))
set_option maxRecDepth 20000 in
theorem sX11_meet : ∀ pc, Snd 0 RX11 cX11_meet 2 (some .boolean) (inM "meet") pc (kX11_meet pc) := by
  have h0 : Snd 0 RX11 cX11_meet 2 (some .boolean) (inM "meet") 0 (s_ald 0 1) := snd_aload_n (j := 0) (by decide +kernel) rfl
  have h1 : Snd 0 RX11 cX11_meet 2 (some .boolean) (inM "meet") 1 (s_getf 10 16 4) := snd_getf (T := TX11) (f := 16) cI_10 (by decide) g_785 (by decide +kernel)
  have h4 : Snd 0 RX11 cX11_meet 2 (some .boolean) (inM "meet") 4 (s_ild 1 5) := snd_iload_n (j := 1) (by decide +kernel) rfl
  have h5 : Snd 0 RX11 cX11_meet 2 (some .boolean) (inM "meet") 5 (s_iald 6) := snd_iald (by decide +kernel)
  have h6 : Snd 0 RX11 cX11_meet 2 (some .boolean) (inM "meet") 6 (s_ald 0 7) := snd_aload_n (j := 0) (by decide +kernel) rfl
  have h7 : Snd 0 RX11 cX11_meet 2 (some .boolean) (inM "meet") 7 (s_getf 10 17 10) := snd_getf (T := TX11) (f := 17) cI_10 (by decide) g_786 (by decide +kernel)
  have h10 : Snd 0 RX11 cX11_meet 2 (some .boolean) (inM "meet") 10 (s_icne 15 13) := snd_icne (off := 5) (by decide +kernel) (by decide)
  have h13 : Snd 0 RX11 cX11_meet 2 (some .boolean) (inM "meet") 13 (s_push (.int 0) 14) := snd_iconst (n := 0) (by decide +kernel) (by decide)
  have h14 : Snd 0 RX11 cX11_meet 2 (some .boolean) (inM "meet") 14 (s_zret) := snd_zret (by decide +kernel)
  have h15 : Snd 0 RX11 cX11_meet 2 (some .boolean) (inM "meet") 15 (s_ald 0 16) := snd_aload_n (j := 0) (by decide +kernel) rfl
  have h16 : Snd 0 RX11 cX11_meet 2 (some .boolean) (inM "meet") 16 (s_getf 10 16 19) := snd_getf (T := TX11) (f := 16) cI_10 (by decide) g_785 (by decide +kernel)
  have h19 : Snd 0 RX11 cX11_meet 2 (some .boolean) (inM "meet") 19 (s_ild 1 20) := snd_iload_n (j := 1) (by decide +kernel) rfl
  have h20 : Snd 0 RX11 cX11_meet 2 (some .boolean) (inM "meet") 20 (s_ald 0 21) := snd_aload_n (j := 0) (by decide +kernel) rfl
  have h21 : Snd 0 RX11 cX11_meet 2 (some .boolean) (inM "meet") 21 (s_getf 10 17 24) := snd_getf (T := TX11) (f := 17) cI_10 (by decide) g_786 (by decide +kernel)
  have h24 : Snd 0 RX11 cX11_meet 2 (some .boolean) (inM "meet") 24 (s_iast 25) := snd_iast (by decide +kernel)
  have h25 : Snd 0 RX11 cX11_meet 2 (some .boolean) (inM "meet") 25 (s_ald 0 26) := snd_aload_n (j := 0) (by decide +kernel) rfl
  have h26 : Snd 0 RX11 cX11_meet 2 (some .boolean) (inM "meet") 26 (s_getf 10 18 29) := snd_getf (T := TX11) (f := 18) cI_10 (by decide) g_787 (by decide +kernel)
  have h29 : Snd 0 RX11 cX11_meet 2 (some .boolean) (inM "meet") 29 (s_ald 0 30) := snd_aload_n (j := 0) (by decide +kernel) rfl
  have h30 : Snd 0 RX11 cX11_meet 2 (some .boolean) (inM "meet") 30 (s_getf 10 19 33) := snd_getf (T := TX11) (f := 19) cI_10 (by decide) g_788 (by decide +kernel)
  have h33 : Snd 0 RX11 cX11_meet 2 (some .boolean) (inM "meet") 33 (s_ild 1 34) := snd_iload_n (j := 1) (by decide +kernel) rfl
  have h34 : Snd 0 RX11 cX11_meet 2 (some .boolean) (inM "meet") 34 (s_iast 35) := snd_iast (by decide +kernel)
  have h35 : Snd 0 RX11 cX11_meet 2 (some .boolean) (inM "meet") 35 (s_ald 0 36) := snd_aload_n (j := 0) (by decide +kernel) rfl
  have h36 : Snd 0 RX11 cX11_meet 2 (some .boolean) (inM "meet") 36 (s_dup 37) := snd_dup (by decide +kernel)
  have h37 : Snd 0 RX11 cX11_meet 2 (some .boolean) (inM "meet") 37 (s_getf 10 19 40) := snd_getf (T := TX11) (f := 19) cI_10 (by decide) g_788 (by decide +kernel)
  have h40 : Snd 0 RX11 cX11_meet 2 (some .boolean) (inM "meet") 40 (s_push (.int 1) 41) := snd_iconst (n := 1) (by decide +kernel) (by decide)
  have h41 : Snd 0 RX11 cX11_meet 2 (some .boolean) (inM "meet") 41 (s_iadd 42) := snd_iadd (by decide +kernel)
  have h42 : Snd 0 RX11 cX11_meet 2 (some .boolean) (inM "meet") 42 (s_puti 10 19 45) := snd_puti (T := TX11) (f := 19) cI_10 (by decide) g_788 (by decide) (by decide +kernel) (by decide +kernel)
  have h45 : Snd 0 RX11 cX11_meet 2 (some .boolean) (inM "meet") 45 (s_push (.int 1) 46) := snd_iconst (n := 1) (by decide +kernel) (by decide)
  have h46 : Snd 0 RX11 cX11_meet 2 (some .boolean) (inM "meet") 46 (s_zret) := snd_zret (by decide +kernel)
  exact fun pc => snd_ite (snd_ite (snd_ite (snd_ite (snd_leaf (k := 0) h0) (snd_ite (snd_leaf (k := 1) h1) (snd_leaf (k := 4) h4))) (snd_ite (snd_ite (snd_leaf (k := 5) h5) (snd_leaf (k := 6) h6)) (snd_ite (snd_leaf (k := 7) h7) (snd_leaf (k := 10) h10)))) (snd_ite (snd_ite (snd_leaf (k := 13) h13) (snd_ite (snd_leaf (k := 14) h14) (snd_leaf (k := 15) h15))) (snd_ite (snd_ite (snd_leaf (k := 16) h16) (snd_leaf (k := 19) h19)) (snd_ite (snd_leaf (k := 20) h20) (snd_leaf (k := 21) h21))))) (snd_ite (snd_ite (snd_ite (snd_leaf (k := 24) h24) (snd_ite (snd_leaf (k := 25) h25) (snd_leaf (k := 26) h26))) (snd_ite (snd_ite (snd_leaf (k := 29) h29) (snd_leaf (k := 30) h30)) (snd_ite (snd_leaf (k := 33) h33) (snd_leaf (k := 34) h34)))) (snd_ite (snd_ite (snd_ite (snd_leaf (k := 35) h35) (snd_leaf (k := 36) h36)) (snd_ite (snd_leaf (k := 37) h37) (snd_leaf (k := 40) h40))) (snd_ite (snd_ite (snd_leaf (k := 41) h41) (snd_leaf (k := 42) h42)) (snd_ite (snd_leaf (k := 45) h45) (snd_leaf (k := 46) h46)))))
def pX11_meet : Spc := inl kX11_meet 2 34
theorem oX11_meet : Ok 0 yX11_meet cX11_meet 2 (some .boolean) pX11_meet := ok_inl (by decide) rfl sX11_meet

def kX11_wipe : Nat → Stq := fun pc => if pc < 6 then (if pc < 4 then (if pc < 1 then (if pc = 0 then s_ald 0 1 else s_bad) else (if pc = 1 then s_getf 10 4 4 else s_bad)) else (if pc < 5 then (if pc = 4 then s_ist 1 5 else s_bad) else (if pc = 5 then s_ald 0 6 else s_bad))) else (if pc < 10 then (if pc < 7 then (if pc = 6 then s_push (.int 0) 7 else s_bad) else (if pc = 7 then s_puti 10 4 10 else s_bad)) else (if pc < 11 then (if pc = 10 then s_ild 1 11 else s_bad) else (if pc = 11 then s_iret else s_bad)))
set_option maxRecDepth 20000 in
theorem sX11_wipe : ∀ pc, Snd 0 RX11 cX11_wipe 2 (some .int) (inM "wipe") pc (kX11_wipe pc) := by
  have h0 : Snd 0 RX11 cX11_wipe 2 (some .int) (inM "wipe") 0 (s_ald 0 1) := snd_aload_n (j := 0) (by decide +kernel) rfl
  have h1 : Snd 0 RX11 cX11_wipe 2 (some .int) (inM "wipe") 1 (s_getf 10 4 4) := snd_getf (T := TX11) (f := 4) cI_10 (by decide) g_773 (by decide +kernel)
  have h4 : Snd 0 RX11 cX11_wipe 2 (some .int) (inM "wipe") 4 (s_ist 1 5) := snd_istore_n (j := 1) (by decide +kernel) rfl
  have h5 : Snd 0 RX11 cX11_wipe 2 (some .int) (inM "wipe") 5 (s_ald 0 6) := snd_aload_n (j := 0) (by decide +kernel) rfl
  have h6 : Snd 0 RX11 cX11_wipe 2 (some .int) (inM "wipe") 6 (s_push (.int 0) 7) := snd_iconst (n := 0) (by decide +kernel) (by decide)
  have h7 : Snd 0 RX11 cX11_wipe 2 (some .int) (inM "wipe") 7 (s_puti 10 4 10) := snd_puti (T := TX11) (f := 4) cI_10 (by decide) g_773 (by decide) (by decide +kernel) (by decide +kernel)
  have h10 : Snd 0 RX11 cX11_wipe 2 (some .int) (inM "wipe") 10 (s_ild 1 11) := snd_iload_n (j := 1) (by decide +kernel) rfl
  have h11 : Snd 0 RX11 cX11_wipe 2 (some .int) (inM "wipe") 11 (s_iret) := snd_iret (by decide +kernel)
  exact fun pc => snd_ite (snd_ite (snd_ite (snd_leaf (k := 0) h0) (snd_leaf (k := 1) h1)) (snd_ite (snd_leaf (k := 4) h4) (snd_leaf (k := 5) h5))) (snd_ite (snd_ite (snd_leaf (k := 6) h6) (snd_leaf (k := 7) h7)) (snd_ite (snd_leaf (k := 10) h10) (snd_leaf (k := 11) h11)))
def pX11_wipe : Spc := inl kX11_wipe 2 13
theorem oX11_wipe : Ok 0 yX11_wipe cX11_wipe 2 (some .int) pX11_wipe := ok_inl (by decide) rfl sX11_wipe
end
section
def kX10_say : Nat → Stq := fun pc => if pc < 16 then (if pc < 7 then (if pc < 3 then (if pc < 1 then (if pc = 0 then s_ild 1 1 else s_bad) else (if pc = 1 then s_push (.int 33) 3 else s_bad)) else (if pc < 6 then (if pc = 3 then s_iclt 12 6 else s_bad) else (if pc = 6 then s_ild 1 7 else s_bad))) else (if pc < 12 then (if pc < 9 then (if pc = 7 then s_push (.int 126) 9 else s_bad) else (if pc = 9 then s_icle 15 12 else s_bad)) else (if pc < 14 then (if pc = 12 then s_push (.int (-2)) 14 else s_bad) else (if pc < 15 then (if pc = 14 then s_iret else s_bad) else (if pc = 15 then s_ald 0 16 else s_bad))))) else (if pc < 27 then (if pc < 20 then (if pc < 19 then (if pc = 16 then s_getf 9 4 19 else s_bad) else (if pc = 19 then s_ild 1 20 else s_bad)) else (if pc < 23 then (if pc = 20 then s_invv 4 1 pX4_add 23 else s_bad) else (if pc < 26 then (if pc = 23 then s_ifeq 36 26 else s_bad) else (if pc = 26 then s_ald 0 27 else s_bad)))) else (if pc < 33 then (if pc < 30 then (if pc = 27 then s_getf 9 4 30 else s_bad) else (if pc = 30 then s_getf 4 1 33 else s_bad)) else (if pc < 36 then (if pc = 33 then s_goto 38 else s_bad) else (if pc < 38 then (if pc = 36 then s_push (.int (-4)) 38 else s_bad) else (if pc = 38 then s_iret else s_bad)))))
set_option maxRecDepth 20000 in
theorem sX10_say : ∀ pc, Snd 1 RX10 cX10_say 2 (some .int) (inM "say") pc (kX10_say pc) := by
  have h0 : Snd 1 RX10 cX10_say 2 (some .int) (inM "say") 0 (s_ild 1 1) := snd_iload_n (j := 1) (by decide +kernel) rfl
  have h1 : Snd 1 RX10 cX10_say 2 (some .int) (inM "say") 1 (s_push (.int 33) 3) := snd_bipush (n := 33) (by decide +kernel) (by decide)
  have h3 : Snd 1 RX10 cX10_say 2 (some .int) (inM "say") 3 (s_iclt 12 6) := snd_iclt (off := 9) (by decide +kernel) (by decide)
  have h6 : Snd 1 RX10 cX10_say 2 (some .int) (inM "say") 6 (s_ild 1 7) := snd_iload_n (j := 1) (by decide +kernel) rfl
  have h7 : Snd 1 RX10 cX10_say 2 (some .int) (inM "say") 7 (s_push (.int 126) 9) := snd_bipush (n := 126) (by decide +kernel) (by decide)
  have h9 : Snd 1 RX10 cX10_say 2 (some .int) (inM "say") 9 (s_icle 15 12) := snd_icle (off := 6) (by decide +kernel) (by decide)
  have h12 : Snd 1 RX10 cX10_say 2 (some .int) (inM "say") 12 (s_push (.int (-2)) 14) := snd_bipush (n := -2) (by decide +kernel) (by decide)
  have h14 : Snd 1 RX10 cX10_say 2 (some .int) (inM "say") 14 (s_iret) := snd_iret (by decide +kernel)
  have h15 : Snd 1 RX10 cX10_say 2 (some .int) (inM "say") 15 (s_ald 0 16) := snd_aload_n (j := 0) (by decide +kernel) rfl
  have h16 : Snd 1 RX10 cX10_say 2 (some .int) (inM "say") 16 (s_getf 9 4 19) := snd_getf (T := TX10) (f := 4) cI_9 (by decide) g_365 (by decide +kernel)
  have h19 : Snd 1 RX10 cX10_say 2 (some .int) (inM "say") 19 (s_ild 1 20) := snd_iload_n (j := 1) (by decide +kernel) rfl
  have h20 : Snd 1 RX10 cX10_say 2 (some .int) (inM "say") 20 (s_invv 4 1 pX4_add 23) := snd_invv cI_4 oX4_add (by decide) (by decide) g_406 g_403 g_404 g_405 g_72 ⟨by decide, by decide, by decide +kernel⟩ (by decide +kernel)
  have h23 : Snd 1 RX10 cX10_say 2 (some .int) (inM "say") 23 (s_ifeq 36 26) := snd_ifeq (off := 13) (by decide +kernel) (by decide)
  have h26 : Snd 1 RX10 cX10_say 2 (some .int) (inM "say") 26 (s_ald 0 27) := snd_aload_n (j := 0) (by decide +kernel) rfl
  have h27 : Snd 1 RX10 cX10_say 2 (some .int) (inM "say") 27 (s_getf 9 4 30) := snd_getf (T := TX10) (f := 4) cI_9 (by decide) g_365 (by decide +kernel)
  have h30 : Snd 1 RX10 cX10_say 2 (some .int) (inM "say") 30 (s_getf 4 1 33) := snd_getfN (T := TX4) (f := 1) cI_4 (by decide) g_146 (by decide +kernel)
  have h33 : Snd 1 RX10 cX10_say 2 (some .int) (inM "say") 33 (s_goto 38) := snd_goto (off := 5) (by decide +kernel) (by decide)
  have h36 : Snd 1 RX10 cX10_say 2 (some .int) (inM "say") 36 (s_push (.int (-4)) 38) := snd_bipush (n := -4) (by decide +kernel) (by decide)
  have h38 : Snd 1 RX10 cX10_say 2 (some .int) (inM "say") 38 (s_iret) := snd_iret (by decide +kernel)
  exact fun pc => snd_ite (snd_ite (snd_ite (snd_ite (snd_leaf (k := 0) h0) (snd_leaf (k := 1) h1)) (snd_ite (snd_leaf (k := 3) h3) (snd_leaf (k := 6) h6))) (snd_ite (snd_ite (snd_leaf (k := 7) h7) (snd_leaf (k := 9) h9)) (snd_ite (snd_leaf (k := 12) h12) (snd_ite (snd_leaf (k := 14) h14) (snd_leaf (k := 15) h15))))) (snd_ite (snd_ite (snd_ite (snd_leaf (k := 16) h16) (snd_leaf (k := 19) h19)) (snd_ite (snd_leaf (k := 20) h20) (snd_ite (snd_leaf (k := 23) h23) (snd_leaf (k := 26) h26)))) (snd_ite (snd_ite (snd_leaf (k := 27) h27) (snd_leaf (k := 30) h30)) (snd_ite (snd_leaf (k := 33) h33) (snd_ite (snd_leaf (k := 36) h36) (snd_leaf (k := 38) h38)))))
def pX10_say : Spc := inl kX10_say 2 24
theorem oX10_say : Ok 1 yX10_say cX10_say 2 (some .int) pX10_say := ok_inl (by decide) rfl sX10_say

def kX3_takeComma : Nat → Stq := fun pc => if pc < 23 then (if pc < 11 then (if pc < 4 then (if pc < 1 then (if pc = 0 then s_ald 0 1 else s_bad) else (if pc = 1 then s_getf 3 1 4 else s_bad)) else (if pc < 7 then (if pc = 4 then s_ifeq 23 7 else s_bad) else (if pc < 8 then (if pc = 7 then s_ald 0 8 else s_bad) else (if pc = 8 then s_getf 3 5 11 else s_bad)))) else (if pc < 16 then (if pc < 13 then (if pc = 11 then s_push (.int (-6)) 13 else s_bad) else (if pc = 13 then s_icne 23 16 else s_bad)) else (if pc < 17 then (if pc = 16 then s_ald 0 17 else s_bad) else (if pc < 20 then (if pc = 17 then s_invv 3 0 pX3_changeCanEnd 20 else s_bad) else (if pc = 20 then s_ifne 25 23 else s_bad))))) else (if pc < 30 then (if pc < 25 then (if pc < 24 then (if pc = 23 then s_push (.int 0) 24 else s_bad) else (if pc = 24 then s_zret else s_bad)) else (if pc < 26 then (if pc = 25 then s_ald 0 26 else s_bad) else (if pc < 27 then (if pc = 26 then s_ald 0 27 else s_bad) else (if pc = 27 then s_getf 3 4 30 else s_bad)))) else (if pc < 36 then (if pc < 33 then (if pc = 30 then s_puti 3 5 33 else s_bad) else (if pc < 34 then (if pc = 33 then s_ald 0 34 else s_bad) else (if pc = 34 then s_push (.int (-3)) 36 else s_bad))) else (if pc < 39 then (if pc = 36 then s_puti 3 2 39 else s_bad) else (if pc < 40 then (if pc = 39 then s_push (.int 1) 40 else s_bad) else (if pc = 40 then s_zret else s_bad)))))
set_option maxRecDepth 20000 in
theorem sX3_takeComma : ∀ pc, Snd 1 RX3 cX3_takeComma 1 (some .boolean) (inM "takeComma") pc (kX3_takeComma pc) := by
  have h0 : Snd 1 RX3 cX3_takeComma 1 (some .boolean) (inM "takeComma") 0 (s_ald 0 1) := snd_aload_n (j := 0) (by decide +kernel) rfl
  have h1 : Snd 1 RX3 cX3_takeComma 1 (some .boolean) (inM "takeComma") 1 (s_getf 3 1 4) := snd_getf (T := TX3) (f := 1) cI_3 (by decide) g_159 (by decide +kernel)
  have h4 : Snd 1 RX3 cX3_takeComma 1 (some .boolean) (inM "takeComma") 4 (s_ifeq 23 7) := snd_ifeq (off := 19) (by decide +kernel) (by decide)
  have h7 : Snd 1 RX3 cX3_takeComma 1 (some .boolean) (inM "takeComma") 7 (s_ald 0 8) := snd_aload_n (j := 0) (by decide +kernel) rfl
  have h8 : Snd 1 RX3 cX3_takeComma 1 (some .boolean) (inM "takeComma") 8 (s_getf 3 5 11) := snd_getf (T := TX3) (f := 5) cI_3 (by decide) g_163 (by decide +kernel)
  have h11 : Snd 1 RX3 cX3_takeComma 1 (some .boolean) (inM "takeComma") 11 (s_push (.int (-6)) 13) := snd_bipush (n := -6) (by decide +kernel) (by decide)
  have h13 : Snd 1 RX3 cX3_takeComma 1 (some .boolean) (inM "takeComma") 13 (s_icne 23 16) := snd_icne (off := 10) (by decide +kernel) (by decide)
  have h16 : Snd 1 RX3 cX3_takeComma 1 (some .boolean) (inM "takeComma") 16 (s_ald 0 17) := snd_aload_n (j := 0) (by decide +kernel) rfl
  have h17 : Snd 1 RX3 cX3_takeComma 1 (some .boolean) (inM "takeComma") 17 (s_invv 3 0 pX3_changeCanEnd 20) := snd_invv cI_3 oX3_changeCanEnd (by decide) (by decide) g_430 g_427 g_429 g_4 g_73 ⟨by decide, by decide, by decide +kernel⟩ (by decide +kernel)
  have h20 : Snd 1 RX3 cX3_takeComma 1 (some .boolean) (inM "takeComma") 20 (s_ifne 25 23) := snd_ifne (off := 5) (by decide +kernel) (by decide)
  have h23 : Snd 1 RX3 cX3_takeComma 1 (some .boolean) (inM "takeComma") 23 (s_push (.int 0) 24) := snd_iconst (n := 0) (by decide +kernel) (by decide)
  have h24 : Snd 1 RX3 cX3_takeComma 1 (some .boolean) (inM "takeComma") 24 (s_zret) := snd_zret (by decide +kernel)
  have h25 : Snd 1 RX3 cX3_takeComma 1 (some .boolean) (inM "takeComma") 25 (s_ald 0 26) := snd_aload_n (j := 0) (by decide +kernel) rfl
  have h26 : Snd 1 RX3 cX3_takeComma 1 (some .boolean) (inM "takeComma") 26 (s_ald 0 27) := snd_aload_n (j := 0) (by decide +kernel) rfl
  have h27 : Snd 1 RX3 cX3_takeComma 1 (some .boolean) (inM "takeComma") 27 (s_getf 3 4 30) := snd_getf (T := TX3) (f := 4) cI_3 (by decide) g_162 (by decide +kernel)
  have h30 : Snd 1 RX3 cX3_takeComma 1 (some .boolean) (inM "takeComma") 30 (s_puti 3 5 33) := snd_puti (T := TX3) (f := 5) cI_3 (by decide) g_163 (by decide) (by decide +kernel) (by decide +kernel)
  have h33 : Snd 1 RX3 cX3_takeComma 1 (some .boolean) (inM "takeComma") 33 (s_ald 0 34) := snd_aload_n (j := 0) (by decide +kernel) rfl
  have h34 : Snd 1 RX3 cX3_takeComma 1 (some .boolean) (inM "takeComma") 34 (s_push (.int (-3)) 36) := snd_bipush (n := -3) (by decide +kernel) (by decide)
  have h36 : Snd 1 RX3 cX3_takeComma 1 (some .boolean) (inM "takeComma") 36 (s_puti 3 2 39) := snd_puti (T := TX3) (f := 2) cI_3 (by decide) g_160 (by decide) (by decide +kernel) (by decide +kernel)
  have h39 : Snd 1 RX3 cX3_takeComma 1 (some .boolean) (inM "takeComma") 39 (s_push (.int 1) 40) := snd_iconst (n := 1) (by decide +kernel) (by decide)
  have h40 : Snd 1 RX3 cX3_takeComma 1 (some .boolean) (inM "takeComma") 40 (s_zret) := snd_zret (by decide +kernel)
  exact fun pc => snd_ite (snd_ite (snd_ite (snd_ite (snd_leaf (k := 0) h0) (snd_leaf (k := 1) h1)) (snd_ite (snd_leaf (k := 4) h4) (snd_ite (snd_leaf (k := 7) h7) (snd_leaf (k := 8) h8)))) (snd_ite (snd_ite (snd_leaf (k := 11) h11) (snd_leaf (k := 13) h13)) (snd_ite (snd_leaf (k := 16) h16) (snd_ite (snd_leaf (k := 17) h17) (snd_leaf (k := 20) h20))))) (snd_ite (snd_ite (snd_ite (snd_leaf (k := 23) h23) (snd_leaf (k := 24) h24)) (snd_ite (snd_leaf (k := 25) h25) (snd_ite (snd_leaf (k := 26) h26) (snd_leaf (k := 27) h27)))) (snd_ite (snd_ite (snd_leaf (k := 30) h30) (snd_ite (snd_leaf (k := 33) h33) (snd_leaf (k := 34) h34))) (snd_ite (snd_leaf (k := 36) h36) (snd_ite (snd_leaf (k := 39) h39) (snd_leaf (k := 40) h40)))))
def pX3_takeComma : Spc := inl kX3_takeComma 1 26
theorem oX3_takeComma : Ok 1 yX3_takeComma cX3_takeComma 1 (some .boolean) pX3_takeComma := ok_inl (by decide) rfl sX3_takeComma

def kX3_takeCross : Nat → Stq := fun pc => if pc < 35 then (if pc < 18 then (if pc < 8 then (if pc < 4 then (if pc < 1 then (if pc = 0 then s_ald 0 1 else s_bad) else (if pc = 1 then s_getf 3 2 4 else s_bad)) else (if pc < 7 then (if pc = 4 then s_ifeq 30 7 else s_bad) else (if pc = 7 then s_ald 0 8 else s_bad))) else (if pc < 14 then (if pc < 11 then (if pc = 8 then s_getf 3 1 11 else s_bad) else (if pc = 11 then s_ifeq 34 14 else s_bad)) else (if pc < 15 then (if pc = 14 then s_ald 0 15 else s_bad) else (if pc = 15 then s_getf 3 2 18 else s_bad)))) else (if pc < 27 then (if pc < 23 then (if pc < 20 then (if pc = 18 then s_push (.int (-3)) 20 else s_bad) else (if pc = 20 then s_iceq 30 23 else s_bad)) else (if pc < 24 then (if pc = 23 then s_ald 0 24 else s_bad) else (if pc = 24 then s_invv 3 0 pX3_changeCanEnd 27 else s_bad))) else (if pc < 31 then (if pc < 30 then (if pc = 27 then s_ifeq 34 30 else s_bad) else (if pc = 30 then s_push (.int 1) 31 else s_bad)) else (if pc < 34 then (if pc = 31 then s_goto 35 else s_bad) else (if pc = 34 then s_push (.int 0) 35 else s_bad))))) else (if pc < 49 then (if pc < 41 then (if pc < 37 then (if pc < 36 then (if pc = 35 then s_ist 1 36 else s_bad) else (if pc = 36 then s_ald 0 37 else s_bad)) else (if pc < 40 then (if pc = 37 then s_getf 3 0 40 else s_bad) else (if pc = 40 then s_push (.int 2) 41 else s_bad))) else (if pc < 45 then (if pc < 42 then (if pc = 41 then s_irem 42 else s_bad) else (if pc = 42 then s_ifne 49 45 else s_bad)) else (if pc < 46 then (if pc = 45 then s_ild 1 46 else s_bad) else (if pc = 46 then s_ifne 51 49 else s_bad)))) else (if pc < 53 then (if pc < 51 then (if pc < 50 then (if pc = 49 then s_push (.int 0) 50 else s_bad) else (if pc = 50 then s_zret else s_bad)) else (if pc < 52 then (if pc = 51 then s_ald 0 52 else s_bad) else (if pc = 52 then s_push (.int (-1)) 53 else s_bad))) else (if pc < 57 then (if pc < 56 then (if pc = 53 then s_puti 3 2 56 else s_bad) else (if pc = 56 then s_ald 0 57 else s_bad)) else (if pc < 60 then (if pc = 57 then s_invv 3 0 pX3_addSet 60 else s_bad) else (if pc = 60 then s_zret else s_bad)))))
set_option maxRecDepth 20000 in
theorem sX3_takeCross : ∀ pc, Snd 1 RX3 cX3_takeCross 2 (some .boolean) (inM "takeCross") pc (kX3_takeCross pc) := by
  have h0 : Snd 1 RX3 cX3_takeCross 2 (some .boolean) (inM "takeCross") 0 (s_ald 0 1) := snd_aload_n (j := 0) (by decide +kernel) rfl
  have h1 : Snd 1 RX3 cX3_takeCross 2 (some .boolean) (inM "takeCross") 1 (s_getf 3 2 4) := snd_getf (T := TX3) (f := 2) cI_3 (by decide) g_160 (by decide +kernel)
  have h4 : Snd 1 RX3 cX3_takeCross 2 (some .boolean) (inM "takeCross") 4 (s_ifeq 30 7) := snd_ifeq (off := 26) (by decide +kernel) (by decide)
  have h7 : Snd 1 RX3 cX3_takeCross 2 (some .boolean) (inM "takeCross") 7 (s_ald 0 8) := snd_aload_n (j := 0) (by decide +kernel) rfl
  have h8 : Snd 1 RX3 cX3_takeCross 2 (some .boolean) (inM "takeCross") 8 (s_getf 3 1 11) := snd_getf (T := TX3) (f := 1) cI_3 (by decide) g_159 (by decide +kernel)
  have h11 : Snd 1 RX3 cX3_takeCross 2 (some .boolean) (inM "takeCross") 11 (s_ifeq 34 14) := snd_ifeq (off := 23) (by decide +kernel) (by decide)
  have h14 : Snd 1 RX3 cX3_takeCross 2 (some .boolean) (inM "takeCross") 14 (s_ald 0 15) := snd_aload_n (j := 0) (by decide +kernel) rfl
  have h15 : Snd 1 RX3 cX3_takeCross 2 (some .boolean) (inM "takeCross") 15 (s_getf 3 2 18) := snd_getf (T := TX3) (f := 2) cI_3 (by decide) g_160 (by decide +kernel)
  have h18 : Snd 1 RX3 cX3_takeCross 2 (some .boolean) (inM "takeCross") 18 (s_push (.int (-3)) 20) := snd_bipush (n := -3) (by decide +kernel) (by decide)
  have h20 : Snd 1 RX3 cX3_takeCross 2 (some .boolean) (inM "takeCross") 20 (s_iceq 30 23) := snd_iceq (off := 10) (by decide +kernel) (by decide)
  have h23 : Snd 1 RX3 cX3_takeCross 2 (some .boolean) (inM "takeCross") 23 (s_ald 0 24) := snd_aload_n (j := 0) (by decide +kernel) rfl
  have h24 : Snd 1 RX3 cX3_takeCross 2 (some .boolean) (inM "takeCross") 24 (s_invv 3 0 pX3_changeCanEnd 27) := snd_invv cI_3 oX3_changeCanEnd (by decide) (by decide) g_430 g_427 g_429 g_4 g_73 ⟨by decide, by decide, by decide +kernel⟩ (by decide +kernel)
  have h27 : Snd 1 RX3 cX3_takeCross 2 (some .boolean) (inM "takeCross") 27 (s_ifeq 34 30) := snd_ifeq (off := 7) (by decide +kernel) (by decide)
  have h30 : Snd 1 RX3 cX3_takeCross 2 (some .boolean) (inM "takeCross") 30 (s_push (.int 1) 31) := snd_iconst (n := 1) (by decide +kernel) (by decide)
  have h31 : Snd 1 RX3 cX3_takeCross 2 (some .boolean) (inM "takeCross") 31 (s_goto 35) := snd_goto (off := 4) (by decide +kernel) (by decide)
  have h34 : Snd 1 RX3 cX3_takeCross 2 (some .boolean) (inM "takeCross") 34 (s_push (.int 0) 35) := snd_iconst (n := 0) (by decide +kernel) (by decide)
  have h35 : Snd 1 RX3 cX3_takeCross 2 (some .boolean) (inM "takeCross") 35 (s_ist 1 36) := snd_istore_n (j := 1) (by decide +kernel) rfl
  have h36 : Snd 1 RX3 cX3_takeCross 2 (some .boolean) (inM "takeCross") 36 (s_ald 0 37) := snd_aload_n (j := 0) (by decide +kernel) rfl
  have h37 : Snd 1 RX3 cX3_takeCross 2 (some .boolean) (inM "takeCross") 37 (s_getf 3 0 40) := snd_getf (T := TX3) (f := 0) cI_3 (by decide) g_158 (by decide +kernel)
  have h40 : Snd 1 RX3 cX3_takeCross 2 (some .boolean) (inM "takeCross") 40 (s_push (.int 2) 41) := snd_iconst (n := 2) (by decide +kernel) (by decide)
  have h41 : Snd 1 RX3 cX3_takeCross 2 (some .boolean) (inM "takeCross") 41 (s_irem 42) := snd_irem (by decide +kernel)
  have h42 : Snd 1 RX3 cX3_takeCross 2 (some .boolean) (inM "takeCross") 42 (s_ifne 49 45) := snd_ifne (off := 7) (by decide +kernel) (by decide)
  have h45 : Snd 1 RX3 cX3_takeCross 2 (some .boolean) (inM "takeCross") 45 (s_ild 1 46) := snd_iload_n (j := 1) (by decide +kernel) rfl
  have h46 : Snd 1 RX3 cX3_takeCross 2 (some .boolean) (inM "takeCross") 46 (s_ifne 51 49) := snd_ifne (off := 5) (by decide +kernel) (by decide)
  have h49 : Snd 1 RX3 cX3_takeCross 2 (some .boolean) (inM "takeCross") 49 (s_push (.int 0) 50) := snd_iconst (n := 0) (by decide +kernel) (by decide)
  have h50 : Snd 1 RX3 cX3_takeCross 2 (some .boolean) (inM "takeCross") 50 (s_zret) := snd_zret (by decide +kernel)
  have h51 : Snd 1 RX3 cX3_takeCross 2 (some .boolean) (inM "takeCross") 51 (s_ald 0 52) := snd_aload_n (j := 0) (by decide +kernel) rfl
  have h52 : Snd 1 RX3 cX3_takeCross 2 (some .boolean) (inM "takeCross") 52 (s_push (.int (-1)) 53) := snd_iconst (n := -1) (by decide +kernel) (by decide)
  have h53 : Snd 1 RX3 cX3_takeCross 2 (some .boolean) (inM "takeCross") 53 (s_puti 3 2 56) := snd_puti (T := TX3) (f := 2) cI_3 (by decide) g_160 (by decide) (by decide +kernel) (by decide +kernel)
  have h56 : Snd 1 RX3 cX3_takeCross 2 (some .boolean) (inM "takeCross") 56 (s_ald 0 57) := snd_aload_n (j := 0) (by decide +kernel) rfl
  have h57 : Snd 1 RX3 cX3_takeCross 2 (some .boolean) (inM "takeCross") 57 (s_invv 3 0 pX3_addSet 60) := snd_invv cI_3 oX3_addSet (by decide) (by decide) g_434 g_431 g_433 g_5 g_73 ⟨by decide, by decide, by decide +kernel⟩ (by decide +kernel)
  have h60 : Snd 1 RX3 cX3_takeCross 2 (some .boolean) (inM "takeCross") 60 (s_zret) := snd_zret (by decide +kernel)
  exact fun pc => snd_ite (snd_ite (snd_ite (snd_ite (snd_ite (snd_leaf (k := 0) h0) (snd_leaf (k := 1) h1)) (snd_ite (snd_leaf (k := 4) h4) (snd_leaf (k := 7) h7))) (snd_ite (snd_ite (snd_leaf (k := 8) h8) (snd_leaf (k := 11) h11)) (snd_ite (snd_leaf (k := 14) h14) (snd_leaf (k := 15) h15)))) (snd_ite (snd_ite (snd_ite (snd_leaf (k := 18) h18) (snd_leaf (k := 20) h20)) (snd_ite (snd_leaf (k := 23) h23) (snd_leaf (k := 24) h24))) (snd_ite (snd_ite (snd_leaf (k := 27) h27) (snd_leaf (k := 30) h30)) (snd_ite (snd_leaf (k := 31) h31) (snd_leaf (k := 34) h34))))) (snd_ite (snd_ite (snd_ite (snd_ite (snd_leaf (k := 35) h35) (snd_leaf (k := 36) h36)) (snd_ite (snd_leaf (k := 37) h37) (snd_leaf (k := 40) h40))) (snd_ite (snd_ite (snd_leaf (k := 41) h41) (snd_leaf (k := 42) h42)) (snd_ite (snd_leaf (k := 45) h45) (snd_leaf (k := 46) h46)))) (snd_ite (snd_ite (snd_ite (snd_leaf (k := 49) h49) (snd_leaf (k := 50) h50)) (snd_ite (snd_leaf (k := 51) h51) (snd_leaf (k := 52) h52))) (snd_ite (snd_ite (snd_leaf (k := 53) h53) (snd_leaf (k := 56) h56)) (snd_ite (snd_leaf (k := 57) h57) (snd_leaf (k := 60) h60)))))
def pX3_takeCross : Spc := inl kX3_takeCross 2 37
theorem oX3_takeCross : Ok 1 yX3_takeCross cX3_takeCross 2 (some .boolean) pX3_takeCross := ok_inl (by decide) rfl sX3_takeCross

def kX3_takeFigure : Nat → Stq := fun pc => if pc < 53 then (if pc < 23 then (if pc < 11 then (if pc < 5 then (if pc < 1 then (if pc = 0 then s_ald 0 1 else s_bad) else (if pc < 4 then (if pc = 1 then s_getf 3 2 4 else s_bad) else (if pc = 4 then s_push (.int 0) 5 else s_bad))) else (if pc < 9 then (if pc < 8 then (if pc = 5 then s_mmax 8 else s_bad) else (if pc = 8 then s_ist 2 9 else s_bad)) else (if pc < 10 then (if pc = 9 then s_ild 1 10 else s_bad) else (if pc = 10 then s_ild 2 11 else s_bad)))) else (if pc < 15 then (if pc < 13 then (if pc < 12 then (if pc = 11 then s_isub 12 else s_bad) else (if pc = 12 then s_push (.int 2) 13 else s_bad)) else (if pc < 14 then (if pc = 13 then s_irem 14 else s_bad) else (if pc = 14 then s_push (.int 1) 15 else s_bad))) else (if pc < 19 then (if pc < 18 then (if pc = 15 then s_icne 22 18 else s_bad) else (if pc = 18 then s_push (.int 1) 19 else s_bad)) else (if pc < 22 then (if pc = 19 then s_goto 23 else s_bad) else (if pc = 22 then s_push (.int 0) 23 else s_bad))))) else (if pc < 37 then (if pc < 29 then (if pc < 25 then (if pc < 24 then (if pc = 23 then s_ist 3 24 else s_bad) else (if pc = 24 then s_ild 1 25 else s_bad)) else (if pc < 26 then (if pc = 25 then s_ild 2 26 else s_bad) else (if pc = 26 then s_icle 56 29 else s_bad))) else (if pc < 31 then (if pc < 30 then (if pc = 29 then s_ild 1 30 else s_bad) else (if pc = 30 then s_ald 0 31 else s_bad)) else (if pc < 34 then (if pc = 31 then s_getf 3 0 34 else s_bad) else (if pc = 34 then s_icgt 56 37 else s_bad)))) else (if pc < 45 then (if pc < 41 then (if pc < 38 then (if pc = 37 then s_ild 3 38 else s_bad) else (if pc = 38 then s_ifeq 56 41 else s_bad)) else (if pc < 42 then (if pc = 41 then s_ald 0 42 else s_bad) else (if pc = 42 then s_getf 3 1 45 else s_bad))) else (if pc < 49 then (if pc < 48 then (if pc = 45 then s_ifne 58 48 else s_bad) else (if pc = 48 then s_ald 0 49 else s_bad)) else (if pc < 52 then (if pc = 49 then s_getf 3 2 52 else s_bad) else (if pc = 52 then s_push (.int (-1)) 53 else s_bad)))))) else (if pc < 82 then (if pc < 66 then (if pc < 58 then (if pc < 56 then (if pc = 53 then s_icne 58 56 else s_bad) else (if pc < 57 then (if pc = 56 then s_push (.int 0) 57 else s_bad) else (if pc = 57 then s_zret else s_bad))) else (if pc < 62 then (if pc < 59 then (if pc = 58 then s_ild 2 59 else s_bad) else (if pc = 59 then s_ifne 71 62 else s_bad)) else (if pc < 63 then (if pc = 62 then s_ald 0 63 else s_bad) else (if pc = 63 then s_invv 3 0 pX3_addSet 66 else s_bad)))) else (if pc < 72 then (if pc < 70 then (if pc < 69 then (if pc = 66 then s_ifne 71 69 else s_bad) else (if pc = 69 then s_push (.int 0) 70 else s_bad)) else (if pc < 71 then (if pc = 70 then s_zret else s_bad) else (if pc = 71 then s_ald 0 72 else s_bad))) else (if pc < 78 then (if pc < 75 then (if pc = 72 then s_getf 3 4 75 else s_bad) else (if pc = 75 then s_ifle 95 78 else s_bad)) else (if pc < 79 then (if pc = 78 then s_ald 0 79 else s_bad) else (if pc = 79 then s_getf 3 3 82 else s_bad))))) else (if pc < 92 then (if pc < 88 then (if pc < 86 then (if pc < 83 then (if pc = 82 then s_ald 0 83 else s_bad) else (if pc = 83 then s_getf 3 4 86 else s_bad)) else (if pc < 87 then (if pc = 86 then s_push (.int 1) 87 else s_bad) else (if pc = 87 then s_isub 88 else s_bad))) else (if pc < 90 then (if pc < 89 then (if pc = 88 then s_dup2 89 else s_bad) else (if pc = 89 then s_iald 90 else s_bad)) else (if pc < 91 then (if pc = 90 then s_push (.int 1) 91 else s_bad) else (if pc = 91 then s_ild 1 92 else s_bad)))) else (if pc < 96 then (if pc < 94 then (if pc < 93 then (if pc = 92 then s_ishl 93 else s_bad) else (if pc = 93 then s_ior 94 else s_bad)) else (if pc < 95 then (if pc = 94 then s_iast 95 else s_bad) else (if pc = 95 then s_ald 0 96 else s_bad))) else (if pc < 100 then (if pc < 97 then (if pc = 96 then s_ild 1 97 else s_bad) else (if pc = 97 then s_puti 3 2 100 else s_bad)) else (if pc < 101 then (if pc = 100 then s_push (.int 1) 101 else s_bad) else (if pc = 101 then s_zret else s_bad))))))
set_option maxRecDepth 20000 in
theorem sX3_takeFigure : ∀ pc, Snd 1 RX3 cX3_takeFigure 4 (some .boolean) (inM "takeFigure") pc (kX3_takeFigure pc) := by
  have h0 : Snd 1 RX3 cX3_takeFigure 4 (some .boolean) (inM "takeFigure") 0 (s_ald 0 1) := snd_aload_n (j := 0) (by decide +kernel) rfl
  have h1 : Snd 1 RX3 cX3_takeFigure 4 (some .boolean) (inM "takeFigure") 1 (s_getf 3 2 4) := snd_getf (T := TX3) (f := 2) cI_3 (by decide) g_160 (by decide +kernel)
  have h4 : Snd 1 RX3 cX3_takeFigure 4 (some .boolean) (inM "takeFigure") 4 (s_push (.int 0) 5) := snd_iconst (n := 0) (by decide +kernel) (by decide)
  have h5 : Snd 1 RX3 cX3_takeFigure 4 (some .boolean) (inM "takeFigure") 5 (s_mmax 8) := snd_mmax (by decide) g_447 g_448 g_82 g_449 (by decide +kernel)
  have h8 : Snd 1 RX3 cX3_takeFigure 4 (some .boolean) (inM "takeFigure") 8 (s_ist 2 9) := snd_istore_n (j := 2) (by decide +kernel) rfl
  have h9 : Snd 1 RX3 cX3_takeFigure 4 (some .boolean) (inM "takeFigure") 9 (s_ild 1 10) := snd_iload_n (j := 1) (by decide +kernel) rfl
  have h10 : Snd 1 RX3 cX3_takeFigure 4 (some .boolean) (inM "takeFigure") 10 (s_ild 2 11) := snd_iload_n (j := 2) (by decide +kernel) rfl
  have h11 : Snd 1 RX3 cX3_takeFigure 4 (some .boolean) (inM "takeFigure") 11 (s_isub 12) := snd_isub (by decide +kernel)
  have h12 : Snd 1 RX3 cX3_takeFigure 4 (some .boolean) (inM "takeFigure") 12 (s_push (.int 2) 13) := snd_iconst (n := 2) (by decide +kernel) (by decide)
  have h13 : Snd 1 RX3 cX3_takeFigure 4 (some .boolean) (inM "takeFigure") 13 (s_irem 14) := snd_irem (by decide +kernel)
  have h14 : Snd 1 RX3 cX3_takeFigure 4 (some .boolean) (inM "takeFigure") 14 (s_push (.int 1) 15) := snd_iconst (n := 1) (by decide +kernel) (by decide)
  have h15 : Snd 1 RX3 cX3_takeFigure 4 (some .boolean) (inM "takeFigure") 15 (s_icne 22 18) := snd_icne (off := 7) (by decide +kernel) (by decide)
  have h18 : Snd 1 RX3 cX3_takeFigure 4 (some .boolean) (inM "takeFigure") 18 (s_push (.int 1) 19) := snd_iconst (n := 1) (by decide +kernel) (by decide)
  have h19 : Snd 1 RX3 cX3_takeFigure 4 (some .boolean) (inM "takeFigure") 19 (s_goto 23) := snd_goto (off := 4) (by decide +kernel) (by decide)
  have h22 : Snd 1 RX3 cX3_takeFigure 4 (some .boolean) (inM "takeFigure") 22 (s_push (.int 0) 23) := snd_iconst (n := 0) (by decide +kernel) (by decide)
  have h23 : Snd 1 RX3 cX3_takeFigure 4 (some .boolean) (inM "takeFigure") 23 (s_ist 3 24) := snd_istore_n (j := 3) (by decide +kernel) rfl
  have h24 : Snd 1 RX3 cX3_takeFigure 4 (some .boolean) (inM "takeFigure") 24 (s_ild 1 25) := snd_iload_n (j := 1) (by decide +kernel) rfl
  have h25 : Snd 1 RX3 cX3_takeFigure 4 (some .boolean) (inM "takeFigure") 25 (s_ild 2 26) := snd_iload_n (j := 2) (by decide +kernel) rfl
  have h26 : Snd 1 RX3 cX3_takeFigure 4 (some .boolean) (inM "takeFigure") 26 (s_icle 56 29) := snd_icle (off := 30) (by decide +kernel) (by decide)
  have h29 : Snd 1 RX3 cX3_takeFigure 4 (some .boolean) (inM "takeFigure") 29 (s_ild 1 30) := snd_iload_n (j := 1) (by decide +kernel) rfl
  have h30 : Snd 1 RX3 cX3_takeFigure 4 (some .boolean) (inM "takeFigure") 30 (s_ald 0 31) := snd_aload_n (j := 0) (by decide +kernel) rfl
  have h31 : Snd 1 RX3 cX3_takeFigure 4 (some .boolean) (inM "takeFigure") 31 (s_getf 3 0 34) := snd_getf (T := TX3) (f := 0) cI_3 (by decide) g_158 (by decide +kernel)
  have h34 : Snd 1 RX3 cX3_takeFigure 4 (some .boolean) (inM "takeFigure") 34 (s_icgt 56 37) := snd_icgt (off := 22) (by decide +kernel) (by decide)
  have h37 : Snd 1 RX3 cX3_takeFigure 4 (some .boolean) (inM "takeFigure") 37 (s_ild 3 38) := snd_iload_n (j := 3) (by decide +kernel) rfl
  have h38 : Snd 1 RX3 cX3_takeFigure 4 (some .boolean) (inM "takeFigure") 38 (s_ifeq 56 41) := snd_ifeq (off := 18) (by decide +kernel) (by decide)
  have h41 : Snd 1 RX3 cX3_takeFigure 4 (some .boolean) (inM "takeFigure") 41 (s_ald 0 42) := snd_aload_n (j := 0) (by decide +kernel) rfl
  have h42 : Snd 1 RX3 cX3_takeFigure 4 (some .boolean) (inM "takeFigure") 42 (s_getf 3 1 45) := snd_getf (T := TX3) (f := 1) cI_3 (by decide) g_159 (by decide +kernel)
  have h45 : Snd 1 RX3 cX3_takeFigure 4 (some .boolean) (inM "takeFigure") 45 (s_ifne 58 48) := snd_ifne (off := 13) (by decide +kernel) (by decide)
  have h48 : Snd 1 RX3 cX3_takeFigure 4 (some .boolean) (inM "takeFigure") 48 (s_ald 0 49) := snd_aload_n (j := 0) (by decide +kernel) rfl
  have h49 : Snd 1 RX3 cX3_takeFigure 4 (some .boolean) (inM "takeFigure") 49 (s_getf 3 2 52) := snd_getf (T := TX3) (f := 2) cI_3 (by decide) g_160 (by decide +kernel)
  have h52 : Snd 1 RX3 cX3_takeFigure 4 (some .boolean) (inM "takeFigure") 52 (s_push (.int (-1)) 53) := snd_iconst (n := -1) (by decide +kernel) (by decide)
  have h53 : Snd 1 RX3 cX3_takeFigure 4 (some .boolean) (inM "takeFigure") 53 (s_icne 58 56) := snd_icne (off := 5) (by decide +kernel) (by decide)
  have h56 : Snd 1 RX3 cX3_takeFigure 4 (some .boolean) (inM "takeFigure") 56 (s_push (.int 0) 57) := snd_iconst (n := 0) (by decide +kernel) (by decide)
  have h57 : Snd 1 RX3 cX3_takeFigure 4 (some .boolean) (inM "takeFigure") 57 (s_zret) := snd_zret (by decide +kernel)
  have h58 : Snd 1 RX3 cX3_takeFigure 4 (some .boolean) (inM "takeFigure") 58 (s_ild 2 59) := snd_iload_n (j := 2) (by decide +kernel) rfl
  have h59 : Snd 1 RX3 cX3_takeFigure 4 (some .boolean) (inM "takeFigure") 59 (s_ifne 71 62) := snd_ifne (off := 12) (by decide +kernel) (by decide)
  have h62 : Snd 1 RX3 cX3_takeFigure 4 (some .boolean) (inM "takeFigure") 62 (s_ald 0 63) := snd_aload_n (j := 0) (by decide +kernel) rfl
  have h63 : Snd 1 RX3 cX3_takeFigure 4 (some .boolean) (inM "takeFigure") 63 (s_invv 3 0 pX3_addSet 66) := snd_invv cI_3 oX3_addSet (by decide) (by decide) g_434 g_431 g_433 g_5 g_73 ⟨by decide, by decide, by decide +kernel⟩ (by decide +kernel)
  have h66 : Snd 1 RX3 cX3_takeFigure 4 (some .boolean) (inM "takeFigure") 66 (s_ifne 71 69) := snd_ifne (off := 5) (by decide +kernel) (by decide)
  have h69 : Snd 1 RX3 cX3_takeFigure 4 (some .boolean) (inM "takeFigure") 69 (s_push (.int 0) 70) := snd_iconst (n := 0) (by decide +kernel) (by decide)
  have h70 : Snd 1 RX3 cX3_takeFigure 4 (some .boolean) (inM "takeFigure") 70 (s_zret) := snd_zret (by decide +kernel)
  have h71 : Snd 1 RX3 cX3_takeFigure 4 (some .boolean) (inM "takeFigure") 71 (s_ald 0 72) := snd_aload_n (j := 0) (by decide +kernel) rfl
  have h72 : Snd 1 RX3 cX3_takeFigure 4 (some .boolean) (inM "takeFigure") 72 (s_getf 3 4 75) := snd_getf (T := TX3) (f := 4) cI_3 (by decide) g_162 (by decide +kernel)
  have h75 : Snd 1 RX3 cX3_takeFigure 4 (some .boolean) (inM "takeFigure") 75 (s_ifle 95 78) := snd_ifle (off := 20) (by decide +kernel) (by decide)
  have h78 : Snd 1 RX3 cX3_takeFigure 4 (some .boolean) (inM "takeFigure") 78 (s_ald 0 79) := snd_aload_n (j := 0) (by decide +kernel) rfl
  have h79 : Snd 1 RX3 cX3_takeFigure 4 (some .boolean) (inM "takeFigure") 79 (s_getf 3 3 82) := snd_getf (T := TX3) (f := 3) cI_3 (by decide) g_161 (by decide +kernel)
  have h82 : Snd 1 RX3 cX3_takeFigure 4 (some .boolean) (inM "takeFigure") 82 (s_ald 0 83) := snd_aload_n (j := 0) (by decide +kernel) rfl
  have h83 : Snd 1 RX3 cX3_takeFigure 4 (some .boolean) (inM "takeFigure") 83 (s_getf 3 4 86) := snd_getf (T := TX3) (f := 4) cI_3 (by decide) g_162 (by decide +kernel)
  have h86 : Snd 1 RX3 cX3_takeFigure 4 (some .boolean) (inM "takeFigure") 86 (s_push (.int 1) 87) := snd_iconst (n := 1) (by decide +kernel) (by decide)
  have h87 : Snd 1 RX3 cX3_takeFigure 4 (some .boolean) (inM "takeFigure") 87 (s_isub 88) := snd_isub (by decide +kernel)
  have h88 : Snd 1 RX3 cX3_takeFigure 4 (some .boolean) (inM "takeFigure") 88 (s_dup2 89) := snd_dup2 (by decide +kernel)
  have h89 : Snd 1 RX3 cX3_takeFigure 4 (some .boolean) (inM "takeFigure") 89 (s_iald 90) := snd_iald (by decide +kernel)
  have h90 : Snd 1 RX3 cX3_takeFigure 4 (some .boolean) (inM "takeFigure") 90 (s_push (.int 1) 91) := snd_iconst (n := 1) (by decide +kernel) (by decide)
  have h91 : Snd 1 RX3 cX3_takeFigure 4 (some .boolean) (inM "takeFigure") 91 (s_ild 1 92) := snd_iload_n (j := 1) (by decide +kernel) rfl
  have h92 : Snd 1 RX3 cX3_takeFigure 4 (some .boolean) (inM "takeFigure") 92 (s_ishl 93) := snd_ishl (by decide +kernel)
  have h93 : Snd 1 RX3 cX3_takeFigure 4 (some .boolean) (inM "takeFigure") 93 (s_ior 94) := snd_ior (by decide +kernel)
  have h94 : Snd 1 RX3 cX3_takeFigure 4 (some .boolean) (inM "takeFigure") 94 (s_iast 95) := snd_iast (by decide +kernel)
  have h95 : Snd 1 RX3 cX3_takeFigure 4 (some .boolean) (inM "takeFigure") 95 (s_ald 0 96) := snd_aload_n (j := 0) (by decide +kernel) rfl
  have h96 : Snd 1 RX3 cX3_takeFigure 4 (some .boolean) (inM "takeFigure") 96 (s_ild 1 97) := snd_iload_n (j := 1) (by decide +kernel) rfl
  have h97 : Snd 1 RX3 cX3_takeFigure 4 (some .boolean) (inM "takeFigure") 97 (s_puti 3 2 100) := snd_puti (T := TX3) (f := 2) cI_3 (by decide) g_160 (by decide) (by decide +kernel) (by decide +kernel)
  have h100 : Snd 1 RX3 cX3_takeFigure 4 (some .boolean) (inM "takeFigure") 100 (s_push (.int 1) 101) := snd_iconst (n := 1) (by decide +kernel) (by decide)
  have h101 : Snd 1 RX3 cX3_takeFigure 4 (some .boolean) (inM "takeFigure") 101 (s_zret) := snd_zret (by decide +kernel)
  exact fun pc => snd_ite (snd_ite (snd_ite (snd_ite (snd_ite (snd_leaf (k := 0) h0) (snd_ite (snd_leaf (k := 1) h1) (snd_leaf (k := 4) h4))) (snd_ite (snd_ite (snd_leaf (k := 5) h5) (snd_leaf (k := 8) h8)) (snd_ite (snd_leaf (k := 9) h9) (snd_leaf (k := 10) h10)))) (snd_ite (snd_ite (snd_ite (snd_leaf (k := 11) h11) (snd_leaf (k := 12) h12)) (snd_ite (snd_leaf (k := 13) h13) (snd_leaf (k := 14) h14))) (snd_ite (snd_ite (snd_leaf (k := 15) h15) (snd_leaf (k := 18) h18)) (snd_ite (snd_leaf (k := 19) h19) (snd_leaf (k := 22) h22))))) (snd_ite (snd_ite (snd_ite (snd_ite (snd_leaf (k := 23) h23) (snd_leaf (k := 24) h24)) (snd_ite (snd_leaf (k := 25) h25) (snd_leaf (k := 26) h26))) (snd_ite (snd_ite (snd_leaf (k := 29) h29) (snd_leaf (k := 30) h30)) (snd_ite (snd_leaf (k := 31) h31) (snd_leaf (k := 34) h34)))) (snd_ite (snd_ite (snd_ite (snd_leaf (k := 37) h37) (snd_leaf (k := 38) h38)) (snd_ite (snd_leaf (k := 41) h41) (snd_leaf (k := 42) h42))) (snd_ite (snd_ite (snd_leaf (k := 45) h45) (snd_leaf (k := 48) h48)) (snd_ite (snd_leaf (k := 49) h49) (snd_leaf (k := 52) h52)))))) (snd_ite (snd_ite (snd_ite (snd_ite (snd_leaf (k := 53) h53) (snd_ite (snd_leaf (k := 56) h56) (snd_leaf (k := 57) h57))) (snd_ite (snd_ite (snd_leaf (k := 58) h58) (snd_leaf (k := 59) h59)) (snd_ite (snd_leaf (k := 62) h62) (snd_leaf (k := 63) h63)))) (snd_ite (snd_ite (snd_ite (snd_leaf (k := 66) h66) (snd_leaf (k := 69) h69)) (snd_ite (snd_leaf (k := 70) h70) (snd_leaf (k := 71) h71))) (snd_ite (snd_ite (snd_leaf (k := 72) h72) (snd_leaf (k := 75) h75)) (snd_ite (snd_leaf (k := 78) h78) (snd_leaf (k := 79) h79))))) (snd_ite (snd_ite (snd_ite (snd_ite (snd_leaf (k := 82) h82) (snd_leaf (k := 83) h83)) (snd_ite (snd_leaf (k := 86) h86) (snd_leaf (k := 87) h87))) (snd_ite (snd_ite (snd_leaf (k := 88) h88) (snd_leaf (k := 89) h89)) (snd_ite (snd_leaf (k := 90) h90) (snd_leaf (k := 91) h91)))) (snd_ite (snd_ite (snd_ite (snd_leaf (k := 92) h92) (snd_leaf (k := 93) h93)) (snd_ite (snd_leaf (k := 94) h94) (snd_leaf (k := 95) h95))) (snd_ite (snd_ite (snd_leaf (k := 96) h96) (snd_leaf (k := 97) h97)) (snd_ite (snd_leaf (k := 100) h100) (snd_leaf (k := 101) h101))))))
def pX3_takeFigure : Spc := inl kX3_takeFigure 4 67
theorem oX3_takeFigure : Ok 1 yX3_takeFigure cX3_takeFigure 4 (some .boolean) pX3_takeFigure := ok_inl (by decide) rfl sX3_takeFigure

def kX3_takePoint : Nat → Stq := fun pc => if pc < 16 then (if pc < 8 then (if pc < 4 then (if pc < 1 then (if pc = 0 then s_ald 0 1 else s_bad) else (if pc = 1 then s_getf 3 1 4 else s_bad)) else (if pc < 7 then (if pc = 4 then s_ifeq 22 7 else s_bad) else (if pc = 7 then s_ald 0 8 else s_bad))) else (if pc < 12 then (if pc < 11 then (if pc = 8 then s_getf 3 2 11 else s_bad) else (if pc = 11 then s_push (.int (-1)) 12 else s_bad)) else (if pc < 15 then (if pc = 12 then s_iceq 22 15 else s_bad) else (if pc = 15 then s_ald 0 16 else s_bad)))) else (if pc < 24 then (if pc < 22 then (if pc < 19 then (if pc = 16 then s_invv 3 0 pX3_changeCanEnd 19 else s_bad) else (if pc = 19 then s_ifne 24 22 else s_bad)) else (if pc < 23 then (if pc = 22 then s_push (.int 0) 23 else s_bad) else (if pc = 23 then s_zret else s_bad))) else (if pc < 27 then (if pc < 25 then (if pc = 24 then s_ald 0 25 else s_bad) else (if pc = 25 then s_push (.int (-2)) 27 else s_bad)) else (if pc < 30 then (if pc = 27 then s_puti 3 2 30 else s_bad) else (if pc < 31 then (if pc = 30 then s_push (.int 1) 31 else s_bad) else (if pc = 31 then s_zret else s_bad)))))
set_option maxRecDepth 20000 in
theorem sX3_takePoint : ∀ pc, Snd 1 RX3 cX3_takePoint 1 (some .boolean) (inM "takePoint") pc (kX3_takePoint pc) := by
  have h0 : Snd 1 RX3 cX3_takePoint 1 (some .boolean) (inM "takePoint") 0 (s_ald 0 1) := snd_aload_n (j := 0) (by decide +kernel) rfl
  have h1 : Snd 1 RX3 cX3_takePoint 1 (some .boolean) (inM "takePoint") 1 (s_getf 3 1 4) := snd_getf (T := TX3) (f := 1) cI_3 (by decide) g_159 (by decide +kernel)
  have h4 : Snd 1 RX3 cX3_takePoint 1 (some .boolean) (inM "takePoint") 4 (s_ifeq 22 7) := snd_ifeq (off := 18) (by decide +kernel) (by decide)
  have h7 : Snd 1 RX3 cX3_takePoint 1 (some .boolean) (inM "takePoint") 7 (s_ald 0 8) := snd_aload_n (j := 0) (by decide +kernel) rfl
  have h8 : Snd 1 RX3 cX3_takePoint 1 (some .boolean) (inM "takePoint") 8 (s_getf 3 2 11) := snd_getf (T := TX3) (f := 2) cI_3 (by decide) g_160 (by decide +kernel)
  have h11 : Snd 1 RX3 cX3_takePoint 1 (some .boolean) (inM "takePoint") 11 (s_push (.int (-1)) 12) := snd_iconst (n := -1) (by decide +kernel) (by decide)
  have h12 : Snd 1 RX3 cX3_takePoint 1 (some .boolean) (inM "takePoint") 12 (s_iceq 22 15) := snd_iceq (off := 10) (by decide +kernel) (by decide)
  have h15 : Snd 1 RX3 cX3_takePoint 1 (some .boolean) (inM "takePoint") 15 (s_ald 0 16) := snd_aload_n (j := 0) (by decide +kernel) rfl
  have h16 : Snd 1 RX3 cX3_takePoint 1 (some .boolean) (inM "takePoint") 16 (s_invv 3 0 pX3_changeCanEnd 19) := snd_invv cI_3 oX3_changeCanEnd (by decide) (by decide) g_430 g_427 g_429 g_4 g_73 ⟨by decide, by decide, by decide +kernel⟩ (by decide +kernel)
  have h19 : Snd 1 RX3 cX3_takePoint 1 (some .boolean) (inM "takePoint") 19 (s_ifne 24 22) := snd_ifne (off := 5) (by decide +kernel) (by decide)
  have h22 : Snd 1 RX3 cX3_takePoint 1 (some .boolean) (inM "takePoint") 22 (s_push (.int 0) 23) := snd_iconst (n := 0) (by decide +kernel) (by decide)
  have h23 : Snd 1 RX3 cX3_takePoint 1 (some .boolean) (inM "takePoint") 23 (s_zret) := snd_zret (by decide +kernel)
  have h24 : Snd 1 RX3 cX3_takePoint 1 (some .boolean) (inM "takePoint") 24 (s_ald 0 25) := snd_aload_n (j := 0) (by decide +kernel) rfl
  have h25 : Snd 1 RX3 cX3_takePoint 1 (some .boolean) (inM "takePoint") 25 (s_push (.int (-2)) 27) := snd_bipush (n := -2) (by decide +kernel) (by decide)
  have h27 : Snd 1 RX3 cX3_takePoint 1 (some .boolean) (inM "takePoint") 27 (s_puti 3 2 30) := snd_puti (T := TX3) (f := 2) cI_3 (by decide) g_160 (by decide) (by decide +kernel) (by decide +kernel)
  have h30 : Snd 1 RX3 cX3_takePoint 1 (some .boolean) (inM "takePoint") 30 (s_push (.int 1) 31) := snd_iconst (n := 1) (by decide +kernel) (by decide)
  have h31 : Snd 1 RX3 cX3_takePoint 1 (some .boolean) (inM "takePoint") 31 (s_zret) := snd_zret (by decide +kernel)
  exact fun pc => snd_ite (snd_ite (snd_ite (snd_ite (snd_leaf (k := 0) h0) (snd_leaf (k := 1) h1)) (snd_ite (snd_leaf (k := 4) h4) (snd_leaf (k := 7) h7))) (snd_ite (snd_ite (snd_leaf (k := 8) h8) (snd_leaf (k := 11) h11)) (snd_ite (snd_leaf (k := 12) h12) (snd_leaf (k := 15) h15)))) (snd_ite (snd_ite (snd_ite (snd_leaf (k := 16) h16) (snd_leaf (k := 19) h19)) (snd_ite (snd_leaf (k := 22) h22) (snd_leaf (k := 23) h23))) (snd_ite (snd_ite (snd_leaf (k := 24) h24) (snd_leaf (k := 25) h25)) (snd_ite (snd_leaf (k := 27) h27) (snd_ite (snd_leaf (k := 30) h30) (snd_leaf (k := 31) h31)))))
def pX3_takePoint : Spc := inl kX3_takePoint 1 22
theorem oX3_takePoint : Ok 1 yX3_takePoint cX3_takePoint 1 (some .boolean) pX3_takePoint := ok_inl (by decide) rfl sX3_takePoint

def kX5_add : Nat → Stq := fun pc => if pc < 24 then (if pc < 11 then (if pc < 5 then (if pc < 1 then (if pc = 0 then s_ald 0 1 else s_bad) else (if pc < 4 then (if pc = 1 then s_getf 5 1 4 else s_bad) else (if pc = 4 then s_push (.int 1) 5 else s_bad))) else (if pc < 7 then (if pc < 6 then (if pc = 5 then s_iadd 6 else s_bad) else (if pc = 6 then s_ald 0 7 else s_bad)) else (if pc < 10 then (if pc = 7 then s_getf 5 0 10 else s_bad) else (if pc = 10 then s_alen 11 else s_bad)))) else (if pc < 18 then (if pc < 14 then (if pc = 11 then s_icge 48 14 else s_bad) else (if pc < 15 then (if pc = 14 then s_ald 0 15 else s_bad) else (if pc = 15 then s_getf 5 0 18 else s_bad))) else (if pc < 22 then (if pc < 19 then (if pc = 18 then s_ald 0 19 else s_bad) else (if pc = 19 then s_getf 5 1 22 else s_bad)) else (if pc < 23 then (if pc = 22 then s_push (.int 1) 23 else s_bad) else (if pc = 23 then s_iadd 24 else s_bad))))) else (if pc < 37 then (if pc < 29 then (if pc < 25 then (if pc = 24 then s_ald 0 25 else s_bad) else (if pc < 28 then (if pc = 25 then s_getf 5 0 28 else s_bad) else (if pc = 28 then s_ald 0 29 else s_bad))) else (if pc < 33 then (if pc < 32 then (if pc = 29 then s_getf 5 1 32 else s_bad) else (if pc = 32 then s_iald 33 else s_bad)) else (if pc < 34 then (if pc = 33 then s_ild 1 34 else s_bad) else (if pc = 34 then s_inv 2 pX7_stepped 37 else s_bad)))) else (if pc < 43 then (if pc < 39 then (if pc < 38 then (if pc = 37 then s_iast 38 else s_bad) else (if pc = 38 then s_ald 0 39 else s_bad)) else (if pc < 40 then (if pc = 39 then s_dup 40 else s_bad) else (if pc = 40 then s_getf 5 1 43 else s_bad))) else (if pc < 45 then (if pc < 44 then (if pc = 43 then s_push (.int 1) 44 else s_bad) else (if pc = 44 then s_iadd 45 else s_bad)) else (if pc < 48 then (if pc = 45 then s_puti 5 1 48 else s_bad) else (if pc = 48 then s_vret else s_bad)))))
set_option maxRecDepth 20000 in
theorem sX5_add : ∀ pc, Snd 1 RX5 cX5_add 2 none (inM "add") pc (kX5_add pc) := by
  have h0 : Snd 1 RX5 cX5_add 2 none (inM "add") 0 (s_ald 0 1) := snd_aload_n (j := 0) (by decide +kernel) rfl
  have h1 : Snd 1 RX5 cX5_add 2 none (inM "add") 1 (s_getf 5 1 4) := snd_getf (T := TX5) (f := 1) cI_5 (by decide) g_247 (by decide +kernel)
  have h4 : Snd 1 RX5 cX5_add 2 none (inM "add") 4 (s_push (.int 1) 5) := snd_iconst (n := 1) (by decide +kernel) (by decide)
  have h5 : Snd 1 RX5 cX5_add 2 none (inM "add") 5 (s_iadd 6) := snd_iadd (by decide +kernel)
  have h6 : Snd 1 RX5 cX5_add 2 none (inM "add") 6 (s_ald 0 7) := snd_aload_n (j := 0) (by decide +kernel) rfl
  have h7 : Snd 1 RX5 cX5_add 2 none (inM "add") 7 (s_getf 5 0 10) := snd_getf (T := TX5) (f := 0) cI_5 (by decide) g_246 (by decide +kernel)
  have h10 : Snd 1 RX5 cX5_add 2 none (inM "add") 10 (s_alen 11) := snd_alen (by decide +kernel)
  have h11 : Snd 1 RX5 cX5_add 2 none (inM "add") 11 (s_icge 48 14) := snd_icge (off := 37) (by decide +kernel) (by decide)
  have h14 : Snd 1 RX5 cX5_add 2 none (inM "add") 14 (s_ald 0 15) := snd_aload_n (j := 0) (by decide +kernel) rfl
  have h15 : Snd 1 RX5 cX5_add 2 none (inM "add") 15 (s_getf 5 0 18) := snd_getf (T := TX5) (f := 0) cI_5 (by decide) g_246 (by decide +kernel)
  have h18 : Snd 1 RX5 cX5_add 2 none (inM "add") 18 (s_ald 0 19) := snd_aload_n (j := 0) (by decide +kernel) rfl
  have h19 : Snd 1 RX5 cX5_add 2 none (inM "add") 19 (s_getf 5 1 22) := snd_getf (T := TX5) (f := 1) cI_5 (by decide) g_247 (by decide +kernel)
  have h22 : Snd 1 RX5 cX5_add 2 none (inM "add") 22 (s_push (.int 1) 23) := snd_iconst (n := 1) (by decide +kernel) (by decide)
  have h23 : Snd 1 RX5 cX5_add 2 none (inM "add") 23 (s_iadd 24) := snd_iadd (by decide +kernel)
  have h24 : Snd 1 RX5 cX5_add 2 none (inM "add") 24 (s_ald 0 25) := snd_aload_n (j := 0) (by decide +kernel) rfl
  have h25 : Snd 1 RX5 cX5_add 2 none (inM "add") 25 (s_getf 5 0 28) := snd_getf (T := TX5) (f := 0) cI_5 (by decide) g_246 (by decide +kernel)
  have h28 : Snd 1 RX5 cX5_add 2 none (inM "add") 28 (s_ald 0 29) := snd_aload_n (j := 0) (by decide +kernel) rfl
  have h29 : Snd 1 RX5 cX5_add 2 none (inM "add") 29 (s_getf 5 1 32) := snd_getf (T := TX5) (f := 1) cI_5 (by decide) g_247 (by decide +kernel)
  have h32 : Snd 1 RX5 cX5_add 2 none (inM "add") 32 (s_iald 33) := snd_iald (by decide +kernel)
  have h33 : Snd 1 RX5 cX5_add 2 none (inM "add") 33 (s_ild 1 34) := snd_iload_n (j := 1) (by decide +kernel) rfl
  have h34 : Snd 1 RX5 cX5_add 2 none (inM "add") 34 (s_inv 2 pX7_stepped 37) := snd_invs oX7_stepped (by decide) (by decide) g_339 g_348 g_338 g_80 ⟨by decide, by decide, by decide +kernel⟩ (by decide +kernel)
  have h37 : Snd 1 RX5 cX5_add 2 none (inM "add") 37 (s_iast 38) := snd_iast (by decide +kernel)
  have h38 : Snd 1 RX5 cX5_add 2 none (inM "add") 38 (s_ald 0 39) := snd_aload_n (j := 0) (by decide +kernel) rfl
  have h39 : Snd 1 RX5 cX5_add 2 none (inM "add") 39 (s_dup 40) := snd_dup (by decide +kernel)
  have h40 : Snd 1 RX5 cX5_add 2 none (inM "add") 40 (s_getf 5 1 43) := snd_getf (T := TX5) (f := 1) cI_5 (by decide) g_247 (by decide +kernel)
  have h43 : Snd 1 RX5 cX5_add 2 none (inM "add") 43 (s_push (.int 1) 44) := snd_iconst (n := 1) (by decide +kernel) (by decide)
  have h44 : Snd 1 RX5 cX5_add 2 none (inM "add") 44 (s_iadd 45) := snd_iadd (by decide +kernel)
  have h45 : Snd 1 RX5 cX5_add 2 none (inM "add") 45 (s_puti 5 1 48) := snd_puti (T := TX5) (f := 1) cI_5 (by decide) g_247 (by decide) (by decide +kernel) (by decide +kernel)
  have h48 : Snd 1 RX5 cX5_add 2 none (inM "add") 48 (s_vret) := snd_vret (by decide +kernel)
  exact fun pc => snd_ite (snd_ite (snd_ite (snd_ite (snd_leaf (k := 0) h0) (snd_ite (snd_leaf (k := 1) h1) (snd_leaf (k := 4) h4))) (snd_ite (snd_ite (snd_leaf (k := 5) h5) (snd_leaf (k := 6) h6)) (snd_ite (snd_leaf (k := 7) h7) (snd_leaf (k := 10) h10)))) (snd_ite (snd_ite (snd_leaf (k := 11) h11) (snd_ite (snd_leaf (k := 14) h14) (snd_leaf (k := 15) h15))) (snd_ite (snd_ite (snd_leaf (k := 18) h18) (snd_leaf (k := 19) h19)) (snd_ite (snd_leaf (k := 22) h22) (snd_leaf (k := 23) h23))))) (snd_ite (snd_ite (snd_ite (snd_leaf (k := 24) h24) (snd_ite (snd_leaf (k := 25) h25) (snd_leaf (k := 28) h28))) (snd_ite (snd_ite (snd_leaf (k := 29) h29) (snd_leaf (k := 32) h32)) (snd_ite (snd_leaf (k := 33) h33) (snd_leaf (k := 34) h34)))) (snd_ite (snd_ite (snd_ite (snd_leaf (k := 37) h37) (snd_leaf (k := 38) h38)) (snd_ite (snd_leaf (k := 39) h39) (snd_leaf (k := 40) h40))) (snd_ite (snd_ite (snd_leaf (k := 43) h43) (snd_leaf (k := 44) h44)) (snd_ite (snd_leaf (k := 45) h45) (snd_leaf (k := 48) h48)))))
def pX5_add : Spc := inl kX5_add 2 34
theorem oX5_add : Ok 1 yX5_add cX5_add 2 none pX5_add := ok_inl (by decide) rfl sX5_add

def kX5_rowAt : Nat → Stq := fun pc => if pc < 9 then (if pc < 2 then (if pc < 1 then (if pc = 0 then s_ald 0 1 else s_bad) else (if pc = 1 then s_ild 1 2 else s_bad)) else (if pc < 5 then (if pc = 2 then s_invv 5 1 pX5_has 5 else s_bad) else (if pc < 8 then (if pc = 5 then s_ifeq 17 8 else s_bad) else (if pc = 8 then s_ald 0 9 else s_bad)))) else (if pc < 14 then (if pc < 12 then (if pc = 9 then s_getf 5 0 12 else s_bad) else (if pc < 13 then (if pc = 12 then s_ild 1 13 else s_bad) else (if pc = 13 then s_iald 14 else s_bad))) else (if pc < 17 then (if pc = 14 then s_goto 18 else s_bad) else (if pc < 18 then (if pc = 17 then s_push (.int (-1)) 18 else s_bad) else (if pc = 18 then s_iret else s_bad))))
set_option maxRecDepth 20000 in
theorem sX5_rowAt : ∀ pc, Snd 1 RX5 cX5_rowAt 2 (some .int) (inM "rowAt") pc (kX5_rowAt pc) := by
  have h0 : Snd 1 RX5 cX5_rowAt 2 (some .int) (inM "rowAt") 0 (s_ald 0 1) := snd_aload_n (j := 0) (by decide +kernel) rfl
  have h1 : Snd 1 RX5 cX5_rowAt 2 (some .int) (inM "rowAt") 1 (s_ild 1 2) := snd_iload_n (j := 1) (by decide +kernel) rfl
  have h2 : Snd 1 RX5 cX5_rowAt 2 (some .int) (inM "rowAt") 2 (s_invv 5 1 pX5_has 5) := snd_invv cI_5 oX5_has (by decide) (by decide) g_517 g_522 g_515 g_516 g_75 ⟨by decide, by decide, by decide +kernel⟩ (by decide +kernel)
  have h5 : Snd 1 RX5 cX5_rowAt 2 (some .int) (inM "rowAt") 5 (s_ifeq 17 8) := snd_ifeq (off := 12) (by decide +kernel) (by decide)
  have h8 : Snd 1 RX5 cX5_rowAt 2 (some .int) (inM "rowAt") 8 (s_ald 0 9) := snd_aload_n (j := 0) (by decide +kernel) rfl
  have h9 : Snd 1 RX5 cX5_rowAt 2 (some .int) (inM "rowAt") 9 (s_getf 5 0 12) := snd_getf (T := TX5) (f := 0) cI_5 (by decide) g_246 (by decide +kernel)
  have h12 : Snd 1 RX5 cX5_rowAt 2 (some .int) (inM "rowAt") 12 (s_ild 1 13) := snd_iload_n (j := 1) (by decide +kernel) rfl
  have h13 : Snd 1 RX5 cX5_rowAt 2 (some .int) (inM "rowAt") 13 (s_iald 14) := snd_iald (by decide +kernel)
  have h14 : Snd 1 RX5 cX5_rowAt 2 (some .int) (inM "rowAt") 14 (s_goto 18) := snd_goto (off := 4) (by decide +kernel) (by decide)
  have h17 : Snd 1 RX5 cX5_rowAt 2 (some .int) (inM "rowAt") 17 (s_push (.int (-1)) 18) := snd_iconst (n := -1) (by decide +kernel) (by decide)
  have h18 : Snd 1 RX5 cX5_rowAt 2 (some .int) (inM "rowAt") 18 (s_iret) := snd_iret (by decide +kernel)
  exact fun pc => snd_ite (snd_ite (snd_ite (snd_leaf (k := 0) h0) (snd_leaf (k := 1) h1)) (snd_ite (snd_leaf (k := 2) h2) (snd_ite (snd_leaf (k := 5) h5) (snd_leaf (k := 8) h8)))) (snd_ite (snd_ite (snd_leaf (k := 9) h9) (snd_ite (snd_leaf (k := 12) h12) (snd_leaf (k := 13) h13))) (snd_ite (snd_leaf (k := 14) h14) (snd_ite (snd_leaf (k := 17) h17) (snd_leaf (k := 18) h18))))
def pX5_rowAt : Spc := inl kX5_rowAt 2 16
theorem oX5_rowAt : Ok 1 yX5_rowAt cX5_rowAt 2 (some .int) pX5_rowAt := ok_inl (by decide) rfl sX5_rowAt

def kX7_liked : Nat → Stq := fun pc => if pc < 24 then (if pc < 12 then (if pc < 6 then (if pc < 2 then (if pc < 1 then (if pc = 0 then s_ild 1 1 else s_bad) else (if pc = 1 then s_ild 0 2 else s_bad)) else (if pc < 5 then (if pc = 2 then s_inv 2 pX7_bellAt 5 else s_bad) else (if pc = 5 then s_ild 1 6 else s_bad))) else (if pc < 8 then (if pc < 7 then (if pc = 6 then s_push (.int 1) 7 else s_bad) else (if pc = 7 then s_isub 8 else s_bad)) else (if pc < 9 then (if pc = 8 then s_ild 0 9 else s_bad) else (if pc = 9 then s_inv 2 pX7_bellAt 12 else s_bad)))) else (if pc < 16 then (if pc < 14 then (if pc < 13 then (if pc = 12 then s_isub 13 else s_bad) else (if pc = 13 then s_ist 2 14 else s_bad)) else (if pc < 15 then (if pc = 14 then s_ild 2 15 else s_bad) else (if pc = 15 then s_push (.int 1) 16 else s_bad))) else (if pc < 20 then (if pc < 19 then (if pc = 16 then s_iceq 24 19 else s_bad) else (if pc = 19 then s_ild 2 20 else s_bad)) else (if pc < 21 then (if pc = 20 then s_push (.int (-1)) 21 else s_bad) else (if pc = 21 then s_icne 47 24 else s_bad))))) else (if pc < 34 then (if pc < 28 then (if pc < 26 then (if pc < 25 then (if pc = 24 then s_ild 1 25 else s_bad) else (if pc = 25 then s_push (.int 1) 26 else s_bad)) else (if pc < 27 then (if pc = 26 then s_isub 27 else s_bad) else (if pc = 27 then s_ild 0 28 else s_bad))) else (if pc < 32 then (if pc < 31 then (if pc = 28 then s_inv 2 pX7_bellAt 31 else s_bad) else (if pc = 31 then s_ild 1 32 else s_bad)) else (if pc < 33 then (if pc = 32 then s_push (.int 2) 33 else s_bad) else (if pc = 33 then s_isub 34 else s_bad)))) else (if pc < 40 then (if pc < 38 then (if pc < 35 then (if pc = 34 then s_ild 0 35 else s_bad) else (if pc = 35 then s_inv 2 pX7_bellAt 38 else s_bad)) else (if pc < 39 then (if pc = 38 then s_isub 39 else s_bad) else (if pc = 39 then s_ild 2 40 else s_bad))) else (if pc < 44 then (if pc < 43 then (if pc = 40 then s_icne 47 43 else s_bad) else (if pc = 43 then s_push (.int 1) 44 else s_bad)) else (if pc < 47 then (if pc = 44 then s_goto 48 else s_bad) else (if pc < 48 then (if pc = 47 then s_push (.int 0) 48 else s_bad) else (if pc = 48 then s_zret else s_bad))))))
set_option maxRecDepth 20000 in
theorem sX7_liked : ∀ pc, Snd 1 RX7 cX7_liked 3 (some .boolean) (inM "liked") pc (kX7_liked pc) := by
  have h0 : Snd 1 RX7 cX7_liked 3 (some .boolean) (inM "liked") 0 (s_ild 1 1) := snd_iload_n (j := 1) (by decide +kernel) rfl
  have h1 : Snd 1 RX7 cX7_liked 3 (some .boolean) (inM "liked") 1 (s_ild 0 2) := snd_iload_n (j := 0) (by decide +kernel) rfl
  have h2 : Snd 1 RX7 cX7_liked 3 (some .boolean) (inM "liked") 2 (s_inv 2 pX7_bellAt 5) := snd_invs oX7_bellAt (by decide) (by decide) g_528 g_526 g_527 g_80 ⟨by decide, by decide, by decide +kernel⟩ (by decide +kernel)
  have h5 : Snd 1 RX7 cX7_liked 3 (some .boolean) (inM "liked") 5 (s_ild 1 6) := snd_iload_n (j := 1) (by decide +kernel) rfl
  have h6 : Snd 1 RX7 cX7_liked 3 (some .boolean) (inM "liked") 6 (s_push (.int 1) 7) := snd_iconst (n := 1) (by decide +kernel) (by decide)
  have h7 : Snd 1 RX7 cX7_liked 3 (some .boolean) (inM "liked") 7 (s_isub 8) := snd_isub (by decide +kernel)
  have h8 : Snd 1 RX7 cX7_liked 3 (some .boolean) (inM "liked") 8 (s_ild 0 9) := snd_iload_n (j := 0) (by decide +kernel) rfl
  have h9 : Snd 1 RX7 cX7_liked 3 (some .boolean) (inM "liked") 9 (s_inv 2 pX7_bellAt 12) := snd_invs oX7_bellAt (by decide) (by decide) g_528 g_526 g_527 g_80 ⟨by decide, by decide, by decide +kernel⟩ (by decide +kernel)
  have h12 : Snd 1 RX7 cX7_liked 3 (some .boolean) (inM "liked") 12 (s_isub 13) := snd_isub (by decide +kernel)
  have h13 : Snd 1 RX7 cX7_liked 3 (some .boolean) (inM "liked") 13 (s_ist 2 14) := snd_istore_n (j := 2) (by decide +kernel) rfl
  have h14 : Snd 1 RX7 cX7_liked 3 (some .boolean) (inM "liked") 14 (s_ild 2 15) := snd_iload_n (j := 2) (by decide +kernel) rfl
  have h15 : Snd 1 RX7 cX7_liked 3 (some .boolean) (inM "liked") 15 (s_push (.int 1) 16) := snd_iconst (n := 1) (by decide +kernel) (by decide)
  have h16 : Snd 1 RX7 cX7_liked 3 (some .boolean) (inM "liked") 16 (s_iceq 24 19) := snd_iceq (off := 8) (by decide +kernel) (by decide)
  have h19 : Snd 1 RX7 cX7_liked 3 (some .boolean) (inM "liked") 19 (s_ild 2 20) := snd_iload_n (j := 2) (by decide +kernel) rfl
  have h20 : Snd 1 RX7 cX7_liked 3 (some .boolean) (inM "liked") 20 (s_push (.int (-1)) 21) := snd_iconst (n := -1) (by decide +kernel) (by decide)
  have h21 : Snd 1 RX7 cX7_liked 3 (some .boolean) (inM "liked") 21 (s_icne 47 24) := snd_icne (off := 26) (by decide +kernel) (by decide)
  have h24 : Snd 1 RX7 cX7_liked 3 (some .boolean) (inM "liked") 24 (s_ild 1 25) := snd_iload_n (j := 1) (by decide +kernel) rfl
  have h25 : Snd 1 RX7 cX7_liked 3 (some .boolean) (inM "liked") 25 (s_push (.int 1) 26) := snd_iconst (n := 1) (by decide +kernel) (by decide)
  have h26 : Snd 1 RX7 cX7_liked 3 (some .boolean) (inM "liked") 26 (s_isub 27) := snd_isub (by decide +kernel)
  have h27 : Snd 1 RX7 cX7_liked 3 (some .boolean) (inM "liked") 27 (s_ild 0 28) := snd_iload_n (j := 0) (by decide +kernel) rfl
  have h28 : Snd 1 RX7 cX7_liked 3 (some .boolean) (inM "liked") 28 (s_inv 2 pX7_bellAt 31) := snd_invs oX7_bellAt (by decide) (by decide) g_528 g_526 g_527 g_80 ⟨by decide, by decide, by decide +kernel⟩ (by decide +kernel)
  have h31 : Snd 1 RX7 cX7_liked 3 (some .boolean) (inM "liked") 31 (s_ild 1 32) := snd_iload_n (j := 1) (by decide +kernel) rfl
  have h32 : Snd 1 RX7 cX7_liked 3 (some .boolean) (inM "liked") 32 (s_push (.int 2) 33) := snd_iconst (n := 2) (by decide +kernel) (by decide)
  have h33 : Snd 1 RX7 cX7_liked 3 (some .boolean) (inM "liked") 33 (s_isub 34) := snd_isub (by decide +kernel)
  have h34 : Snd 1 RX7 cX7_liked 3 (some .boolean) (inM "liked") 34 (s_ild 0 35) := snd_iload_n (j := 0) (by decide +kernel) rfl
  have h35 : Snd 1 RX7 cX7_liked 3 (some .boolean) (inM "liked") 35 (s_inv 2 pX7_bellAt 38) := snd_invs oX7_bellAt (by decide) (by decide) g_528 g_526 g_527 g_80 ⟨by decide, by decide, by decide +kernel⟩ (by decide +kernel)
  have h38 : Snd 1 RX7 cX7_liked 3 (some .boolean) (inM "liked") 38 (s_isub 39) := snd_isub (by decide +kernel)
  have h39 : Snd 1 RX7 cX7_liked 3 (some .boolean) (inM "liked") 39 (s_ild 2 40) := snd_iload_n (j := 2) (by decide +kernel) rfl
  have h40 : Snd 1 RX7 cX7_liked 3 (some .boolean) (inM "liked") 40 (s_icne 47 43) := snd_icne (off := 7) (by decide +kernel) (by decide)
  have h43 : Snd 1 RX7 cX7_liked 3 (some .boolean) (inM "liked") 43 (s_push (.int 1) 44) := snd_iconst (n := 1) (by decide +kernel) (by decide)
  have h44 : Snd 1 RX7 cX7_liked 3 (some .boolean) (inM "liked") 44 (s_goto 48) := snd_goto (off := 4) (by decide +kernel) (by decide)
  have h47 : Snd 1 RX7 cX7_liked 3 (some .boolean) (inM "liked") 47 (s_push (.int 0) 48) := snd_iconst (n := 0) (by decide +kernel) (by decide)
  have h48 : Snd 1 RX7 cX7_liked 3 (some .boolean) (inM "liked") 48 (s_zret) := snd_zret (by decide +kernel)
  exact fun pc => snd_ite (snd_ite (snd_ite (snd_ite (snd_ite (snd_leaf (k := 0) h0) (snd_leaf (k := 1) h1)) (snd_ite (snd_leaf (k := 2) h2) (snd_leaf (k := 5) h5))) (snd_ite (snd_ite (snd_leaf (k := 6) h6) (snd_leaf (k := 7) h7)) (snd_ite (snd_leaf (k := 8) h8) (snd_leaf (k := 9) h9)))) (snd_ite (snd_ite (snd_ite (snd_leaf (k := 12) h12) (snd_leaf (k := 13) h13)) (snd_ite (snd_leaf (k := 14) h14) (snd_leaf (k := 15) h15))) (snd_ite (snd_ite (snd_leaf (k := 16) h16) (snd_leaf (k := 19) h19)) (snd_ite (snd_leaf (k := 20) h20) (snd_leaf (k := 21) h21))))) (snd_ite (snd_ite (snd_ite (snd_ite (snd_leaf (k := 24) h24) (snd_leaf (k := 25) h25)) (snd_ite (snd_leaf (k := 26) h26) (snd_leaf (k := 27) h27))) (snd_ite (snd_ite (snd_leaf (k := 28) h28) (snd_leaf (k := 31) h31)) (snd_ite (snd_leaf (k := 32) h32) (snd_leaf (k := 33) h33)))) (snd_ite (snd_ite (snd_ite (snd_leaf (k := 34) h34) (snd_leaf (k := 35) h35)) (snd_ite (snd_leaf (k := 38) h38) (snd_leaf (k := 39) h39))) (snd_ite (snd_ite (snd_leaf (k := 40) h40) (snd_leaf (k := 43) h43)) (snd_ite (snd_leaf (k := 44) h44) (snd_ite (snd_leaf (k := 47) h47) (snd_leaf (k := 48) h48))))))
def pX7_liked : Spc := inl kX7_liked 3 38
theorem oX7_liked : Ok 1 yX7_liked cX7_liked 3 (some .boolean) pX7_liked := ok_inl (by decide) rfl sX7_liked

def kX9_copyFrom : Nat → Stq := fun pc => if pc < 34 then (if pc < 17 then (if pc < 8 then (if pc < 2 then (if pc < 1 then (if pc = 0 then s_ald 0 1 else s_bad) else (if pc = 1 then s_ald 1 2 else s_bad)) else (if pc < 5 then (if pc = 2 then s_getf 8 0 5 else s_bad) else (if pc = 5 then s_puti 8 0 8 else s_bad))) else (if pc < 10 then (if pc < 9 then (if pc = 8 then s_ald 0 9 else s_bad) else (if pc = 9 then s_ald 1 10 else s_bad)) else (if pc < 13 then (if pc = 10 then s_getf 8 2 13 else s_bad) else (if pc < 16 then (if pc = 13 then s_puti 8 2 16 else s_bad) else (if pc = 16 then s_ald 0 17 else s_bad))))) else (if pc < 25 then (if pc < 21 then (if pc < 18 then (if pc = 17 then s_ald 1 18 else s_bad) else (if pc = 18 then s_getf 8 3 21 else s_bad)) else (if pc < 24 then (if pc = 21 then s_puti 8 3 24 else s_bad) else (if pc = 24 then s_ald 0 25 else s_bad))) else (if pc < 29 then (if pc < 26 then (if pc = 25 then s_ald 1 26 else s_bad) else (if pc = 26 then s_getf 8 4 29 else s_bad)) else (if pc < 32 then (if pc = 29 then s_puti 8 4 32 else s_bad) else (if pc < 33 then (if pc = 32 then s_ald 0 33 else s_bad) else (if pc = 33 then s_ald 1 34 else s_bad)))))) else (if pc < 52 then (if pc < 44 then (if pc < 40 then (if pc < 37 then (if pc = 34 then s_getf 8 6 37 else s_bad) else (if pc = 37 then s_puti 8 6 40 else s_bad)) else (if pc < 41 then (if pc = 40 then s_ald 1 41 else s_bad) else (if pc = 41 then s_getf 8 1 44 else s_bad))) else (if pc < 46 then (if pc < 45 then (if pc = 44 then s_push (.int 0) 45 else s_bad) else (if pc = 45 then s_ald 0 46 else s_bad)) else (if pc < 49 then (if pc = 46 then s_getf 8 1 49 else s_bad) else (if pc < 50 then (if pc = 49 then s_push (.int 0) 50 else s_bad) else (if pc = 50 then s_push (.int 40) 52 else s_bad))))) else (if pc < 61 then (if pc < 56 then (if pc < 55 then (if pc = 52 then s_copy 55 else s_bad) else (if pc = 55 then s_ald 1 56 else s_bad)) else (if pc < 59 then (if pc = 56 then s_getf 8 5 59 else s_bad) else (if pc < 60 then (if pc = 59 then s_push (.int 0) 60 else s_bad) else (if pc = 60 then s_ald 0 61 else s_bad)))) else (if pc < 65 then (if pc < 64 then (if pc = 61 then s_getf 8 5 64 else s_bad) else (if pc = 64 then s_push (.int 0) 65 else s_bad)) else (if pc < 67 then (if pc = 65 then s_push (.int 40) 67 else s_bad) else (if pc < 70 then (if pc = 67 then s_copy 70 else s_bad) else (if pc = 70 then s_vret else s_bad))))))
set_option maxRecDepth 20000 in
theorem sX9_copyFrom : ∀ pc, Snd 1 RX9 cX9_copyFrom 2 none (inM "copyFrom") pc (kX9_copyFrom pc) := by
  have h0 : Snd 1 RX9 cX9_copyFrom 2 none (inM "copyFrom") 0 (s_ald 0 1) := snd_aload_n (j := 0) (by decide +kernel) rfl
  have h1 : Snd 1 RX9 cX9_copyFrom 2 none (inM "copyFrom") 1 (s_ald 1 2) := snd_aload_n (j := 1) (by decide +kernel) rfl
  have h2 : Snd 1 RX9 cX9_copyFrom 2 none (inM "copyFrom") 2 (s_getf 8 0 5) := snd_getf (T := TX9) (f := 0) cI_8 (by decide) g_99 (by decide +kernel)
  have h5 : Snd 1 RX9 cX9_copyFrom 2 none (inM "copyFrom") 5 (s_puti 8 0 8) := snd_puti (T := TX9) (f := 0) cI_8 (by decide) g_99 (by decide) (by decide +kernel) (by decide +kernel)
  have h8 : Snd 1 RX9 cX9_copyFrom 2 none (inM "copyFrom") 8 (s_ald 0 9) := snd_aload_n (j := 0) (by decide +kernel) rfl
  have h9 : Snd 1 RX9 cX9_copyFrom 2 none (inM "copyFrom") 9 (s_ald 1 10) := snd_aload_n (j := 1) (by decide +kernel) rfl
  have h10 : Snd 1 RX9 cX9_copyFrom 2 none (inM "copyFrom") 10 (s_getf 8 2 13) := snd_getf (T := TX9) (f := 2) cI_8 (by decide) g_105 (by decide +kernel)
  have h13 : Snd 1 RX9 cX9_copyFrom 2 none (inM "copyFrom") 13 (s_puti 8 2 16) := snd_puti (T := TX9) (f := 2) cI_8 (by decide) g_105 (by decide) (by decide +kernel) (by decide +kernel)
  have h16 : Snd 1 RX9 cX9_copyFrom 2 none (inM "copyFrom") 16 (s_ald 0 17) := snd_aload_n (j := 0) (by decide +kernel) rfl
  have h17 : Snd 1 RX9 cX9_copyFrom 2 none (inM "copyFrom") 17 (s_ald 1 18) := snd_aload_n (j := 1) (by decide +kernel) rfl
  have h18 : Snd 1 RX9 cX9_copyFrom 2 none (inM "copyFrom") 18 (s_getf 8 3 21) := snd_getf (T := TX9) (f := 3) cI_8 (by decide) g_108 (by decide +kernel)
  have h21 : Snd 1 RX9 cX9_copyFrom 2 none (inM "copyFrom") 21 (s_puti 8 3 24) := snd_puti (T := TX9) (f := 3) cI_8 (by decide) g_108 (by decide) (by decide +kernel) (by decide +kernel)
  have h24 : Snd 1 RX9 cX9_copyFrom 2 none (inM "copyFrom") 24 (s_ald 0 25) := snd_aload_n (j := 0) (by decide +kernel) rfl
  have h25 : Snd 1 RX9 cX9_copyFrom 2 none (inM "copyFrom") 25 (s_ald 1 26) := snd_aload_n (j := 1) (by decide +kernel) rfl
  have h26 : Snd 1 RX9 cX9_copyFrom 2 none (inM "copyFrom") 26 (s_getf 8 4 29) := snd_getf (T := TX9) (f := 4) cI_8 (by decide) g_111 (by decide +kernel)
  have h29 : Snd 1 RX9 cX9_copyFrom 2 none (inM "copyFrom") 29 (s_puti 8 4 32) := snd_puti (T := TX9) (f := 4) cI_8 (by decide) g_111 (by decide) (by decide +kernel) (by decide +kernel)
  have h32 : Snd 1 RX9 cX9_copyFrom 2 none (inM "copyFrom") 32 (s_ald 0 33) := snd_aload_n (j := 0) (by decide +kernel) rfl
  have h33 : Snd 1 RX9 cX9_copyFrom 2 none (inM "copyFrom") 33 (s_ald 1 34) := snd_aload_n (j := 1) (by decide +kernel) rfl
  have h34 : Snd 1 RX9 cX9_copyFrom 2 none (inM "copyFrom") 34 (s_getf 8 6 37) := snd_getf (T := TX9) (f := 6) cI_8 (by decide) g_117 (by decide +kernel)
  have h37 : Snd 1 RX9 cX9_copyFrom 2 none (inM "copyFrom") 37 (s_puti 8 6 40) := snd_puti (T := TX9) (f := 6) cI_8 (by decide) g_117 (by decide) (by decide +kernel) (by decide +kernel)
  have h40 : Snd 1 RX9 cX9_copyFrom 2 none (inM "copyFrom") 40 (s_ald 1 41) := snd_aload_n (j := 1) (by decide +kernel) rfl
  have h41 : Snd 1 RX9 cX9_copyFrom 2 none (inM "copyFrom") 41 (s_getf 8 1 44) := snd_getf (T := TX9) (f := 1) cI_8 (by decide) g_102 (by decide +kernel)
  have h44 : Snd 1 RX9 cX9_copyFrom 2 none (inM "copyFrom") 44 (s_push (.int 0) 45) := snd_iconst (n := 0) (by decide +kernel) (by decide)
  have h45 : Snd 1 RX9 cX9_copyFrom 2 none (inM "copyFrom") 45 (s_ald 0 46) := snd_aload_n (j := 0) (by decide +kernel) rfl
  have h46 : Snd 1 RX9 cX9_copyFrom 2 none (inM "copyFrom") 46 (s_getf 8 1 49) := snd_getf (T := TX9) (f := 1) cI_8 (by decide) g_102 (by decide +kernel)
  have h49 : Snd 1 RX9 cX9_copyFrom 2 none (inM "copyFrom") 49 (s_push (.int 0) 50) := snd_iconst (n := 0) (by decide +kernel) (by decide)
  have h50 : Snd 1 RX9 cX9_copyFrom 2 none (inM "copyFrom") 50 (s_push (.int 40) 52) := snd_bipush (n := 40) (by decide +kernel) (by decide)
  have h52 : Snd 1 RX9 cX9_copyFrom 2 none (inM "copyFrom") 52 (s_copy 55) := snd_copy (by decide) g_749 g_472 g_471 g_83 (by decide +kernel)
  have h55 : Snd 1 RX9 cX9_copyFrom 2 none (inM "copyFrom") 55 (s_ald 1 56) := snd_aload_n (j := 1) (by decide +kernel) rfl
  have h56 : Snd 1 RX9 cX9_copyFrom 2 none (inM "copyFrom") 56 (s_getf 8 5 59) := snd_getf (T := TX9) (f := 5) cI_8 (by decide) g_114 (by decide +kernel)
  have h59 : Snd 1 RX9 cX9_copyFrom 2 none (inM "copyFrom") 59 (s_push (.int 0) 60) := snd_iconst (n := 0) (by decide +kernel) (by decide)
  have h60 : Snd 1 RX9 cX9_copyFrom 2 none (inM "copyFrom") 60 (s_ald 0 61) := snd_aload_n (j := 0) (by decide +kernel) rfl
  have h61 : Snd 1 RX9 cX9_copyFrom 2 none (inM "copyFrom") 61 (s_getf 8 5 64) := snd_getf (T := TX9) (f := 5) cI_8 (by decide) g_114 (by decide +kernel)
  have h64 : Snd 1 RX9 cX9_copyFrom 2 none (inM "copyFrom") 64 (s_push (.int 0) 65) := snd_iconst (n := 0) (by decide +kernel) (by decide)
  have h65 : Snd 1 RX9 cX9_copyFrom 2 none (inM "copyFrom") 65 (s_push (.int 40) 67) := snd_bipush (n := 40) (by decide +kernel) (by decide)
  have h67 : Snd 1 RX9 cX9_copyFrom 2 none (inM "copyFrom") 67 (s_copy 70) := snd_copy (by decide) g_749 g_472 g_471 g_83 (by decide +kernel)
  have h70 : Snd 1 RX9 cX9_copyFrom 2 none (inM "copyFrom") 70 (s_vret) := snd_vret (by decide +kernel)
  exact fun pc => snd_ite (snd_ite (snd_ite (snd_ite (snd_ite (snd_leaf (k := 0) h0) (snd_leaf (k := 1) h1)) (snd_ite (snd_leaf (k := 2) h2) (snd_leaf (k := 5) h5))) (snd_ite (snd_ite (snd_leaf (k := 8) h8) (snd_leaf (k := 9) h9)) (snd_ite (snd_leaf (k := 10) h10) (snd_ite (snd_leaf (k := 13) h13) (snd_leaf (k := 16) h16))))) (snd_ite (snd_ite (snd_ite (snd_leaf (k := 17) h17) (snd_leaf (k := 18) h18)) (snd_ite (snd_leaf (k := 21) h21) (snd_leaf (k := 24) h24))) (snd_ite (snd_ite (snd_leaf (k := 25) h25) (snd_leaf (k := 26) h26)) (snd_ite (snd_leaf (k := 29) h29) (snd_ite (snd_leaf (k := 32) h32) (snd_leaf (k := 33) h33)))))) (snd_ite (snd_ite (snd_ite (snd_ite (snd_leaf (k := 34) h34) (snd_leaf (k := 37) h37)) (snd_ite (snd_leaf (k := 40) h40) (snd_leaf (k := 41) h41))) (snd_ite (snd_ite (snd_leaf (k := 44) h44) (snd_leaf (k := 45) h45)) (snd_ite (snd_leaf (k := 46) h46) (snd_ite (snd_leaf (k := 49) h49) (snd_leaf (k := 50) h50))))) (snd_ite (snd_ite (snd_ite (snd_leaf (k := 52) h52) (snd_leaf (k := 55) h55)) (snd_ite (snd_leaf (k := 56) h56) (snd_ite (snd_leaf (k := 59) h59) (snd_leaf (k := 60) h60)))) (snd_ite (snd_ite (snd_leaf (k := 61) h61) (snd_leaf (k := 64) h64)) (snd_ite (snd_leaf (k := 65) h65) (snd_ite (snd_leaf (k := 67) h67) (snd_leaf (k := 70) h70))))))
def pX9_copyFrom : Spc := inl kX9_copyFrom 2 42
theorem oX9_copyFrom : Ok 1 yX9_copyFrom cX9_copyFrom 2 none pX9_copyFrom := ok_inl (by decide) rfl sX9_copyFrom

def kX11_bells : Nat → Stq := fun pc => if pc < 13 then (if pc < 4 then (if pc < 1 then (if pc = 0 then s_ild 1 1 else s_bad) else (if pc < 2 then (if pc = 1 then s_push (.int 4) 2 else s_bad) else (if pc = 2 then s_push (.int 8) 4 else s_bad))) else (if pc < 10 then (if pc < 7 then (if pc = 4 then s_inv 3 pX11_in 7 else s_bad) else (if pc = 7 then s_ifne 13 10 else s_bad)) else (if pc < 12 then (if pc = 10 then s_push (.int (-2)) 12 else s_bad) else (if pc = 12 then s_iret else s_bad)))) else (if pc < 19 then (if pc < 17 then (if pc < 14 then (if pc = 13 then s_ald 0 14 else s_bad) else (if pc = 14 then s_invv 10 0 pX11_many 17 else s_bad)) else (if pc < 18 then (if pc = 17 then s_ist 2 18 else s_bad) else (if pc = 18 then s_ald 0 19 else s_bad))) else (if pc < 23 then (if pc < 20 then (if pc = 19 then s_ild 1 20 else s_bad) else (if pc = 20 then s_invv 10 1 pX11_lay 23 else s_bad)) else (if pc < 24 then (if pc = 23 then s_ild 2 24 else s_bad) else (if pc = 24 then s_iret else s_bad))))
set_option maxRecDepth 20000 in
theorem sX11_bells : ∀ pc, Snd 1 RX11 cX11_bells 3 (some .int) (inM "bells") pc (kX11_bells pc) := by
  have h0 : Snd 1 RX11 cX11_bells 3 (some .int) (inM "bells") 0 (s_ild 1 1) := snd_iload_n (j := 1) (by decide +kernel) rfl
  have h1 : Snd 1 RX11 cX11_bells 3 (some .int) (inM "bells") 1 (s_push (.int 4) 2) := snd_iconst (n := 4) (by decide +kernel) (by decide)
  have h2 : Snd 1 RX11 cX11_bells 3 (some .int) (inM "bells") 2 (s_push (.int 8) 4) := snd_bipush (n := 8) (by decide +kernel) (by decide)
  have h4 : Snd 1 RX11 cX11_bells 3 (some .int) (inM "bells") 4 (s_inv 3 pX11_in 7) := snd_invs oX11_in (by decide) (by decide) g_852 g_850 g_851 g_81 ⟨by decide, by decide, by decide +kernel⟩ (by decide +kernel)
  have h7 : Snd 1 RX11 cX11_bells 3 (some .int) (inM "bells") 7 (s_ifne 13 10) := snd_ifne (off := 6) (by decide +kernel) (by decide)
  have h10 : Snd 1 RX11 cX11_bells 3 (some .int) (inM "bells") 10 (s_push (.int (-2)) 12) := snd_bipush (n := -2) (by decide +kernel) (by decide)
  have h12 : Snd 1 RX11 cX11_bells 3 (some .int) (inM "bells") 12 (s_iret) := snd_iret (by decide +kernel)
  have h13 : Snd 1 RX11 cX11_bells 3 (some .int) (inM "bells") 13 (s_ald 0 14) := snd_aload_n (j := 0) (by decide +kernel) rfl
  have h14 : Snd 1 RX11 cX11_bells 3 (some .int) (inM "bells") 14 (s_invv 10 0 pX11_many 17) := snd_invv cI_10 oX11_many (by decide) (by decide) g_856 g_853 g_855 g_24 g_81 ⟨by decide, by decide, by decide +kernel⟩ (by decide +kernel)
  have h17 : Snd 1 RX11 cX11_bells 3 (some .int) (inM "bells") 17 (s_ist 2 18) := snd_istore_n (j := 2) (by decide +kernel) rfl
  have h18 : Snd 1 RX11 cX11_bells 3 (some .int) (inM "bells") 18 (s_ald 0 19) := snd_aload_n (j := 0) (by decide +kernel) rfl
  have h19 : Snd 1 RX11 cX11_bells 3 (some .int) (inM "bells") 19 (s_ild 1 20) := snd_iload_n (j := 1) (by decide +kernel) rfl
  have h20 : Snd 1 RX11 cX11_bells 3 (some .int) (inM "bells") 20 (s_invv 10 1 pX11_lay 23) := snd_invv cI_10 oX11_lay (by decide) (by decide) g_768 g_765 g_767 g_23 g_81 ⟨by decide, by decide, by decide +kernel⟩ (by decide +kernel)
  have h23 : Snd 1 RX11 cX11_bells 3 (some .int) (inM "bells") 23 (s_ild 2 24) := snd_iload_n (j := 2) (by decide +kernel) rfl
  have h24 : Snd 1 RX11 cX11_bells 3 (some .int) (inM "bells") 24 (s_iret) := snd_iret (by decide +kernel)
  exact fun pc => snd_ite (snd_ite (snd_ite (snd_leaf (k := 0) h0) (snd_ite (snd_leaf (k := 1) h1) (snd_leaf (k := 2) h2))) (snd_ite (snd_ite (snd_leaf (k := 4) h4) (snd_leaf (k := 7) h7)) (snd_ite (snd_leaf (k := 10) h10) (snd_leaf (k := 12) h12)))) (snd_ite (snd_ite (snd_ite (snd_leaf (k := 13) h13) (snd_leaf (k := 14) h14)) (snd_ite (snd_leaf (k := 17) h17) (snd_leaf (k := 18) h18))) (snd_ite (snd_ite (snd_leaf (k := 19) h19) (snd_leaf (k := 20) h20)) (snd_ite (snd_leaf (k := 23) h23) (snd_leaf (k := 24) h24))))
def pX11_bells : Spc := inl kX11_bells 3 20
theorem oX11_bells : Ok 1 yX11_bells cX11_bells 3 (some .int) pX11_bells := ok_inl (by decide) rfl sX11_bells

def kX11_canStay : Nat → Stq := fun pc => if pc < 19 then (if pc < 7 then (if pc < 4 then (if pc < 1 then (if pc = 0 then s_ild 1 1 else s_bad) else (if pc < 3 then (if pc = 1 then s_push (.int 48) 3 else s_bad) else (if pc = 3 then s_isub 4 else s_bad))) else (if pc < 5 then (if pc = 4 then s_ist 2 5 else s_bad) else (if pc < 6 then (if pc = 5 then s_ild 2 6 else s_bad) else (if pc = 6 then s_ald 0 7 else s_bad)))) else (if pc < 12 then (if pc < 10 then (if pc = 7 then s_getf 10 8 10 else s_bad) else (if pc < 11 then (if pc = 10 then s_push (.int 1) 11 else s_bad) else (if pc = 11 then s_iadd 12 else s_bad))) else (if pc < 13 then (if pc = 12 then s_ald 0 13 else s_bad) else (if pc < 16 then (if pc = 13 then s_invv 10 0 pX11_many 16 else s_bad) else (if pc = 16 then s_inv 3 pX11_in 19 else s_bad))))) else (if pc < 29 then (if pc < 24 then (if pc < 22 then (if pc = 19 then s_ifeq 38 22 else s_bad) else (if pc < 23 then (if pc = 22 then s_ild 2 23 else s_bad) else (if pc = 23 then s_ald 0 24 else s_bad))) else (if pc < 27 then (if pc = 24 then s_getf 10 8 27 else s_bad) else (if pc < 28 then (if pc = 27 then s_isub 28 else s_bad) else (if pc = 28 then s_push (.int 2) 29 else s_bad)))) else (if pc < 34 then (if pc < 30 then (if pc = 29 then s_irem 30 else s_bad) else (if pc < 31 then (if pc = 30 then s_push (.int 1) 31 else s_bad) else (if pc = 31 then s_icne 38 34 else s_bad))) else (if pc < 38 then (if pc < 35 then (if pc = 34 then s_push (.int 1) 35 else s_bad) else (if pc = 35 then s_goto 39 else s_bad)) else (if pc < 39 then (if pc = 38 then s_push (.int 0) 39 else s_bad) else (if pc = 39 then s_zret else s_bad)))))
set_option maxRecDepth 20000 in
theorem sX11_canStay : ∀ pc, Snd 1 RX11 cX11_canStay 3 (some .boolean) (inM "canStay") pc (kX11_canStay pc) := by
  have h0 : Snd 1 RX11 cX11_canStay 3 (some .boolean) (inM "canStay") 0 (s_ild 1 1) := snd_iload_n (j := 1) (by decide +kernel) rfl
  have h1 : Snd 1 RX11 cX11_canStay 3 (some .boolean) (inM "canStay") 1 (s_push (.int 48) 3) := snd_bipush (n := 48) (by decide +kernel) (by decide)
  have h3 : Snd 1 RX11 cX11_canStay 3 (some .boolean) (inM "canStay") 3 (s_isub 4) := snd_isub (by decide +kernel)
  have h4 : Snd 1 RX11 cX11_canStay 3 (some .boolean) (inM "canStay") 4 (s_ist 2 5) := snd_istore_n (j := 2) (by decide +kernel) rfl
  have h5 : Snd 1 RX11 cX11_canStay 3 (some .boolean) (inM "canStay") 5 (s_ild 2 6) := snd_iload_n (j := 2) (by decide +kernel) rfl
  have h6 : Snd 1 RX11 cX11_canStay 3 (some .boolean) (inM "canStay") 6 (s_ald 0 7) := snd_aload_n (j := 0) (by decide +kernel) rfl
  have h7 : Snd 1 RX11 cX11_canStay 3 (some .boolean) (inM "canStay") 7 (s_getf 10 8 10) := snd_getf (T := TX11) (f := 8) cI_10 (by decide) g_777 (by decide +kernel)
  have h10 : Snd 1 RX11 cX11_canStay 3 (some .boolean) (inM "canStay") 10 (s_push (.int 1) 11) := snd_iconst (n := 1) (by decide +kernel) (by decide)
  have h11 : Snd 1 RX11 cX11_canStay 3 (some .boolean) (inM "canStay") 11 (s_iadd 12) := snd_iadd (by decide +kernel)
  have h12 : Snd 1 RX11 cX11_canStay 3 (some .boolean) (inM "canStay") 12 (s_ald 0 13) := snd_aload_n (j := 0) (by decide +kernel) rfl
  have h13 : Snd 1 RX11 cX11_canStay 3 (some .boolean) (inM "canStay") 13 (s_invv 10 0 pX11_many 16) := snd_invv cI_10 oX11_many (by decide) (by decide) g_856 g_853 g_855 g_24 g_81 ⟨by decide, by decide, by decide +kernel⟩ (by decide +kernel)
  have h16 : Snd 1 RX11 cX11_canStay 3 (some .boolean) (inM "canStay") 16 (s_inv 3 pX11_in 19) := snd_invs oX11_in (by decide) (by decide) g_852 g_850 g_851 g_81 ⟨by decide, by decide, by decide +kernel⟩ (by decide +kernel)
  have h19 : Snd 1 RX11 cX11_canStay 3 (some .boolean) (inM "canStay") 19 (s_ifeq 38 22) := snd_ifeq (off := 19) (by decide +kernel) (by decide)
  have h22 : Snd 1 RX11 cX11_canStay 3 (some .boolean) (inM "canStay") 22 (s_ild 2 23) := snd_iload_n (j := 2) (by decide +kernel) rfl
  have h23 : Snd 1 RX11 cX11_canStay 3 (some .boolean) (inM "canStay") 23 (s_ald 0 24) := snd_aload_n (j := 0) (by decide +kernel) rfl
  have h24 : Snd 1 RX11 cX11_canStay 3 (some .boolean) (inM "canStay") 24 (s_getf 10 8 27) := snd_getf (T := TX11) (f := 8) cI_10 (by decide) g_777 (by decide +kernel)
  have h27 : Snd 1 RX11 cX11_canStay 3 (some .boolean) (inM "canStay") 27 (s_isub 28) := snd_isub (by decide +kernel)
  have h28 : Snd 1 RX11 cX11_canStay 3 (some .boolean) (inM "canStay") 28 (s_push (.int 2) 29) := snd_iconst (n := 2) (by decide +kernel) (by decide)
  have h29 : Snd 1 RX11 cX11_canStay 3 (some .boolean) (inM "canStay") 29 (s_irem 30) := snd_irem (by decide +kernel)
  have h30 : Snd 1 RX11 cX11_canStay 3 (some .boolean) (inM "canStay") 30 (s_push (.int 1) 31) := snd_iconst (n := 1) (by decide +kernel) (by decide)
  have h31 : Snd 1 RX11 cX11_canStay 3 (some .boolean) (inM "canStay") 31 (s_icne 38 34) := snd_icne (off := 7) (by decide +kernel) (by decide)
  have h34 : Snd 1 RX11 cX11_canStay 3 (some .boolean) (inM "canStay") 34 (s_push (.int 1) 35) := snd_iconst (n := 1) (by decide +kernel) (by decide)
  have h35 : Snd 1 RX11 cX11_canStay 3 (some .boolean) (inM "canStay") 35 (s_goto 39) := snd_goto (off := 4) (by decide +kernel) (by decide)
  have h38 : Snd 1 RX11 cX11_canStay 3 (some .boolean) (inM "canStay") 38 (s_push (.int 0) 39) := snd_iconst (n := 0) (by decide +kernel) (by decide)
  have h39 : Snd 1 RX11 cX11_canStay 3 (some .boolean) (inM "canStay") 39 (s_zret) := snd_zret (by decide +kernel)
  exact fun pc => snd_ite (snd_ite (snd_ite (snd_ite (snd_leaf (k := 0) h0) (snd_ite (snd_leaf (k := 1) h1) (snd_leaf (k := 3) h3))) (snd_ite (snd_leaf (k := 4) h4) (snd_ite (snd_leaf (k := 5) h5) (snd_leaf (k := 6) h6)))) (snd_ite (snd_ite (snd_leaf (k := 7) h7) (snd_ite (snd_leaf (k := 10) h10) (snd_leaf (k := 11) h11))) (snd_ite (snd_leaf (k := 12) h12) (snd_ite (snd_leaf (k := 13) h13) (snd_leaf (k := 16) h16))))) (snd_ite (snd_ite (snd_ite (snd_leaf (k := 19) h19) (snd_ite (snd_leaf (k := 22) h22) (snd_leaf (k := 23) h23))) (snd_ite (snd_leaf (k := 24) h24) (snd_ite (snd_leaf (k := 27) h27) (snd_leaf (k := 28) h28)))) (snd_ite (snd_ite (snd_leaf (k := 29) h29) (snd_ite (snd_leaf (k := 30) h30) (snd_leaf (k := 31) h31))) (snd_ite (snd_ite (snd_leaf (k := 34) h34) (snd_leaf (k := 35) h35)) (snd_ite (snd_leaf (k := 38) h38) (snd_leaf (k := 39) h39)))))
def pX11_canStay : Spc := inl kX11_canStay 3 30
theorem oX11_canStay : Ok 1 yX11_canStay cX11_canStay 3 (some .boolean) pX11_canStay := ok_inl (by decide) rfl sX11_canStay

def kX11_change : Nat → Stq := fun pc => if pc < 24 then (if pc < 15 then (if pc < 6 then (if pc < 2 then (if pc < 1 then (if pc = 0 then s_ild 1 1 else s_bad) else (if pc = 1 then s_push (.int (-1)) 2 else s_bad)) else (if pc < 5 then (if pc = 2 then s_iceq 11 5 else s_bad) else (if pc = 5 then s_ild 1 6 else s_bad))) else (if pc < 11 then (if pc < 8 then (if pc = 6 then s_push (.int (-2)) 8 else s_bad) else (if pc = 8 then s_icne 21 11 else s_bad)) else (if pc < 12 then (if pc = 11 then s_ald 0 12 else s_bad) else (if pc = 12 then s_getf 10 0 15 else s_bad)))) else (if pc < 20 then (if pc < 18 then (if pc < 17 then (if pc = 15 then s_push (.int 41) 17 else s_bad) else (if pc = 17 then s_ild 1 18 else s_bad)) else (if pc < 19 then (if pc = 18 then s_isub 19 else s_bad) else (if pc = 19 then s_iald 20 else s_bad))) else (if pc < 22 then (if pc < 21 then (if pc = 20 then s_iret else s_bad) else (if pc = 21 then s_ild 1 22 else s_bad)) else (if pc < 23 then (if pc = 22 then s_push (.int 0) 23 else s_bad) else (if pc = 23 then s_ald 0 24 else s_bad))))) else (if pc < 38 then (if pc < 30 then (if pc < 28 then (if pc < 27 then (if pc = 24 then s_getf 10 0 27 else s_bad) else (if pc = 27 then s_push (.int 1) 28 else s_bad)) else (if pc < 29 then (if pc = 28 then s_iald 29 else s_bad) else (if pc = 29 then s_push (.int 1) 30 else s_bad))) else (if pc < 34 then (if pc < 31 then (if pc = 30 then s_isub 31 else s_bad) else (if pc = 31 then s_inv 3 pX11_in 34 else s_bad)) else (if pc < 37 then (if pc = 34 then s_ifeq 48 37 else s_bad) else (if pc = 37 then s_ald 0 38 else s_bad)))) else (if pc < 44 then (if pc < 42 then (if pc < 41 then (if pc = 38 then s_getf 10 0 41 else s_bad) else (if pc = 41 then s_push (.int 2) 42 else s_bad)) else (if pc < 43 then (if pc = 42 then s_ild 1 43 else s_bad) else (if pc = 43 then s_iadd 44 else s_bad))) else (if pc < 48 then (if pc < 45 then (if pc = 44 then s_iald 45 else s_bad) else (if pc = 45 then s_goto 50 else s_bad)) else (if pc < 50 then (if pc = 48 then s_push (.int (-6)) 50 else s_bad) else (if pc = 50 then s_iret else s_bad)))))
set_option maxRecDepth 20000 in
theorem sX11_change : ∀ pc, Snd 1 RX11 cX11_change 2 (some .int) (inM "change") pc (kX11_change pc) := by
  have h0 : Snd 1 RX11 cX11_change 2 (some .int) (inM "change") 0 (s_ild 1 1) := snd_iload_n (j := 1) (by decide +kernel) rfl
  have h1 : Snd 1 RX11 cX11_change 2 (some .int) (inM "change") 1 (s_push (.int (-1)) 2) := snd_iconst (n := -1) (by decide +kernel) (by decide)
  have h2 : Snd 1 RX11 cX11_change 2 (some .int) (inM "change") 2 (s_iceq 11 5) := snd_iceq (off := 9) (by decide +kernel) (by decide)
  have h5 : Snd 1 RX11 cX11_change 2 (some .int) (inM "change") 5 (s_ild 1 6) := snd_iload_n (j := 1) (by decide +kernel) rfl
  have h6 : Snd 1 RX11 cX11_change 2 (some .int) (inM "change") 6 (s_push (.int (-2)) 8) := snd_bipush (n := -2) (by decide +kernel) (by decide)
  have h8 : Snd 1 RX11 cX11_change 2 (some .int) (inM "change") 8 (s_icne 21 11) := snd_icne (off := 13) (by decide +kernel) (by decide)
  have h11 : Snd 1 RX11 cX11_change 2 (some .int) (inM "change") 11 (s_ald 0 12) := snd_aload_n (j := 0) (by decide +kernel) rfl
  have h12 : Snd 1 RX11 cX11_change 2 (some .int) (inM "change") 12 (s_getf 10 0 15) := snd_getf (T := TX11) (f := 0) cI_10 (by decide) g_769 (by decide +kernel)
  have h15 : Snd 1 RX11 cX11_change 2 (some .int) (inM "change") 15 (s_push (.int 41) 17) := snd_bipush (n := 41) (by decide +kernel) (by decide)
  have h17 : Snd 1 RX11 cX11_change 2 (some .int) (inM "change") 17 (s_ild 1 18) := snd_iload_n (j := 1) (by decide +kernel) rfl
  have h18 : Snd 1 RX11 cX11_change 2 (some .int) (inM "change") 18 (s_isub 19) := snd_isub (by decide +kernel)
  have h19 : Snd 1 RX11 cX11_change 2 (some .int) (inM "change") 19 (s_iald 20) := snd_iald (by decide +kernel)
  have h20 : Snd 1 RX11 cX11_change 2 (some .int) (inM "change") 20 (s_iret) := snd_iret (by decide +kernel)
  have h21 : Snd 1 RX11 cX11_change 2 (some .int) (inM "change") 21 (s_ild 1 22) := snd_iload_n (j := 1) (by decide +kernel) rfl
  have h22 : Snd 1 RX11 cX11_change 2 (some .int) (inM "change") 22 (s_push (.int 0) 23) := snd_iconst (n := 0) (by decide +kernel) (by decide)
  have h23 : Snd 1 RX11 cX11_change 2 (some .int) (inM "change") 23 (s_ald 0 24) := snd_aload_n (j := 0) (by decide +kernel) rfl
  have h24 : Snd 1 RX11 cX11_change 2 (some .int) (inM "change") 24 (s_getf 10 0 27) := snd_getf (T := TX11) (f := 0) cI_10 (by decide) g_769 (by decide +kernel)
  have h27 : Snd 1 RX11 cX11_change 2 (some .int) (inM "change") 27 (s_push (.int 1) 28) := snd_iconst (n := 1) (by decide +kernel) (by decide)
  have h28 : Snd 1 RX11 cX11_change 2 (some .int) (inM "change") 28 (s_iald 29) := snd_iald (by decide +kernel)
  have h29 : Snd 1 RX11 cX11_change 2 (some .int) (inM "change") 29 (s_push (.int 1) 30) := snd_iconst (n := 1) (by decide +kernel) (by decide)
  have h30 : Snd 1 RX11 cX11_change 2 (some .int) (inM "change") 30 (s_isub 31) := snd_isub (by decide +kernel)
  have h31 : Snd 1 RX11 cX11_change 2 (some .int) (inM "change") 31 (s_inv 3 pX11_in 34) := snd_invs oX11_in (by decide) (by decide) g_852 g_850 g_851 g_81 ⟨by decide, by decide, by decide +kernel⟩ (by decide +kernel)
  have h34 : Snd 1 RX11 cX11_change 2 (some .int) (inM "change") 34 (s_ifeq 48 37) := snd_ifeq (off := 14) (by decide +kernel) (by decide)
  have h37 : Snd 1 RX11 cX11_change 2 (some .int) (inM "change") 37 (s_ald 0 38) := snd_aload_n (j := 0) (by decide +kernel) rfl
  have h38 : Snd 1 RX11 cX11_change 2 (some .int) (inM "change") 38 (s_getf 10 0 41) := snd_getf (T := TX11) (f := 0) cI_10 (by decide) g_769 (by decide +kernel)
  have h41 : Snd 1 RX11 cX11_change 2 (some .int) (inM "change") 41 (s_push (.int 2) 42) := snd_iconst (n := 2) (by decide +kernel) (by decide)
  have h42 : Snd 1 RX11 cX11_change 2 (some .int) (inM "change") 42 (s_ild 1 43) := snd_iload_n (j := 1) (by decide +kernel) rfl
  have h43 : Snd 1 RX11 cX11_change 2 (some .int) (inM "change") 43 (s_iadd 44) := snd_iadd (by decide +kernel)
  have h44 : Snd 1 RX11 cX11_change 2 (some .int) (inM "change") 44 (s_iald 45) := snd_iald (by decide +kernel)
  have h45 : Snd 1 RX11 cX11_change 2 (some .int) (inM "change") 45 (s_goto 50) := snd_goto (off := 5) (by decide +kernel) (by decide)
  have h48 : Snd 1 RX11 cX11_change 2 (some .int) (inM "change") 48 (s_push (.int (-6)) 50) := snd_bipush (n := -6) (by decide +kernel) (by decide)
  have h50 : Snd 1 RX11 cX11_change 2 (some .int) (inM "change") 50 (s_iret) := snd_iret (by decide +kernel)
  exact fun pc => snd_ite (snd_ite (snd_ite (snd_ite (snd_ite (snd_leaf (k := 0) h0) (snd_leaf (k := 1) h1)) (snd_ite (snd_leaf (k := 2) h2) (snd_leaf (k := 5) h5))) (snd_ite (snd_ite (snd_leaf (k := 6) h6) (snd_leaf (k := 8) h8)) (snd_ite (snd_leaf (k := 11) h11) (snd_leaf (k := 12) h12)))) (snd_ite (snd_ite (snd_ite (snd_leaf (k := 15) h15) (snd_leaf (k := 17) h17)) (snd_ite (snd_leaf (k := 18) h18) (snd_leaf (k := 19) h19))) (snd_ite (snd_ite (snd_leaf (k := 20) h20) (snd_leaf (k := 21) h21)) (snd_ite (snd_leaf (k := 22) h22) (snd_leaf (k := 23) h23))))) (snd_ite (snd_ite (snd_ite (snd_ite (snd_leaf (k := 24) h24) (snd_leaf (k := 27) h27)) (snd_ite (snd_leaf (k := 28) h28) (snd_leaf (k := 29) h29))) (snd_ite (snd_ite (snd_leaf (k := 30) h30) (snd_leaf (k := 31) h31)) (snd_ite (snd_leaf (k := 34) h34) (snd_leaf (k := 37) h37)))) (snd_ite (snd_ite (snd_ite (snd_leaf (k := 38) h38) (snd_leaf (k := 41) h41)) (snd_ite (snd_leaf (k := 42) h42) (snd_leaf (k := 43) h43))) (snd_ite (snd_ite (snd_leaf (k := 44) h44) (snd_leaf (k := 45) h45)) (snd_ite (snd_leaf (k := 48) h48) (snd_leaf (k := 50) h50)))))
def pX11_change : Spc := inl kX11_change 2 37
theorem oX11_change : Ok 1 yX11_change cX11_change 2 (some .int) pX11_change := ok_inl (by decide) rfl sX11_change

def kX11_count : Nat → Stq := fun pc => if pc < 62 then (if pc < 47 then (if pc < 40 then (if pc < 36 then (if pc < 1 then (if pc = 0 then s_ild 1 1 else s_bad) else (if pc = 1 then s_sw [(0, 36), (1, 41), (2, 48), (3, 56), (4, 61)] 91 else s_bad)) else (if pc < 37 then (if pc = 36 then s_ald 0 37 else s_bad) else (if pc = 37 then s_invv 10 0 pX11_many 40 else s_bad))) else (if pc < 42 then (if pc < 41 then (if pc = 40 then s_iret else s_bad) else (if pc = 41 then s_ald 0 42 else s_bad)) else (if pc < 45 then (if pc = 42 then s_getf 10 0 45 else s_bad) else (if pc < 46 then (if pc = 45 then s_push (.int 1) 46 else s_bad) else (if pc = 46 then s_iald 47 else s_bad))))) else (if pc < 55 then (if pc < 49 then (if pc < 48 then (if pc = 47 then s_iret else s_bad) else (if pc = 48 then s_ald 0 49 else s_bad)) else (if pc < 52 then (if pc = 49 then s_getf 10 0 52 else s_bad) else (if pc < 54 then (if pc = 52 then s_push (.int 44) 54 else s_bad) else (if pc = 54 then s_iald 55 else s_bad)))) else (if pc < 57 then (if pc < 56 then (if pc = 55 then s_iret else s_bad) else (if pc = 56 then s_ald 0 57 else s_bad)) else (if pc < 60 then (if pc = 57 then s_getf 10 4 60 else s_bad) else (if pc < 61 then (if pc = 60 then s_iret else s_bad) else (if pc = 61 then s_ald 0 62 else s_bad)))))) else (if pc < 79 then (if pc < 70 then (if pc < 66 then (if pc < 65 then (if pc = 62 then s_getf 10 2 65 else s_bad) else (if pc = 65 then s_push (.int 0) 66 else s_bad)) else (if pc < 67 then (if pc = 66 then s_zald 67 else s_bad) else (if pc = 67 then s_ifeq 74 70 else s_bad))) else (if pc < 74 then (if pc < 71 then (if pc = 70 then s_push (.int 1) 71 else s_bad) else (if pc = 71 then s_goto 75 else s_bad)) else (if pc < 75 then (if pc = 74 then s_push (.int 0) 75 else s_bad) else (if pc < 76 then (if pc = 75 then s_ald 0 76 else s_bad) else (if pc = 76 then s_getf 10 2 79 else s_bad))))) else (if pc < 88 then (if pc < 81 then (if pc < 80 then (if pc = 79 then s_push (.int 1) 80 else s_bad) else (if pc = 80 then s_zald 81 else s_bad)) else (if pc < 84 then (if pc = 81 then s_ifeq 88 84 else s_bad) else (if pc < 85 then (if pc = 84 then s_push (.int 2) 85 else s_bad) else (if pc = 85 then s_goto 89 else s_bad)))) else (if pc < 90 then (if pc < 89 then (if pc = 88 then s_push (.int 0) 89 else s_bad) else (if pc = 89 then s_iadd 90 else s_bad)) else (if pc < 91 then (if pc = 90 then s_iret else s_bad) else (if pc < 93 then (if pc = 91 then s_push (.int (-2)) 93 else s_bad) else (if pc = 93 then s_iret else s_bad))))))
set_option maxRecDepth 20000 in
theorem sX11_count : ∀ pc, Snd 1 RX11 cX11_count 2 (some .int) (inM "count") pc (kX11_count pc) := by
  have h0 : Snd 1 RX11 cX11_count 2 (some .int) (inM "count") 0 (s_ild 1 1) := snd_iload_n (j := 1) (by decide +kernel) rfl
  have h1 : Snd 1 RX11 cX11_count 2 (some .int) (inM "count") 1 (s_sw [(0, 36), (1, 41), (2, 48), (3, 56), (4, 61)] 91) := snd_tsw (dflt := 90) (lo := 0) (hi := 4) (offs := #[35, 40, 47, 55, 60]) (len := 35) [(0, 36), (1, 41), (2, 48), (3, 56), (4, 61)] (by decide +kernel) (by decide) (by decide +kernel) (by decide +kernel)
  have h36 : Snd 1 RX11 cX11_count 2 (some .int) (inM "count") 36 (s_ald 0 37) := snd_aload_n (j := 0) (by decide +kernel) rfl
  have h37 : Snd 1 RX11 cX11_count 2 (some .int) (inM "count") 37 (s_invv 10 0 pX11_many 40) := snd_invv cI_10 oX11_many (by decide) (by decide) g_856 g_853 g_855 g_24 g_81 ⟨by decide, by decide, by decide +kernel⟩ (by decide +kernel)
  have h40 : Snd 1 RX11 cX11_count 2 (some .int) (inM "count") 40 (s_iret) := snd_iret (by decide +kernel)
  have h41 : Snd 1 RX11 cX11_count 2 (some .int) (inM "count") 41 (s_ald 0 42) := snd_aload_n (j := 0) (by decide +kernel) rfl
  have h42 : Snd 1 RX11 cX11_count 2 (some .int) (inM "count") 42 (s_getf 10 0 45) := snd_getf (T := TX11) (f := 0) cI_10 (by decide) g_769 (by decide +kernel)
  have h45 : Snd 1 RX11 cX11_count 2 (some .int) (inM "count") 45 (s_push (.int 1) 46) := snd_iconst (n := 1) (by decide +kernel) (by decide)
  have h46 : Snd 1 RX11 cX11_count 2 (some .int) (inM "count") 46 (s_iald 47) := snd_iald (by decide +kernel)
  have h47 : Snd 1 RX11 cX11_count 2 (some .int) (inM "count") 47 (s_iret) := snd_iret (by decide +kernel)
  have h48 : Snd 1 RX11 cX11_count 2 (some .int) (inM "count") 48 (s_ald 0 49) := snd_aload_n (j := 0) (by decide +kernel) rfl
  have h49 : Snd 1 RX11 cX11_count 2 (some .int) (inM "count") 49 (s_getf 10 0 52) := snd_getf (T := TX11) (f := 0) cI_10 (by decide) g_769 (by decide +kernel)
  have h52 : Snd 1 RX11 cX11_count 2 (some .int) (inM "count") 52 (s_push (.int 44) 54) := snd_bipush (n := 44) (by decide +kernel) (by decide)
  have h54 : Snd 1 RX11 cX11_count 2 (some .int) (inM "count") 54 (s_iald 55) := snd_iald (by decide +kernel)
  have h55 : Snd 1 RX11 cX11_count 2 (some .int) (inM "count") 55 (s_iret) := snd_iret (by decide +kernel)
  have h56 : Snd 1 RX11 cX11_count 2 (some .int) (inM "count") 56 (s_ald 0 57) := snd_aload_n (j := 0) (by decide +kernel) rfl
  have h57 : Snd 1 RX11 cX11_count 2 (some .int) (inM "count") 57 (s_getf 10 4 60) := snd_getf (T := TX11) (f := 4) cI_10 (by decide) g_773 (by decide +kernel)
  have h60 : Snd 1 RX11 cX11_count 2 (some .int) (inM "count") 60 (s_iret) := snd_iret (by decide +kernel)
  have h61 : Snd 1 RX11 cX11_count 2 (some .int) (inM "count") 61 (s_ald 0 62) := snd_aload_n (j := 0) (by decide +kernel) rfl
  have h62 : Snd 1 RX11 cX11_count 2 (some .int) (inM "count") 62 (s_getf 10 2 65) := snd_getf (T := TX11) (f := 2) cI_10 (by decide) g_771 (by decide +kernel)
  have h65 : Snd 1 RX11 cX11_count 2 (some .int) (inM "count") 65 (s_push (.int 0) 66) := snd_iconst (n := 0) (by decide +kernel) (by decide)
  have h66 : Snd 1 RX11 cX11_count 2 (some .int) (inM "count") 66 (s_zald 67) := snd_zald (by decide +kernel)
  have h67 : Snd 1 RX11 cX11_count 2 (some .int) (inM "count") 67 (s_ifeq 74 70) := snd_ifeq (off := 7) (by decide +kernel) (by decide)
  have h70 : Snd 1 RX11 cX11_count 2 (some .int) (inM "count") 70 (s_push (.int 1) 71) := snd_iconst (n := 1) (by decide +kernel) (by decide)
  have h71 : Snd 1 RX11 cX11_count 2 (some .int) (inM "count") 71 (s_goto 75) := snd_goto (off := 4) (by decide +kernel) (by decide)
  have h74 : Snd 1 RX11 cX11_count 2 (some .int) (inM "count") 74 (s_push (.int 0) 75) := snd_iconst (n := 0) (by decide +kernel) (by decide)
  have h75 : Snd 1 RX11 cX11_count 2 (some .int) (inM "count") 75 (s_ald 0 76) := snd_aload_n (j := 0) (by decide +kernel) rfl
  have h76 : Snd 1 RX11 cX11_count 2 (some .int) (inM "count") 76 (s_getf 10 2 79) := snd_getf (T := TX11) (f := 2) cI_10 (by decide) g_771 (by decide +kernel)
  have h79 : Snd 1 RX11 cX11_count 2 (some .int) (inM "count") 79 (s_push (.int 1) 80) := snd_iconst (n := 1) (by decide +kernel) (by decide)
  have h80 : Snd 1 RX11 cX11_count 2 (some .int) (inM "count") 80 (s_zald 81) := snd_zald (by decide +kernel)
  have h81 : Snd 1 RX11 cX11_count 2 (some .int) (inM "count") 81 (s_ifeq 88 84) := snd_ifeq (off := 7) (by decide +kernel) (by decide)
  have h84 : Snd 1 RX11 cX11_count 2 (some .int) (inM "count") 84 (s_push (.int 2) 85) := snd_iconst (n := 2) (by decide +kernel) (by decide)
  have h85 : Snd 1 RX11 cX11_count 2 (some .int) (inM "count") 85 (s_goto 89) := snd_goto (off := 4) (by decide +kernel) (by decide)
  have h88 : Snd 1 RX11 cX11_count 2 (some .int) (inM "count") 88 (s_push (.int 0) 89) := snd_iconst (n := 0) (by decide +kernel) (by decide)
  have h89 : Snd 1 RX11 cX11_count 2 (some .int) (inM "count") 89 (s_iadd 90) := snd_iadd (by decide +kernel)
  have h90 : Snd 1 RX11 cX11_count 2 (some .int) (inM "count") 90 (s_iret) := snd_iret (by decide +kernel)
  have h91 : Snd 1 RX11 cX11_count 2 (some .int) (inM "count") 91 (s_push (.int (-2)) 93) := snd_bipush (n := -2) (by decide +kernel) (by decide)
  have h93 : Snd 1 RX11 cX11_count 2 (some .int) (inM "count") 93 (s_iret) := snd_iret (by decide +kernel)
  exact fun pc => snd_ite (snd_ite (snd_ite (snd_ite (snd_ite (snd_leaf (k := 0) h0) (snd_leaf (k := 1) h1)) (snd_ite (snd_leaf (k := 36) h36) (snd_leaf (k := 37) h37))) (snd_ite (snd_ite (snd_leaf (k := 40) h40) (snd_leaf (k := 41) h41)) (snd_ite (snd_leaf (k := 42) h42) (snd_ite (snd_leaf (k := 45) h45) (snd_leaf (k := 46) h46))))) (snd_ite (snd_ite (snd_ite (snd_leaf (k := 47) h47) (snd_leaf (k := 48) h48)) (snd_ite (snd_leaf (k := 49) h49) (snd_ite (snd_leaf (k := 52) h52) (snd_leaf (k := 54) h54)))) (snd_ite (snd_ite (snd_leaf (k := 55) h55) (snd_leaf (k := 56) h56)) (snd_ite (snd_leaf (k := 57) h57) (snd_ite (snd_leaf (k := 60) h60) (snd_leaf (k := 61) h61)))))) (snd_ite (snd_ite (snd_ite (snd_ite (snd_leaf (k := 62) h62) (snd_leaf (k := 65) h65)) (snd_ite (snd_leaf (k := 66) h66) (snd_leaf (k := 67) h67))) (snd_ite (snd_ite (snd_leaf (k := 70) h70) (snd_leaf (k := 71) h71)) (snd_ite (snd_leaf (k := 74) h74) (snd_ite (snd_leaf (k := 75) h75) (snd_leaf (k := 76) h76))))) (snd_ite (snd_ite (snd_ite (snd_leaf (k := 79) h79) (snd_leaf (k := 80) h80)) (snd_ite (snd_leaf (k := 81) h81) (snd_ite (snd_leaf (k := 84) h84) (snd_leaf (k := 85) h85)))) (snd_ite (snd_ite (snd_leaf (k := 88) h88) (snd_leaf (k := 89) h89)) (snd_ite (snd_leaf (k := 90) h90) (snd_ite (snd_leaf (k := 91) h91) (snd_leaf (k := 93) h93))))))
def pX11_count : Spc := inl kX11_count 2 43
theorem oX11_count : Ok 1 yX11_count cX11_count 2 (some .int) pX11_count := ok_inl (by decide) rfl sX11_count

def kX11_isLiked : Nat → Stq := fun pc => if pc < 33 then (if pc < 16 then (if pc < 9 then (if pc < 4 then (if pc < 1 then (if pc = 0 then s_ald 0 1 else s_bad) else (if pc = 1 then s_getf 10 12 4 else s_bad)) else (if pc < 5 then (if pc = 4 then s_ald 0 5 else s_bad) else (if pc < 8 then (if pc = 5 then s_invv 10 0 pX11_many 8 else s_bad) else (if pc = 8 then s_push (.int 2) 9 else s_bad)))) else (if pc < 11 then (if pc < 10 then (if pc = 9 then s_isub 10 else s_bad) else (if pc = 10 then s_iald 11 else s_bad)) else (if pc < 12 then (if pc = 11 then s_ist 1 12 else s_bad) else (if pc < 13 then (if pc = 12 then s_ald 0 13 else s_bad) else (if pc = 13 then s_getf 10 12 16 else s_bad))))) else (if pc < 23 then (if pc < 20 then (if pc < 17 then (if pc = 16 then s_ald 0 17 else s_bad) else (if pc = 17 then s_invv 10 0 pX11_many 20 else s_bad)) else (if pc < 21 then (if pc = 20 then s_push (.int 1) 21 else s_bad) else (if pc < 22 then (if pc = 21 then s_isub 22 else s_bad) else (if pc = 22 then s_iald 23 else s_bad)))) else (if pc < 28 then (if pc < 24 then (if pc = 23 then s_ist 2 24 else s_bad) else (if pc < 25 then (if pc = 24 then s_ald 0 25 else s_bad) else (if pc = 25 then s_getf 10 12 28 else s_bad))) else (if pc < 29 then (if pc = 28 then s_ald 0 29 else s_bad) else (if pc < 32 then (if pc = 29 then s_invv 10 0 pX11_many 32 else s_bad) else (if pc = 32 then s_iald 33 else s_bad)))))) else (if pc < 46 then (if pc < 38 then (if pc < 35 then (if pc < 34 then (if pc = 33 then s_ist 3 34 else s_bad) else (if pc = 34 then s_ild 2 35 else s_bad)) else (if pc < 36 then (if pc = 35 then s_ild 1 36 else s_bad) else (if pc < 37 then (if pc = 36 then s_isub 37 else s_bad) else (if pc = 37 then s_ild 3 38 else s_bad)))) else (if pc < 43 then (if pc < 39 then (if pc = 38 then s_ild 2 39 else s_bad) else (if pc < 40 then (if pc = 39 then s_isub 40 else s_bad) else (if pc = 40 then s_icne 61 43 else s_bad))) else (if pc < 44 then (if pc = 43 then s_ild 2 44 else s_bad) else (if pc < 45 then (if pc = 44 then s_ild 1 45 else s_bad) else (if pc = 45 then s_isub 46 else s_bad))))) else (if pc < 53 then (if pc < 50 then (if pc < 47 then (if pc = 46 then s_push (.int 1) 47 else s_bad) else (if pc = 47 then s_iceq 57 50 else s_bad)) else (if pc < 51 then (if pc = 50 then s_ild 2 51 else s_bad) else (if pc < 52 then (if pc = 51 then s_ild 1 52 else s_bad) else (if pc = 52 then s_isub 53 else s_bad)))) else (if pc < 58 then (if pc < 54 then (if pc = 53 then s_push (.int (-1)) 54 else s_bad) else (if pc < 57 then (if pc = 54 then s_icne 61 57 else s_bad) else (if pc = 57 then s_push (.int 1) 58 else s_bad))) else (if pc < 61 then (if pc = 58 then s_goto 62 else s_bad) else (if pc < 62 then (if pc = 61 then s_push (.int 0) 62 else s_bad) else (if pc = 62 then s_zret else s_bad))))))
set_option maxRecDepth 20000 in
theorem sX11_isLiked : ∀ pc, Snd 1 RX11 cX11_isLiked 4 (some .boolean) (inM "isLiked") pc (kX11_isLiked pc) := by
  have h0 : Snd 1 RX11 cX11_isLiked 4 (some .boolean) (inM "isLiked") 0 (s_ald 0 1) := snd_aload_n (j := 0) (by decide +kernel) rfl
  have h1 : Snd 1 RX11 cX11_isLiked 4 (some .boolean) (inM "isLiked") 1 (s_getf 10 12 4) := snd_getf (T := TX11) (f := 12) cI_10 (by decide) g_781 (by decide +kernel)
  have h4 : Snd 1 RX11 cX11_isLiked 4 (some .boolean) (inM "isLiked") 4 (s_ald 0 5) := snd_aload_n (j := 0) (by decide +kernel) rfl
  have h5 : Snd 1 RX11 cX11_isLiked 4 (some .boolean) (inM "isLiked") 5 (s_invv 10 0 pX11_many 8) := snd_invv cI_10 oX11_many (by decide) (by decide) g_856 g_853 g_855 g_24 g_81 ⟨by decide, by decide, by decide +kernel⟩ (by decide +kernel)
  have h8 : Snd 1 RX11 cX11_isLiked 4 (some .boolean) (inM "isLiked") 8 (s_push (.int 2) 9) := snd_iconst (n := 2) (by decide +kernel) (by decide)
  have h9 : Snd 1 RX11 cX11_isLiked 4 (some .boolean) (inM "isLiked") 9 (s_isub 10) := snd_isub (by decide +kernel)
  have h10 : Snd 1 RX11 cX11_isLiked 4 (some .boolean) (inM "isLiked") 10 (s_iald 11) := snd_iald (by decide +kernel)
  have h11 : Snd 1 RX11 cX11_isLiked 4 (some .boolean) (inM "isLiked") 11 (s_ist 1 12) := snd_istore_n (j := 1) (by decide +kernel) rfl
  have h12 : Snd 1 RX11 cX11_isLiked 4 (some .boolean) (inM "isLiked") 12 (s_ald 0 13) := snd_aload_n (j := 0) (by decide +kernel) rfl
  have h13 : Snd 1 RX11 cX11_isLiked 4 (some .boolean) (inM "isLiked") 13 (s_getf 10 12 16) := snd_getf (T := TX11) (f := 12) cI_10 (by decide) g_781 (by decide +kernel)
  have h16 : Snd 1 RX11 cX11_isLiked 4 (some .boolean) (inM "isLiked") 16 (s_ald 0 17) := snd_aload_n (j := 0) (by decide +kernel) rfl
  have h17 : Snd 1 RX11 cX11_isLiked 4 (some .boolean) (inM "isLiked") 17 (s_invv 10 0 pX11_many 20) := snd_invv cI_10 oX11_many (by decide) (by decide) g_856 g_853 g_855 g_24 g_81 ⟨by decide, by decide, by decide +kernel⟩ (by decide +kernel)
  have h20 : Snd 1 RX11 cX11_isLiked 4 (some .boolean) (inM "isLiked") 20 (s_push (.int 1) 21) := snd_iconst (n := 1) (by decide +kernel) (by decide)
  have h21 : Snd 1 RX11 cX11_isLiked 4 (some .boolean) (inM "isLiked") 21 (s_isub 22) := snd_isub (by decide +kernel)
  have h22 : Snd 1 RX11 cX11_isLiked 4 (some .boolean) (inM "isLiked") 22 (s_iald 23) := snd_iald (by decide +kernel)
  have h23 : Snd 1 RX11 cX11_isLiked 4 (some .boolean) (inM "isLiked") 23 (s_ist 2 24) := snd_istore_n (j := 2) (by decide +kernel) rfl
  have h24 : Snd 1 RX11 cX11_isLiked 4 (some .boolean) (inM "isLiked") 24 (s_ald 0 25) := snd_aload_n (j := 0) (by decide +kernel) rfl
  have h25 : Snd 1 RX11 cX11_isLiked 4 (some .boolean) (inM "isLiked") 25 (s_getf 10 12 28) := snd_getf (T := TX11) (f := 12) cI_10 (by decide) g_781 (by decide +kernel)
  have h28 : Snd 1 RX11 cX11_isLiked 4 (some .boolean) (inM "isLiked") 28 (s_ald 0 29) := snd_aload_n (j := 0) (by decide +kernel) rfl
  have h29 : Snd 1 RX11 cX11_isLiked 4 (some .boolean) (inM "isLiked") 29 (s_invv 10 0 pX11_many 32) := snd_invv cI_10 oX11_many (by decide) (by decide) g_856 g_853 g_855 g_24 g_81 ⟨by decide, by decide, by decide +kernel⟩ (by decide +kernel)
  have h32 : Snd 1 RX11 cX11_isLiked 4 (some .boolean) (inM "isLiked") 32 (s_iald 33) := snd_iald (by decide +kernel)
  have h33 : Snd 1 RX11 cX11_isLiked 4 (some .boolean) (inM "isLiked") 33 (s_ist 3 34) := snd_istore_n (j := 3) (by decide +kernel) rfl
  have h34 : Snd 1 RX11 cX11_isLiked 4 (some .boolean) (inM "isLiked") 34 (s_ild 2 35) := snd_iload_n (j := 2) (by decide +kernel) rfl
  have h35 : Snd 1 RX11 cX11_isLiked 4 (some .boolean) (inM "isLiked") 35 (s_ild 1 36) := snd_iload_n (j := 1) (by decide +kernel) rfl
  have h36 : Snd 1 RX11 cX11_isLiked 4 (some .boolean) (inM "isLiked") 36 (s_isub 37) := snd_isub (by decide +kernel)
  have h37 : Snd 1 RX11 cX11_isLiked 4 (some .boolean) (inM "isLiked") 37 (s_ild 3 38) := snd_iload_n (j := 3) (by decide +kernel) rfl
  have h38 : Snd 1 RX11 cX11_isLiked 4 (some .boolean) (inM "isLiked") 38 (s_ild 2 39) := snd_iload_n (j := 2) (by decide +kernel) rfl
  have h39 : Snd 1 RX11 cX11_isLiked 4 (some .boolean) (inM "isLiked") 39 (s_isub 40) := snd_isub (by decide +kernel)
  have h40 : Snd 1 RX11 cX11_isLiked 4 (some .boolean) (inM "isLiked") 40 (s_icne 61 43) := snd_icne (off := 21) (by decide +kernel) (by decide)
  have h43 : Snd 1 RX11 cX11_isLiked 4 (some .boolean) (inM "isLiked") 43 (s_ild 2 44) := snd_iload_n (j := 2) (by decide +kernel) rfl
  have h44 : Snd 1 RX11 cX11_isLiked 4 (some .boolean) (inM "isLiked") 44 (s_ild 1 45) := snd_iload_n (j := 1) (by decide +kernel) rfl
  have h45 : Snd 1 RX11 cX11_isLiked 4 (some .boolean) (inM "isLiked") 45 (s_isub 46) := snd_isub (by decide +kernel)
  have h46 : Snd 1 RX11 cX11_isLiked 4 (some .boolean) (inM "isLiked") 46 (s_push (.int 1) 47) := snd_iconst (n := 1) (by decide +kernel) (by decide)
  have h47 : Snd 1 RX11 cX11_isLiked 4 (some .boolean) (inM "isLiked") 47 (s_iceq 57 50) := snd_iceq (off := 10) (by decide +kernel) (by decide)
  have h50 : Snd 1 RX11 cX11_isLiked 4 (some .boolean) (inM "isLiked") 50 (s_ild 2 51) := snd_iload_n (j := 2) (by decide +kernel) rfl
  have h51 : Snd 1 RX11 cX11_isLiked 4 (some .boolean) (inM "isLiked") 51 (s_ild 1 52) := snd_iload_n (j := 1) (by decide +kernel) rfl
  have h52 : Snd 1 RX11 cX11_isLiked 4 (some .boolean) (inM "isLiked") 52 (s_isub 53) := snd_isub (by decide +kernel)
  have h53 : Snd 1 RX11 cX11_isLiked 4 (some .boolean) (inM "isLiked") 53 (s_push (.int (-1)) 54) := snd_iconst (n := -1) (by decide +kernel) (by decide)
  have h54 : Snd 1 RX11 cX11_isLiked 4 (some .boolean) (inM "isLiked") 54 (s_icne 61 57) := snd_icne (off := 7) (by decide +kernel) (by decide)
  have h57 : Snd 1 RX11 cX11_isLiked 4 (some .boolean) (inM "isLiked") 57 (s_push (.int 1) 58) := snd_iconst (n := 1) (by decide +kernel) (by decide)
  have h58 : Snd 1 RX11 cX11_isLiked 4 (some .boolean) (inM "isLiked") 58 (s_goto 62) := snd_goto (off := 4) (by decide +kernel) (by decide)
  have h61 : Snd 1 RX11 cX11_isLiked 4 (some .boolean) (inM "isLiked") 61 (s_push (.int 0) 62) := snd_iconst (n := 0) (by decide +kernel) (by decide)
  have h62 : Snd 1 RX11 cX11_isLiked 4 (some .boolean) (inM "isLiked") 62 (s_zret) := snd_zret (by decide +kernel)
  exact fun pc => snd_ite (snd_ite (snd_ite (snd_ite (snd_ite (snd_leaf (k := 0) h0) (snd_leaf (k := 1) h1)) (snd_ite (snd_leaf (k := 4) h4) (snd_ite (snd_leaf (k := 5) h5) (snd_leaf (k := 8) h8)))) (snd_ite (snd_ite (snd_leaf (k := 9) h9) (snd_leaf (k := 10) h10)) (snd_ite (snd_leaf (k := 11) h11) (snd_ite (snd_leaf (k := 12) h12) (snd_leaf (k := 13) h13))))) (snd_ite (snd_ite (snd_ite (snd_leaf (k := 16) h16) (snd_leaf (k := 17) h17)) (snd_ite (snd_leaf (k := 20) h20) (snd_ite (snd_leaf (k := 21) h21) (snd_leaf (k := 22) h22)))) (snd_ite (snd_ite (snd_leaf (k := 23) h23) (snd_ite (snd_leaf (k := 24) h24) (snd_leaf (k := 25) h25))) (snd_ite (snd_leaf (k := 28) h28) (snd_ite (snd_leaf (k := 29) h29) (snd_leaf (k := 32) h32)))))) (snd_ite (snd_ite (snd_ite (snd_ite (snd_leaf (k := 33) h33) (snd_leaf (k := 34) h34)) (snd_ite (snd_leaf (k := 35) h35) (snd_ite (snd_leaf (k := 36) h36) (snd_leaf (k := 37) h37)))) (snd_ite (snd_ite (snd_leaf (k := 38) h38) (snd_ite (snd_leaf (k := 39) h39) (snd_leaf (k := 40) h40))) (snd_ite (snd_leaf (k := 43) h43) (snd_ite (snd_leaf (k := 44) h44) (snd_leaf (k := 45) h45))))) (snd_ite (snd_ite (snd_ite (snd_leaf (k := 46) h46) (snd_leaf (k := 47) h47)) (snd_ite (snd_leaf (k := 50) h50) (snd_ite (snd_leaf (k := 51) h51) (snd_leaf (k := 52) h52)))) (snd_ite (snd_ite (snd_leaf (k := 53) h53) (snd_ite (snd_leaf (k := 54) h54) (snd_leaf (k := 57) h57))) (snd_ite (snd_leaf (k := 58) h58) (snd_ite (snd_leaf (k := 61) h61) (snd_leaf (k := 62) h62))))))
def pX11_isLiked : Spc := inl kX11_isLiked 4 48
theorem oX11_isLiked : Ok 1 yX11_isLiked cX11_isLiked 4 (some .boolean) pX11_isLiked := ok_inl (by decide) rfl sX11_isLiked

def kX11_isWhole : Nat → Stq := fun pc => if pc < 15 then (if pc < 7 then (if pc < 1 then (if pc = 0 then s_ald 0 1 else s_bad) else (if pc < 4 then (if pc = 1 then s_getf 10 9 4 else s_bad) else (if pc = 4 then s_ifeq 25 7 else s_bad))) else (if pc < 11 then (if pc < 8 then (if pc = 7 then s_ald 0 8 else s_bad) else (if pc = 8 then s_invv 10 0 pX11_many 11 else s_bad)) else (if pc < 12 then (if pc = 11 then s_ald 0 12 else s_bad) else (if pc = 12 then s_getf 10 8 15 else s_bad)))) else (if pc < 21 then (if pc < 17 then (if pc < 16 then (if pc = 15 then s_isub 16 else s_bad) else (if pc = 16 then s_push (.int 2) 17 else s_bad)) else (if pc < 18 then (if pc = 17 then s_irem 18 else s_bad) else (if pc = 18 then s_ifne 25 21 else s_bad))) else (if pc < 25 then (if pc < 22 then (if pc = 21 then s_push (.int 1) 22 else s_bad) else (if pc = 22 then s_goto 26 else s_bad)) else (if pc < 26 then (if pc = 25 then s_push (.int 0) 26 else s_bad) else (if pc = 26 then s_zret else s_bad))))
set_option maxRecDepth 20000 in
theorem sX11_isWhole : ∀ pc, Snd 1 RX11 cX11_isWhole 1 (some .boolean) (inM "isWhole") pc (kX11_isWhole pc) := by
  have h0 : Snd 1 RX11 cX11_isWhole 1 (some .boolean) (inM "isWhole") 0 (s_ald 0 1) := snd_aload_n (j := 0) (by decide +kernel) rfl
  have h1 : Snd 1 RX11 cX11_isWhole 1 (some .boolean) (inM "isWhole") 1 (s_getf 10 9 4) := snd_getf (T := TX11) (f := 9) cI_10 (by decide) g_778 (by decide +kernel)
  have h4 : Snd 1 RX11 cX11_isWhole 1 (some .boolean) (inM "isWhole") 4 (s_ifeq 25 7) := snd_ifeq (off := 21) (by decide +kernel) (by decide)
  have h7 : Snd 1 RX11 cX11_isWhole 1 (some .boolean) (inM "isWhole") 7 (s_ald 0 8) := snd_aload_n (j := 0) (by decide +kernel) rfl
  have h8 : Snd 1 RX11 cX11_isWhole 1 (some .boolean) (inM "isWhole") 8 (s_invv 10 0 pX11_many 11) := snd_invv cI_10 oX11_many (by decide) (by decide) g_856 g_853 g_855 g_24 g_81 ⟨by decide, by decide, by decide +kernel⟩ (by decide +kernel)
  have h11 : Snd 1 RX11 cX11_isWhole 1 (some .boolean) (inM "isWhole") 11 (s_ald 0 12) := snd_aload_n (j := 0) (by decide +kernel) rfl
  have h12 : Snd 1 RX11 cX11_isWhole 1 (some .boolean) (inM "isWhole") 12 (s_getf 10 8 15) := snd_getf (T := TX11) (f := 8) cI_10 (by decide) g_777 (by decide +kernel)
  have h15 : Snd 1 RX11 cX11_isWhole 1 (some .boolean) (inM "isWhole") 15 (s_isub 16) := snd_isub (by decide +kernel)
  have h16 : Snd 1 RX11 cX11_isWhole 1 (some .boolean) (inM "isWhole") 16 (s_push (.int 2) 17) := snd_iconst (n := 2) (by decide +kernel) (by decide)
  have h17 : Snd 1 RX11 cX11_isWhole 1 (some .boolean) (inM "isWhole") 17 (s_irem 18) := snd_irem (by decide +kernel)
  have h18 : Snd 1 RX11 cX11_isWhole 1 (some .boolean) (inM "isWhole") 18 (s_ifne 25 21) := snd_ifne (off := 7) (by decide +kernel) (by decide)
  have h21 : Snd 1 RX11 cX11_isWhole 1 (some .boolean) (inM "isWhole") 21 (s_push (.int 1) 22) := snd_iconst (n := 1) (by decide +kernel) (by decide)
  have h22 : Snd 1 RX11 cX11_isWhole 1 (some .boolean) (inM "isWhole") 22 (s_goto 26) := snd_goto (off := 4) (by decide +kernel) (by decide)
  have h25 : Snd 1 RX11 cX11_isWhole 1 (some .boolean) (inM "isWhole") 25 (s_push (.int 0) 26) := snd_iconst (n := 0) (by decide +kernel) (by decide)
  have h26 : Snd 1 RX11 cX11_isWhole 1 (some .boolean) (inM "isWhole") 26 (s_zret) := snd_zret (by decide +kernel)
  exact fun pc => snd_ite (snd_ite (snd_ite (snd_leaf (k := 0) h0) (snd_ite (snd_leaf (k := 1) h1) (snd_leaf (k := 4) h4))) (snd_ite (snd_ite (snd_leaf (k := 7) h7) (snd_leaf (k := 8) h8)) (snd_ite (snd_leaf (k := 11) h11) (snd_leaf (k := 12) h12)))) (snd_ite (snd_ite (snd_ite (snd_leaf (k := 15) h15) (snd_leaf (k := 16) h16)) (snd_ite (snd_leaf (k := 17) h17) (snd_leaf (k := 18) h18))) (snd_ite (snd_ite (snd_leaf (k := 21) h21) (snd_leaf (k := 22) h22)) (snd_ite (snd_leaf (k := 25) h25) (snd_leaf (k := 26) h26))))
def pX11_isWhole : Spc := inl kX11_isWhole 1 20
theorem oX11_isWhole : Ok 1 yX11_isWhole cX11_isWhole 1 (some .boolean) pX11_isWhole := ok_inl (by decide) rfl sX11_isWhole

def kX11_say : Nat → Stq := fun pc => if pc < 27 then (if pc < 14 then (if pc < 5 then (if pc < 1 then (if pc = 0 then s_ild 1 1 else s_bad) else (if pc < 3 then (if pc = 1 then s_push (.int 33) 3 else s_bad) else (if pc = 3 then s_push (.int 126) 5 else s_bad))) else (if pc < 11 then (if pc < 8 then (if pc = 5 then s_inv 3 pX11_in 8 else s_bad) else (if pc = 8 then s_ifne 14 11 else s_bad)) else (if pc < 13 then (if pc = 11 then s_push (.int (-2)) 13 else s_bad) else (if pc = 13 then s_iret else s_bad)))) else (if pc < 20 then (if pc < 15 then (if pc = 14 then s_ald 0 15 else s_bad) else (if pc < 18 then (if pc = 15 then s_getf 10 4 18 else s_bad) else (if pc = 18 then s_push (.int 40) 20 else s_bad))) else (if pc < 25 then (if pc < 23 then (if pc = 20 then s_icne 26 23 else s_bad) else (if pc = 23 then s_push (.int (-4)) 25 else s_bad)) else (if pc < 26 then (if pc = 25 then s_iret else s_bad) else (if pc = 26 then s_ald 0 27 else s_bad))))) else (if pc < 38 then (if pc < 34 then (if pc < 30 then (if pc = 27 then s_getf 10 3 30 else s_bad) else (if pc < 31 then (if pc = 30 then s_ald 0 31 else s_bad) else (if pc = 31 then s_getf 10 4 34 else s_bad))) else (if pc < 36 then (if pc < 35 then (if pc = 34 then s_ild 1 35 else s_bad) else (if pc = 35 then s_iast 36 else s_bad)) else (if pc < 37 then (if pc = 36 then s_ald 0 37 else s_bad) else (if pc = 37 then s_dup 38 else s_bad)))) else (if pc < 43 then (if pc < 41 then (if pc = 38 then s_getf 10 4 41 else s_bad) else (if pc < 42 then (if pc = 41 then s_push (.int 1) 42 else s_bad) else (if pc = 42 then s_iadd 43 else s_bad))) else (if pc < 47 then (if pc < 46 then (if pc = 43 then s_puti 10 4 46 else s_bad) else (if pc = 46 then s_ald 0 47 else s_bad)) else (if pc < 50 then (if pc = 47 then s_getf 10 4 50 else s_bad) else (if pc = 50 then s_iret else s_bad)))))
set_option maxRecDepth 20000 in
theorem sX11_say : ∀ pc, Snd 1 RX11 cX11_say 2 (some .int) (inM "say") pc (kX11_say pc) := by
  have h0 : Snd 1 RX11 cX11_say 2 (some .int) (inM "say") 0 (s_ild 1 1) := snd_iload_n (j := 1) (by decide +kernel) rfl
  have h1 : Snd 1 RX11 cX11_say 2 (some .int) (inM "say") 1 (s_push (.int 33) 3) := snd_bipush (n := 33) (by decide +kernel) (by decide)
  have h3 : Snd 1 RX11 cX11_say 2 (some .int) (inM "say") 3 (s_push (.int 126) 5) := snd_bipush (n := 126) (by decide +kernel) (by decide)
  have h5 : Snd 1 RX11 cX11_say 2 (some .int) (inM "say") 5 (s_inv 3 pX11_in 8) := snd_invs oX11_in (by decide) (by decide) g_852 g_850 g_851 g_81 ⟨by decide, by decide, by decide +kernel⟩ (by decide +kernel)
  have h8 : Snd 1 RX11 cX11_say 2 (some .int) (inM "say") 8 (s_ifne 14 11) := snd_ifne (off := 6) (by decide +kernel) (by decide)
  have h11 : Snd 1 RX11 cX11_say 2 (some .int) (inM "say") 11 (s_push (.int (-2)) 13) := snd_bipush (n := -2) (by decide +kernel) (by decide)
  have h13 : Snd 1 RX11 cX11_say 2 (some .int) (inM "say") 13 (s_iret) := snd_iret (by decide +kernel)
  have h14 : Snd 1 RX11 cX11_say 2 (some .int) (inM "say") 14 (s_ald 0 15) := snd_aload_n (j := 0) (by decide +kernel) rfl
  have h15 : Snd 1 RX11 cX11_say 2 (some .int) (inM "say") 15 (s_getf 10 4 18) := snd_getf (T := TX11) (f := 4) cI_10 (by decide) g_773 (by decide +kernel)
  have h18 : Snd 1 RX11 cX11_say 2 (some .int) (inM "say") 18 (s_push (.int 40) 20) := snd_bipush (n := 40) (by decide +kernel) (by decide)
  have h20 : Snd 1 RX11 cX11_say 2 (some .int) (inM "say") 20 (s_icne 26 23) := snd_icne (off := 6) (by decide +kernel) (by decide)
  have h23 : Snd 1 RX11 cX11_say 2 (some .int) (inM "say") 23 (s_push (.int (-4)) 25) := snd_bipush (n := -4) (by decide +kernel) (by decide)
  have h25 : Snd 1 RX11 cX11_say 2 (some .int) (inM "say") 25 (s_iret) := snd_iret (by decide +kernel)
  have h26 : Snd 1 RX11 cX11_say 2 (some .int) (inM "say") 26 (s_ald 0 27) := snd_aload_n (j := 0) (by decide +kernel) rfl
  have h27 : Snd 1 RX11 cX11_say 2 (some .int) (inM "say") 27 (s_getf 10 3 30) := snd_getf (T := TX11) (f := 3) cI_10 (by decide) g_772 (by decide +kernel)
  have h30 : Snd 1 RX11 cX11_say 2 (some .int) (inM "say") 30 (s_ald 0 31) := snd_aload_n (j := 0) (by decide +kernel) rfl
  have h31 : Snd 1 RX11 cX11_say 2 (some .int) (inM "say") 31 (s_getf 10 4 34) := snd_getf (T := TX11) (f := 4) cI_10 (by decide) g_773 (by decide +kernel)
  have h34 : Snd 1 RX11 cX11_say 2 (some .int) (inM "say") 34 (s_ild 1 35) := snd_iload_n (j := 1) (by decide +kernel) rfl
  have h35 : Snd 1 RX11 cX11_say 2 (some .int) (inM "say") 35 (s_iast 36) := snd_iast (by decide +kernel)
  have h36 : Snd 1 RX11 cX11_say 2 (some .int) (inM "say") 36 (s_ald 0 37) := snd_aload_n (j := 0) (by decide +kernel) rfl
  have h37 : Snd 1 RX11 cX11_say 2 (some .int) (inM "say") 37 (s_dup 38) := snd_dup (by decide +kernel)
  have h38 : Snd 1 RX11 cX11_say 2 (some .int) (inM "say") 38 (s_getf 10 4 41) := snd_getf (T := TX11) (f := 4) cI_10 (by decide) g_773 (by decide +kernel)
  have h41 : Snd 1 RX11 cX11_say 2 (some .int) (inM "say") 41 (s_push (.int 1) 42) := snd_iconst (n := 1) (by decide +kernel) (by decide)
  have h42 : Snd 1 RX11 cX11_say 2 (some .int) (inM "say") 42 (s_iadd 43) := snd_iadd (by decide +kernel)
  have h43 : Snd 1 RX11 cX11_say 2 (some .int) (inM "say") 43 (s_puti 10 4 46) := snd_puti (T := TX11) (f := 4) cI_10 (by decide) g_773 (by decide) (by decide +kernel) (by decide +kernel)
  have h46 : Snd 1 RX11 cX11_say 2 (some .int) (inM "say") 46 (s_ald 0 47) := snd_aload_n (j := 0) (by decide +kernel) rfl
  have h47 : Snd 1 RX11 cX11_say 2 (some .int) (inM "say") 47 (s_getf 10 4 50) := snd_getf (T := TX11) (f := 4) cI_10 (by decide) g_773 (by decide +kernel)
  have h50 : Snd 1 RX11 cX11_say 2 (some .int) (inM "say") 50 (s_iret) := snd_iret (by decide +kernel)
  exact fun pc => snd_ite (snd_ite (snd_ite (snd_ite (snd_leaf (k := 0) h0) (snd_ite (snd_leaf (k := 1) h1) (snd_leaf (k := 3) h3))) (snd_ite (snd_ite (snd_leaf (k := 5) h5) (snd_leaf (k := 8) h8)) (snd_ite (snd_leaf (k := 11) h11) (snd_leaf (k := 13) h13)))) (snd_ite (snd_ite (snd_leaf (k := 14) h14) (snd_ite (snd_leaf (k := 15) h15) (snd_leaf (k := 18) h18))) (snd_ite (snd_ite (snd_leaf (k := 20) h20) (snd_leaf (k := 23) h23)) (snd_ite (snd_leaf (k := 25) h25) (snd_leaf (k := 26) h26))))) (snd_ite (snd_ite (snd_ite (snd_leaf (k := 27) h27) (snd_ite (snd_leaf (k := 30) h30) (snd_leaf (k := 31) h31))) (snd_ite (snd_ite (snd_leaf (k := 34) h34) (snd_leaf (k := 35) h35)) (snd_ite (snd_leaf (k := 36) h36) (snd_leaf (k := 37) h37)))) (snd_ite (snd_ite (snd_leaf (k := 38) h38) (snd_ite (snd_leaf (k := 41) h41) (snd_leaf (k := 42) h42))) (snd_ite (snd_ite (snd_leaf (k := 43) h43) (snd_leaf (k := 46) h46)) (snd_ite (snd_leaf (k := 47) h47) (snd_leaf (k := 50) h50)))))
def pX11_say : Spc := inl kX11_say 2 33
theorem oX11_say : Ok 1 yX11_say cX11_say 2 (some .int) pX11_say := ok_inl (by decide) rfl sX11_say

def kX10_image : Nat → Stq := fun pc => if pc < 18 then (if pc < 9 then (if pc < 4 then (if pc < 1 then (if pc = 0 then s_ild 1 1 else s_bad) else (if pc = 1 then s_iflt 9 4 else s_bad)) else (if pc < 5 then (if pc = 4 then s_ild 1 5 else s_bad) else (if pc < 6 then (if pc = 5 then s_push (.int 1) 6 else s_bad) else (if pc = 6 then s_icle 12 9 else s_bad)))) else (if pc < 13 then (if pc < 11 then (if pc = 9 then s_push (.int (-2)) 11 else s_bad) else (if pc < 12 then (if pc = 11 then s_iret else s_bad) else (if pc = 12 then s_ald 0 13 else s_bad))) else (if pc < 14 then (if pc = 13 then s_ild 1 14 else s_bad) else (if pc < 17 then (if pc = 14 then s_invv 9 1 pX10_imageOf 17 else s_bad) else (if pc = 17 then s_ald 0 18 else s_bad))))) else (if pc < 30 then (if pc < 25 then (if pc < 21 then (if pc = 18 then s_getf 9 0 21 else s_bad) else (if pc < 24 then (if pc = 21 then s_invv 8 1 pX9_copyFrom 24 else s_bad) else (if pc = 24 then s_ald 0 25 else s_bad))) else (if pc < 26 then (if pc = 25 then s_dup 26 else s_bad) else (if pc < 29 then (if pc = 26 then s_getf 9 3 29 else s_bad) else (if pc = 29 then s_push (.int 1) 30 else s_bad)))) else (if pc < 33 then (if pc < 31 then (if pc = 30 then s_ild 1 31 else s_bad) else (if pc < 32 then (if pc = 31 then s_ishl 32 else s_bad) else (if pc = 32 then s_ior 33 else s_bad))) else (if pc < 36 then (if pc = 33 then s_puti 9 3 36 else s_bad) else (if pc < 37 then (if pc = 36 then s_push (.int 1) 37 else s_bad) else (if pc = 37 then s_iret else s_bad)))))
set_option maxRecDepth 20000 in
theorem sX10_image : ∀ pc, Snd 2 RX10 cX10_image 2 (some .int) (inM "image") pc (kX10_image pc) := by
  have h0 : Snd 2 RX10 cX10_image 2 (some .int) (inM "image") 0 (s_ild 1 1) := snd_iload_n (j := 1) (by decide +kernel) rfl
  have h1 : Snd 2 RX10 cX10_image 2 (some .int) (inM "image") 1 (s_iflt 9 4) := snd_iflt (off := 8) (by decide +kernel) (by decide)
  have h4 : Snd 2 RX10 cX10_image 2 (some .int) (inM "image") 4 (s_ild 1 5) := snd_iload_n (j := 1) (by decide +kernel) rfl
  have h5 : Snd 2 RX10 cX10_image 2 (some .int) (inM "image") 5 (s_push (.int 1) 6) := snd_iconst (n := 1) (by decide +kernel) (by decide)
  have h6 : Snd 2 RX10 cX10_image 2 (some .int) (inM "image") 6 (s_icle 12 9) := snd_icle (off := 6) (by decide +kernel) (by decide)
  have h9 : Snd 2 RX10 cX10_image 2 (some .int) (inM "image") 9 (s_push (.int (-2)) 11) := snd_bipush (n := -2) (by decide +kernel) (by decide)
  have h11 : Snd 2 RX10 cX10_image 2 (some .int) (inM "image") 11 (s_iret) := snd_iret (by decide +kernel)
  have h12 : Snd 2 RX10 cX10_image 2 (some .int) (inM "image") 12 (s_ald 0 13) := snd_aload_n (j := 0) (by decide +kernel) rfl
  have h13 : Snd 2 RX10 cX10_image 2 (some .int) (inM "image") 13 (s_ild 1 14) := snd_iload_n (j := 1) (by decide +kernel) rfl
  have h14 : Snd 2 RX10 cX10_image 2 (some .int) (inM "image") 14 (s_invv 9 1 pX10_imageOf 17) := snd_invv cI_9 oX10_imageOf (by decide) (by decide) g_744 g_741 g_743 g_22 g_70 ⟨by decide, by decide, by decide +kernel⟩ (by decide +kernel)
  have h17 : Snd 2 RX10 cX10_image 2 (some .int) (inM "image") 17 (s_ald 0 18) := snd_aload_n (j := 0) (by decide +kernel) rfl
  have h18 : Snd 2 RX10 cX10_image 2 (some .int) (inM "image") 18 (s_getf 9 0 21) := snd_getf (T := TX10) (f := 0) cI_9 (by decide) g_361 (by decide +kernel)
  have h21 : Snd 2 RX10 cX10_image 2 (some .int) (inM "image") 21 (s_invv 8 1 pX9_copyFrom 24) := snd_invv cI_8 oX9_copyFrom (by decide) (by decide) g_748 g_745 g_746 g_747 g_71 ⟨by decide, by decide, by decide +kernel⟩ (by decide +kernel)
  have h24 : Snd 2 RX10 cX10_image 2 (some .int) (inM "image") 24 (s_ald 0 25) := snd_aload_n (j := 0) (by decide +kernel) rfl
  have h25 : Snd 2 RX10 cX10_image 2 (some .int) (inM "image") 25 (s_dup 26) := snd_dup (by decide +kernel)
  have h26 : Snd 2 RX10 cX10_image 2 (some .int) (inM "image") 26 (s_getf 9 3 29) := snd_getf (T := TX10) (f := 3) cI_9 (by decide) g_364 (by decide +kernel)
  have h29 : Snd 2 RX10 cX10_image 2 (some .int) (inM "image") 29 (s_push (.int 1) 30) := snd_iconst (n := 1) (by decide +kernel) (by decide)
  have h30 : Snd 2 RX10 cX10_image 2 (some .int) (inM "image") 30 (s_ild 1 31) := snd_iload_n (j := 1) (by decide +kernel) rfl
  have h31 : Snd 2 RX10 cX10_image 2 (some .int) (inM "image") 31 (s_ishl 32) := snd_ishl (by decide +kernel)
  have h32 : Snd 2 RX10 cX10_image 2 (some .int) (inM "image") 32 (s_ior 33) := snd_ior (by decide +kernel)
  have h33 : Snd 2 RX10 cX10_image 2 (some .int) (inM "image") 33 (s_puti 9 3 36) := snd_puti (T := TX10) (f := 3) cI_9 (by decide) g_364 (by decide) (by decide +kernel) (by decide +kernel)
  have h36 : Snd 2 RX10 cX10_image 2 (some .int) (inM "image") 36 (s_push (.int 1) 37) := snd_iconst (n := 1) (by decide +kernel) (by decide)
  have h37 : Snd 2 RX10 cX10_image 2 (some .int) (inM "image") 37 (s_iret) := snd_iret (by decide +kernel)
  exact fun pc => snd_ite (snd_ite (snd_ite (snd_ite (snd_leaf (k := 0) h0) (snd_leaf (k := 1) h1)) (snd_ite (snd_leaf (k := 4) h4) (snd_ite (snd_leaf (k := 5) h5) (snd_leaf (k := 6) h6)))) (snd_ite (snd_ite (snd_leaf (k := 9) h9) (snd_ite (snd_leaf (k := 11) h11) (snd_leaf (k := 12) h12))) (snd_ite (snd_leaf (k := 13) h13) (snd_ite (snd_leaf (k := 14) h14) (snd_leaf (k := 17) h17))))) (snd_ite (snd_ite (snd_ite (snd_leaf (k := 18) h18) (snd_ite (snd_leaf (k := 21) h21) (snd_leaf (k := 24) h24))) (snd_ite (snd_leaf (k := 25) h25) (snd_ite (snd_leaf (k := 26) h26) (snd_leaf (k := 29) h29)))) (snd_ite (snd_ite (snd_leaf (k := 30) h30) (snd_ite (snd_leaf (k := 31) h31) (snd_leaf (k := 32) h32))) (snd_ite (snd_leaf (k := 33) h33) (snd_ite (snd_leaf (k := 36) h36) (snd_leaf (k := 37) h37)))))
def pX10_image : Spc := inl kX10_image 2 28
theorem oX10_image : Ok 2 yX10_image cX10_image 2 (some .int) pX10_image := ok_inl (by decide) rfl sX10_image

def kX3_take : Nat → Stq := fun pc => if pc < 46 then (if pc < 40 then (if pc < 36 then (if pc < 1 then (if pc = 0 then s_ild 1 1 else s_bad) else (if pc = 1 then s_sw [(44, 46), (46, 41), (120, 36)] 51 else s_bad)) else (if pc < 37 then (if pc = 36 then s_ald 0 37 else s_bad) else (if pc = 37 then s_invv 3 0 pX3_takeCross 40 else s_bad))) else (if pc < 42 then (if pc < 41 then (if pc = 40 then s_zret else s_bad) else (if pc = 41 then s_ald 0 42 else s_bad)) else (if pc < 45 then (if pc = 42 then s_invv 3 0 pX3_takePoint 45 else s_bad) else (if pc = 45 then s_zret else s_bad)))) else (if pc < 52 then (if pc < 50 then (if pc < 47 then (if pc = 46 then s_ald 0 47 else s_bad) else (if pc = 47 then s_invv 3 0 pX3_takeComma 50 else s_bad)) else (if pc < 51 then (if pc = 50 then s_zret else s_bad) else (if pc = 51 then s_ald 0 52 else s_bad))) else (if pc < 55 then (if pc < 53 then (if pc = 52 then s_ild 1 53 else s_bad) else (if pc = 53 then s_push (.int 48) 55 else s_bad)) else (if pc < 56 then (if pc = 55 then s_isub 56 else s_bad) else (if pc < 59 then (if pc = 56 then s_invv 3 1 pX3_takeFigure 59 else s_bad) else (if pc = 59 then s_zret else s_bad)))))
set_option maxRecDepth 20000 in
theorem sX3_take : ∀ pc, Snd 2 RX3 cX3_take 2 (some .boolean) (inM "take") pc (kX3_take pc) := by
  have h0 : Snd 2 RX3 cX3_take 2 (some .boolean) (inM "take") 0 (s_ild 1 1) := snd_iload_n (j := 1) (by decide +kernel) rfl
  have h1 : Snd 2 RX3 cX3_take 2 (some .boolean) (inM "take") 1 (s_sw [(44, 46), (46, 41), (120, 36)] 51) := snd_lsw (dflt := 50) (ps := #[(44, 45), (46, 40), (120, 35)]) (len := 35) [(44, 46), (46, 41), (120, 36)] (by decide +kernel) (by decide) (by decide +kernel) (by decide +kernel)
  have h36 : Snd 2 RX3 cX3_take 2 (some .boolean) (inM "take") 36 (s_ald 0 37) := snd_aload_n (j := 0) (by decide +kernel) rfl
  have h37 : Snd 2 RX3 cX3_take 2 (some .boolean) (inM "take") 37 (s_invv 3 0 pX3_takeCross 40) := snd_invv cI_3 oX3_takeCross (by decide) (by decide) g_426 g_423 g_425 g_3 g_73 ⟨by decide, by decide, by decide +kernel⟩ (by decide +kernel)
  have h40 : Snd 2 RX3 cX3_take 2 (some .boolean) (inM "take") 40 (s_zret) := snd_zret (by decide +kernel)
  have h41 : Snd 2 RX3 cX3_take 2 (some .boolean) (inM "take") 41 (s_ald 0 42) := snd_aload_n (j := 0) (by decide +kernel) rfl
  have h42 : Snd 2 RX3 cX3_take 2 (some .boolean) (inM "take") 42 (s_invv 3 0 pX3_takePoint 45) := snd_invv cI_3 oX3_takePoint (by decide) (by decide) g_438 g_435 g_437 g_6 g_73 ⟨by decide, by decide, by decide +kernel⟩ (by decide +kernel)
  have h45 : Snd 2 RX3 cX3_take 2 (some .boolean) (inM "take") 45 (s_zret) := snd_zret (by decide +kernel)
  have h46 : Snd 2 RX3 cX3_take 2 (some .boolean) (inM "take") 46 (s_ald 0 47) := snd_aload_n (j := 0) (by decide +kernel) rfl
  have h47 : Snd 2 RX3 cX3_take 2 (some .boolean) (inM "take") 47 (s_invv 3 0 pX3_takeComma 50) := snd_invv cI_3 oX3_takeComma (by decide) (by decide) g_442 g_439 g_441 g_7 g_73 ⟨by decide, by decide, by decide +kernel⟩ (by decide +kernel)
  have h50 : Snd 2 RX3 cX3_take 2 (some .boolean) (inM "take") 50 (s_zret) := snd_zret (by decide +kernel)
  have h51 : Snd 2 RX3 cX3_take 2 (some .boolean) (inM "take") 51 (s_ald 0 52) := snd_aload_n (j := 0) (by decide +kernel) rfl
  have h52 : Snd 2 RX3 cX3_take 2 (some .boolean) (inM "take") 52 (s_ild 1 53) := snd_iload_n (j := 1) (by decide +kernel) rfl
  have h53 : Snd 2 RX3 cX3_take 2 (some .boolean) (inM "take") 53 (s_push (.int 48) 55) := snd_bipush (n := 48) (by decide +kernel) (by decide)
  have h55 : Snd 2 RX3 cX3_take 2 (some .boolean) (inM "take") 55 (s_isub 56) := snd_isub (by decide +kernel)
  have h56 : Snd 2 RX3 cX3_take 2 (some .boolean) (inM "take") 56 (s_invv 3 1 pX3_takeFigure 59) := snd_invv cI_3 oX3_takeFigure (by decide) (by decide) g_446 g_443 g_445 g_8 g_73 ⟨by decide, by decide, by decide +kernel⟩ (by decide +kernel)
  have h59 : Snd 2 RX3 cX3_take 2 (some .boolean) (inM "take") 59 (s_zret) := snd_zret (by decide +kernel)
  exact fun pc => snd_ite (snd_ite (snd_ite (snd_ite (snd_leaf (k := 0) h0) (snd_leaf (k := 1) h1)) (snd_ite (snd_leaf (k := 36) h36) (snd_leaf (k := 37) h37))) (snd_ite (snd_ite (snd_leaf (k := 40) h40) (snd_leaf (k := 41) h41)) (snd_ite (snd_leaf (k := 42) h42) (snd_leaf (k := 45) h45)))) (snd_ite (snd_ite (snd_ite (snd_leaf (k := 46) h46) (snd_leaf (k := 47) h47)) (snd_ite (snd_leaf (k := 50) h50) (snd_leaf (k := 51) h51))) (snd_ite (snd_ite (snd_leaf (k := 52) h52) (snd_leaf (k := 53) h53)) (snd_ite (snd_leaf (k := 55) h55) (snd_ite (snd_leaf (k := 56) h56) (snd_leaf (k := 59) h59)))))
def pX3_take : Spc := inl kX3_take 2 22
theorem oX3_take : Ok 2 yX3_take cX3_take 2 (some .boolean) pX3_take := ok_inl (by decide) rfl sX3_take

def kX11_mayEnd : Nat → Stq := fun pc => if pc < 22 then (if pc < 11 then (if pc < 4 then (if pc < 1 then (if pc = 0 then s_ald 0 1 else s_bad) else (if pc = 1 then s_invv 10 0 pX11_isWhole 4 else s_bad)) else (if pc < 7 then (if pc = 4 then s_ifne 39 7 else s_bad) else (if pc < 8 then (if pc = 7 then s_ald 0 8 else s_bad) else (if pc = 8 then s_getf 10 9 11 else s_bad)))) else (if pc < 15 then (if pc < 14 then (if pc = 11 then s_ifne 43 14 else s_bad) else (if pc = 14 then s_ald 0 15 else s_bad)) else (if pc < 18 then (if pc = 15 then s_getf 10 10 18 else s_bad) else (if pc < 21 then (if pc = 18 then s_ifne 43 21 else s_bad) else (if pc = 21 then s_ald 0 22 else s_bad))))) else (if pc < 33 then (if pc < 28 then (if pc < 25 then (if pc = 22 then s_getf 10 6 25 else s_bad) else (if pc = 25 then s_ifle 43 28 else s_bad)) else (if pc < 29 then (if pc = 28 then s_ald 0 29 else s_bad) else (if pc < 32 then (if pc = 29 then s_getf 10 6 32 else s_bad) else (if pc = 32 then s_ald 0 33 else s_bad)))) else (if pc < 40 then (if pc < 36 then (if pc = 33 then s_getf 10 7 36 else s_bad) else (if pc < 39 then (if pc = 36 then s_iceq 43 39 else s_bad) else (if pc = 39 then s_push (.int 1) 40 else s_bad))) else (if pc < 43 then (if pc = 40 then s_goto 44 else s_bad) else (if pc < 44 then (if pc = 43 then s_push (.int 0) 44 else s_bad) else (if pc = 44 then s_zret else s_bad)))))
set_option maxRecDepth 20000 in
theorem sX11_mayEnd : ∀ pc, Snd 2 RX11 cX11_mayEnd 1 (some .boolean) (inM "mayEnd") pc (kX11_mayEnd pc) := by
  have h0 : Snd 2 RX11 cX11_mayEnd 1 (some .boolean) (inM "mayEnd") 0 (s_ald 0 1) := snd_aload_n (j := 0) (by decide +kernel) rfl
  have h1 : Snd 2 RX11 cX11_mayEnd 1 (some .boolean) (inM "mayEnd") 1 (s_invv 10 0 pX11_isWhole 4) := snd_invv cI_10 oX11_isWhole (by decide) (by decide) g_888 g_885 g_887 g_29 g_81 ⟨by decide, by decide, by decide +kernel⟩ (by decide +kernel)
  have h4 : Snd 2 RX11 cX11_mayEnd 1 (some .boolean) (inM "mayEnd") 4 (s_ifne 39 7) := snd_ifne (off := 35) (by decide +kernel) (by decide)
  have h7 : Snd 2 RX11 cX11_mayEnd 1 (some .boolean) (inM "mayEnd") 7 (s_ald 0 8) := snd_aload_n (j := 0) (by decide +kernel) rfl
  have h8 : Snd 2 RX11 cX11_mayEnd 1 (some .boolean) (inM "mayEnd") 8 (s_getf 10 9 11) := snd_getf (T := TX11) (f := 9) cI_10 (by decide) g_778 (by decide +kernel)
  have h11 : Snd 2 RX11 cX11_mayEnd 1 (some .boolean) (inM "mayEnd") 11 (s_ifne 43 14) := snd_ifne (off := 32) (by decide +kernel) (by decide)
  have h14 : Snd 2 RX11 cX11_mayEnd 1 (some .boolean) (inM "mayEnd") 14 (s_ald 0 15) := snd_aload_n (j := 0) (by decide +kernel) rfl
  have h15 : Snd 2 RX11 cX11_mayEnd 1 (some .boolean) (inM "mayEnd") 15 (s_getf 10 10 18) := snd_getf (T := TX11) (f := 10) cI_10 (by decide) g_779 (by decide +kernel)
  have h18 : Snd 2 RX11 cX11_mayEnd 1 (some .boolean) (inM "mayEnd") 18 (s_ifne 43 21) := snd_ifne (off := 25) (by decide +kernel) (by decide)
  have h21 : Snd 2 RX11 cX11_mayEnd 1 (some .boolean) (inM "mayEnd") 21 (s_ald 0 22) := snd_aload_n (j := 0) (by decide +kernel) rfl
  have h22 : Snd 2 RX11 cX11_mayEnd 1 (some .boolean) (inM "mayEnd") 22 (s_getf 10 6 25) := snd_getf (T := TX11) (f := 6) cI_10 (by decide) g_775 (by decide +kernel)
  have h25 : Snd 2 RX11 cX11_mayEnd 1 (some .boolean) (inM "mayEnd") 25 (s_ifle 43 28) := snd_ifle (off := 18) (by decide +kernel) (by decide)
  have h28 : Snd 2 RX11 cX11_mayEnd 1 (some .boolean) (inM "mayEnd") 28 (s_ald 0 29) := snd_aload_n (j := 0) (by decide +kernel) rfl
  have h29 : Snd 2 RX11 cX11_mayEnd 1 (some .boolean) (inM "mayEnd") 29 (s_getf 10 6 32) := snd_getf (T := TX11) (f := 6) cI_10 (by decide) g_775 (by decide +kernel)
  have h32 : Snd 2 RX11 cX11_mayEnd 1 (some .boolean) (inM "mayEnd") 32 (s_ald 0 33) := snd_aload_n (j := 0) (by decide +kernel) rfl
  have h33 : Snd 2 RX11 cX11_mayEnd 1 (some .boolean) (inM "mayEnd") 33 (s_getf 10 7 36) := snd_getf (T := TX11) (f := 7) cI_10 (by decide) g_776 (by decide +kernel)
  have h36 : Snd 2 RX11 cX11_mayEnd 1 (some .boolean) (inM "mayEnd") 36 (s_iceq 43 39) := snd_iceq (off := 7) (by decide +kernel) (by decide)
  have h39 : Snd 2 RX11 cX11_mayEnd 1 (some .boolean) (inM "mayEnd") 39 (s_push (.int 1) 40) := snd_iconst (n := 1) (by decide +kernel) (by decide)
  have h40 : Snd 2 RX11 cX11_mayEnd 1 (some .boolean) (inM "mayEnd") 40 (s_goto 44) := snd_goto (off := 4) (by decide +kernel) (by decide)
  have h43 : Snd 2 RX11 cX11_mayEnd 1 (some .boolean) (inM "mayEnd") 43 (s_push (.int 0) 44) := snd_iconst (n := 0) (by decide +kernel) (by decide)
  have h44 : Snd 2 RX11 cX11_mayEnd 1 (some .boolean) (inM "mayEnd") 44 (s_zret) := snd_zret (by decide +kernel)
  exact fun pc => snd_ite (snd_ite (snd_ite (snd_ite (snd_leaf (k := 0) h0) (snd_leaf (k := 1) h1)) (snd_ite (snd_leaf (k := 4) h4) (snd_ite (snd_leaf (k := 7) h7) (snd_leaf (k := 8) h8)))) (snd_ite (snd_ite (snd_leaf (k := 11) h11) (snd_leaf (k := 14) h14)) (snd_ite (snd_leaf (k := 15) h15) (snd_ite (snd_leaf (k := 18) h18) (snd_leaf (k := 21) h21))))) (snd_ite (snd_ite (snd_ite (snd_leaf (k := 22) h22) (snd_leaf (k := 25) h25)) (snd_ite (snd_leaf (k := 28) h28) (snd_ite (snd_leaf (k := 29) h29) (snd_leaf (k := 32) h32)))) (snd_ite (snd_ite (snd_leaf (k := 33) h33) (snd_ite (snd_leaf (k := 36) h36) (snd_leaf (k := 39) h39))) (snd_ite (snd_leaf (k := 40) h40) (snd_ite (snd_leaf (k := 43) h43) (snd_leaf (k := 44) h44)))))
def pX11_mayEnd : Spc := inl kX11_mayEnd 1 26
theorem oX11_mayEnd : Ok 2 yX11_mayEnd cX11_mayEnd 1 (some .boolean) pX11_mayEnd := ok_inl (by decide) rfl sX11_mayEnd

def kX11_readCross : Nat → Stq := fun pc => if pc < 24 then (if pc < 10 then (if pc < 5 then (if pc < 1 then (if pc = 0 then s_ald 0 1 else s_bad) else (if pc < 4 then (if pc = 1 then s_invv 10 0 pX11_many 4 else s_bad) else (if pc = 4 then s_push (.int 2) 5 else s_bad))) else (if pc < 6 then (if pc = 5 then s_irem 6 else s_bad) else (if pc < 7 then (if pc = 6 then s_push (.int 1) 7 else s_bad) else (if pc = 7 then s_iceq 31 10 else s_bad)))) else (if pc < 17 then (if pc < 11 then (if pc = 10 then s_ald 0 11 else s_bad) else (if pc < 14 then (if pc = 11 then s_getf 10 10 14 else s_bad) else (if pc = 14 then s_ifne 31 17 else s_bad))) else (if pc < 18 then (if pc = 17 then s_ald 0 18 else s_bad) else (if pc < 21 then (if pc = 18 then s_getf 10 9 21 else s_bad) else (if pc = 21 then s_ifeq 33 24 else s_bad))))) else (if pc < 34 then (if pc < 31 then (if pc < 25 then (if pc = 24 then s_ald 0 25 else s_bad) else (if pc < 28 then (if pc = 25 then s_invv 10 0 pX11_isWhole 28 else s_bad) else (if pc = 28 then s_ifne 33 31 else s_bad))) else (if pc < 32 then (if pc = 31 then s_push (.int 0) 32 else s_bad) else (if pc < 33 then (if pc = 32 then s_zret else s_bad) else (if pc = 33 then s_ald 0 34 else s_bad)))) else (if pc < 39 then (if pc < 37 then (if pc = 34 then s_invv 10 0 pX11_close 37 else s_bad) else (if pc < 38 then (if pc = 37 then s_ald 0 38 else s_bad) else (if pc = 38 then s_push (.int 0) 39 else s_bad))) else (if pc < 42 then (if pc = 39 then s_invv 10 1 pX11_addChange 42 else s_bad) else (if pc < 43 then (if pc = 42 then s_push (.int 1) 43 else s_bad) else (if pc = 43 then s_zret else s_bad)))))
set_option maxRecDepth 20000 in
theorem sX11_readCross : ∀ pc, Snd 2 RX11 cX11_readCross 1 (some .boolean) (inM "readCross") pc (kX11_readCross pc) := by
  have h0 : Snd 2 RX11 cX11_readCross 1 (some .boolean) (inM "readCross") 0 (s_ald 0 1) := snd_aload_n (j := 0) (by decide +kernel) rfl
  have h1 : Snd 2 RX11 cX11_readCross 1 (some .boolean) (inM "readCross") 1 (s_invv 10 0 pX11_many 4) := snd_invv cI_10 oX11_many (by decide) (by decide) g_856 g_853 g_855 g_24 g_81 ⟨by decide, by decide, by decide +kernel⟩ (by decide +kernel)
  have h4 : Snd 2 RX11 cX11_readCross 1 (some .boolean) (inM "readCross") 4 (s_push (.int 2) 5) := snd_iconst (n := 2) (by decide +kernel) (by decide)
  have h5 : Snd 2 RX11 cX11_readCross 1 (some .boolean) (inM "readCross") 5 (s_irem 6) := snd_irem (by decide +kernel)
  have h6 : Snd 2 RX11 cX11_readCross 1 (some .boolean) (inM "readCross") 6 (s_push (.int 1) 7) := snd_iconst (n := 1) (by decide +kernel) (by decide)
  have h7 : Snd 2 RX11 cX11_readCross 1 (some .boolean) (inM "readCross") 7 (s_iceq 31 10) := snd_iceq (off := 24) (by decide +kernel) (by decide)
  have h10 : Snd 2 RX11 cX11_readCross 1 (some .boolean) (inM "readCross") 10 (s_ald 0 11) := snd_aload_n (j := 0) (by decide +kernel) rfl
  have h11 : Snd 2 RX11 cX11_readCross 1 (some .boolean) (inM "readCross") 11 (s_getf 10 10 14) := snd_getf (T := TX11) (f := 10) cI_10 (by decide) g_779 (by decide +kernel)
  have h14 : Snd 2 RX11 cX11_readCross 1 (some .boolean) (inM "readCross") 14 (s_ifne 31 17) := snd_ifne (off := 17) (by decide +kernel) (by decide)
  have h17 : Snd 2 RX11 cX11_readCross 1 (some .boolean) (inM "readCross") 17 (s_ald 0 18) := snd_aload_n (j := 0) (by decide +kernel) rfl
  have h18 : Snd 2 RX11 cX11_readCross 1 (some .boolean) (inM "readCross") 18 (s_getf 10 9 21) := snd_getf (T := TX11) (f := 9) cI_10 (by decide) g_778 (by decide +kernel)
  have h21 : Snd 2 RX11 cX11_readCross 1 (some .boolean) (inM "readCross") 21 (s_ifeq 33 24) := snd_ifeq (off := 12) (by decide +kernel) (by decide)
  have h24 : Snd 2 RX11 cX11_readCross 1 (some .boolean) (inM "readCross") 24 (s_ald 0 25) := snd_aload_n (j := 0) (by decide +kernel) rfl
  have h25 : Snd 2 RX11 cX11_readCross 1 (some .boolean) (inM "readCross") 25 (s_invv 10 0 pX11_isWhole 28) := snd_invv cI_10 oX11_isWhole (by decide) (by decide) g_888 g_885 g_887 g_29 g_81 ⟨by decide, by decide, by decide +kernel⟩ (by decide +kernel)
  have h28 : Snd 2 RX11 cX11_readCross 1 (some .boolean) (inM "readCross") 28 (s_ifne 33 31) := snd_ifne (off := 5) (by decide +kernel) (by decide)
  have h31 : Snd 2 RX11 cX11_readCross 1 (some .boolean) (inM "readCross") 31 (s_push (.int 0) 32) := snd_iconst (n := 0) (by decide +kernel) (by decide)
  have h32 : Snd 2 RX11 cX11_readCross 1 (some .boolean) (inM "readCross") 32 (s_zret) := snd_zret (by decide +kernel)
  have h33 : Snd 2 RX11 cX11_readCross 1 (some .boolean) (inM "readCross") 33 (s_ald 0 34) := snd_aload_n (j := 0) (by decide +kernel) rfl
  have h34 : Snd 2 RX11 cX11_readCross 1 (some .boolean) (inM "readCross") 34 (s_invv 10 0 pX11_close 37) := snd_invv cI_10 oX11_close (by decide) (by decide) g_892 g_889 g_891 g_30 g_81 ⟨by decide, by decide, by decide +kernel⟩ (by decide +kernel)
  have h37 : Snd 2 RX11 cX11_readCross 1 (some .boolean) (inM "readCross") 37 (s_ald 0 38) := snd_aload_n (j := 0) (by decide +kernel) rfl
  have h38 : Snd 2 RX11 cX11_readCross 1 (some .boolean) (inM "readCross") 38 (s_push (.int 0) 39) := snd_iconst (n := 0) (by decide +kernel) (by decide)
  have h39 : Snd 2 RX11 cX11_readCross 1 (some .boolean) (inM "readCross") 39 (s_invv 10 1 pX11_addChange 42) := snd_invv cI_10 oX11_addChange (by decide) (by decide) g_896 g_893 g_895 g_31 g_81 ⟨by decide, by decide, by decide +kernel⟩ (by decide +kernel)
  have h42 : Snd 2 RX11 cX11_readCross 1 (some .boolean) (inM "readCross") 42 (s_push (.int 1) 43) := snd_iconst (n := 1) (by decide +kernel) (by decide)
  have h43 : Snd 2 RX11 cX11_readCross 1 (some .boolean) (inM "readCross") 43 (s_zret) := snd_zret (by decide +kernel)
  exact fun pc => snd_ite (snd_ite (snd_ite (snd_ite (snd_leaf (k := 0) h0) (snd_ite (snd_leaf (k := 1) h1) (snd_leaf (k := 4) h4))) (snd_ite (snd_leaf (k := 5) h5) (snd_ite (snd_leaf (k := 6) h6) (snd_leaf (k := 7) h7)))) (snd_ite (snd_ite (snd_leaf (k := 10) h10) (snd_ite (snd_leaf (k := 11) h11) (snd_leaf (k := 14) h14))) (snd_ite (snd_leaf (k := 17) h17) (snd_ite (snd_leaf (k := 18) h18) (snd_leaf (k := 21) h21))))) (snd_ite (snd_ite (snd_ite (snd_leaf (k := 24) h24) (snd_ite (snd_leaf (k := 25) h25) (snd_leaf (k := 28) h28))) (snd_ite (snd_leaf (k := 31) h31) (snd_ite (snd_leaf (k := 32) h32) (snd_leaf (k := 33) h33)))) (snd_ite (snd_ite (snd_leaf (k := 34) h34) (snd_ite (snd_leaf (k := 37) h37) (snd_leaf (k := 38) h38))) (snd_ite (snd_leaf (k := 39) h39) (snd_ite (snd_leaf (k := 42) h42) (snd_leaf (k := 43) h43)))))
def pX11_readCross : Spc := inl kX11_readCross 1 29
theorem oX11_readCross : Ok 2 yX11_readCross cX11_readCross 1 (some .boolean) pX11_readCross := ok_inl (by decide) rfl sX11_readCross

def kX11_readFigure : Nat → Stq := fun pc => if pc < 33 then (if pc < 17 then (if pc < 8 then (if pc < 2 then (if pc < 1 then (if pc = 0 then s_ald 0 1 else s_bad) else (if pc = 1 then s_ild 1 2 else s_bad)) else (if pc < 5 then (if pc = 2 then s_invv 10 1 pX11_canStay 5 else s_bad) else (if pc = 5 then s_ifne 10 8 else s_bad))) else (if pc < 10 then (if pc < 9 then (if pc = 8 then s_push (.int 0) 9 else s_bad) else (if pc = 9 then s_zret else s_bad)) else (if pc < 11 then (if pc = 10 then s_ald 0 11 else s_bad) else (if pc < 14 then (if pc = 11 then s_getf 10 9 14 else s_bad) else (if pc = 14 then s_ifne 22 17 else s_bad))))) else (if pc < 24 then (if pc < 19 then (if pc < 18 then (if pc = 17 then s_ald 0 18 else s_bad) else (if pc = 18 then s_push (.int 0) 19 else s_bad)) else (if pc < 22 then (if pc = 19 then s_invv 10 1 pX11_addChange 22 else s_bad) else (if pc < 23 then (if pc = 22 then s_ald 0 23 else s_bad) else (if pc = 23 then s_push (.int 1) 24 else s_bad)))) else (if pc < 28 then (if pc < 27 then (if pc = 24 then s_putz 10 9 27 else s_bad) else (if pc = 27 then s_ald 0 28 else s_bad)) else (if pc < 29 then (if pc = 28 then s_push (.int 0) 29 else s_bad) else (if pc < 32 then (if pc = 29 then s_putz 10 10 32 else s_bad) else (if pc = 32 then s_ald 0 33 else s_bad)))))) else (if pc < 50 then (if pc < 41 then (if pc < 36 then (if pc < 34 then (if pc = 33 then s_ild 1 34 else s_bad) else (if pc = 34 then s_push (.int 48) 36 else s_bad)) else (if pc < 37 then (if pc = 36 then s_isub 37 else s_bad) else (if pc < 40 then (if pc = 37 then s_puti 10 8 40 else s_bad) else (if pc = 40 then s_ald 0 41 else s_bad)))) else (if pc < 45 then (if pc < 44 then (if pc = 41 then s_getf 10 5 44 else s_bad) else (if pc = 44 then s_ald 0 45 else s_bad)) else (if pc < 48 then (if pc = 45 then s_getf 10 6 48 else s_bad) else (if pc < 49 then (if pc = 48 then s_push (.int 1) 49 else s_bad) else (if pc = 49 then s_isub 50 else s_bad))))) else (if pc < 57 then (if pc < 52 then (if pc < 51 then (if pc = 50 then s_dup2 51 else s_bad) else (if pc = 51 then s_iald 52 else s_bad)) else (if pc < 53 then (if pc = 52 then s_push (.int 1) 53 else s_bad) else (if pc < 54 then (if pc = 53 then s_ald 0 54 else s_bad) else (if pc = 54 then s_getf 10 8 57 else s_bad)))) else (if pc < 59 then (if pc < 58 then (if pc = 57 then s_ishl 58 else s_bad) else (if pc = 58 then s_ior 59 else s_bad)) else (if pc < 60 then (if pc = 59 then s_iast 60 else s_bad) else (if pc < 61 then (if pc = 60 then s_push (.int 1) 61 else s_bad) else (if pc = 61 then s_zret else s_bad))))))
set_option maxRecDepth 20000 in
theorem sX11_readFigure : ∀ pc, Snd 2 RX11 cX11_readFigure 2 (some .boolean) (inM "readFigure") pc (kX11_readFigure pc) := by
  have h0 : Snd 2 RX11 cX11_readFigure 2 (some .boolean) (inM "readFigure") 0 (s_ald 0 1) := snd_aload_n (j := 0) (by decide +kernel) rfl
  have h1 : Snd 2 RX11 cX11_readFigure 2 (some .boolean) (inM "readFigure") 1 (s_ild 1 2) := snd_iload_n (j := 1) (by decide +kernel) rfl
  have h2 : Snd 2 RX11 cX11_readFigure 2 (some .boolean) (inM "readFigure") 2 (s_invv 10 1 pX11_canStay 5) := snd_invv cI_10 oX11_canStay (by decide) (by decide) g_916 g_913 g_915 g_36 g_81 ⟨by decide, by decide, by decide +kernel⟩ (by decide +kernel)
  have h5 : Snd 2 RX11 cX11_readFigure 2 (some .boolean) (inM "readFigure") 5 (s_ifne 10 8) := snd_ifne (off := 5) (by decide +kernel) (by decide)
  have h8 : Snd 2 RX11 cX11_readFigure 2 (some .boolean) (inM "readFigure") 8 (s_push (.int 0) 9) := snd_iconst (n := 0) (by decide +kernel) (by decide)
  have h9 : Snd 2 RX11 cX11_readFigure 2 (some .boolean) (inM "readFigure") 9 (s_zret) := snd_zret (by decide +kernel)
  have h10 : Snd 2 RX11 cX11_readFigure 2 (some .boolean) (inM "readFigure") 10 (s_ald 0 11) := snd_aload_n (j := 0) (by decide +kernel) rfl
  have h11 : Snd 2 RX11 cX11_readFigure 2 (some .boolean) (inM "readFigure") 11 (s_getf 10 9 14) := snd_getf (T := TX11) (f := 9) cI_10 (by decide) g_778 (by decide +kernel)
  have h14 : Snd 2 RX11 cX11_readFigure 2 (some .boolean) (inM "readFigure") 14 (s_ifne 22 17) := snd_ifne (off := 8) (by decide +kernel) (by decide)
  have h17 : Snd 2 RX11 cX11_readFigure 2 (some .boolean) (inM "readFigure") 17 (s_ald 0 18) := snd_aload_n (j := 0) (by decide +kernel) rfl
  have h18 : Snd 2 RX11 cX11_readFigure 2 (some .boolean) (inM "readFigure") 18 (s_push (.int 0) 19) := snd_iconst (n := 0) (by decide +kernel) (by decide)
  have h19 : Snd 2 RX11 cX11_readFigure 2 (some .boolean) (inM "readFigure") 19 (s_invv 10 1 pX11_addChange 22) := snd_invv cI_10 oX11_addChange (by decide) (by decide) g_896 g_893 g_895 g_31 g_81 ⟨by decide, by decide, by decide +kernel⟩ (by decide +kernel)
  have h22 : Snd 2 RX11 cX11_readFigure 2 (some .boolean) (inM "readFigure") 22 (s_ald 0 23) := snd_aload_n (j := 0) (by decide +kernel) rfl
  have h23 : Snd 2 RX11 cX11_readFigure 2 (some .boolean) (inM "readFigure") 23 (s_push (.int 1) 24) := snd_iconst (n := 1) (by decide +kernel) (by decide)
  have h24 : Snd 2 RX11 cX11_readFigure 2 (some .boolean) (inM "readFigure") 24 (s_putz 10 9 27) := snd_putz (T := TX11) (f := 9) cI_10 (by decide) g_778 (by decide) (by decide +kernel) (by decide +kernel)
  have h27 : Snd 2 RX11 cX11_readFigure 2 (some .boolean) (inM "readFigure") 27 (s_ald 0 28) := snd_aload_n (j := 0) (by decide +kernel) rfl
  have h28 : Snd 2 RX11 cX11_readFigure 2 (some .boolean) (inM "readFigure") 28 (s_push (.int 0) 29) := snd_iconst (n := 0) (by decide +kernel) (by decide)
  have h29 : Snd 2 RX11 cX11_readFigure 2 (some .boolean) (inM "readFigure") 29 (s_putz 10 10 32) := snd_putz (T := TX11) (f := 10) cI_10 (by decide) g_779 (by decide) (by decide +kernel) (by decide +kernel)
  have h32 : Snd 2 RX11 cX11_readFigure 2 (some .boolean) (inM "readFigure") 32 (s_ald 0 33) := snd_aload_n (j := 0) (by decide +kernel) rfl
  have h33 : Snd 2 RX11 cX11_readFigure 2 (some .boolean) (inM "readFigure") 33 (s_ild 1 34) := snd_iload_n (j := 1) (by decide +kernel) rfl
  have h34 : Snd 2 RX11 cX11_readFigure 2 (some .boolean) (inM "readFigure") 34 (s_push (.int 48) 36) := snd_bipush (n := 48) (by decide +kernel) (by decide)
  have h36 : Snd 2 RX11 cX11_readFigure 2 (some .boolean) (inM "readFigure") 36 (s_isub 37) := snd_isub (by decide +kernel)
  have h37 : Snd 2 RX11 cX11_readFigure 2 (some .boolean) (inM "readFigure") 37 (s_puti 10 8 40) := snd_puti (T := TX11) (f := 8) cI_10 (by decide) g_777 (by decide) (by decide +kernel) (by decide +kernel)
  have h40 : Snd 2 RX11 cX11_readFigure 2 (some .boolean) (inM "readFigure") 40 (s_ald 0 41) := snd_aload_n (j := 0) (by decide +kernel) rfl
  have h41 : Snd 2 RX11 cX11_readFigure 2 (some .boolean) (inM "readFigure") 41 (s_getf 10 5 44) := snd_getf (T := TX11) (f := 5) cI_10 (by decide) g_774 (by decide +kernel)
  have h44 : Snd 2 RX11 cX11_readFigure 2 (some .boolean) (inM "readFigure") 44 (s_ald 0 45) := snd_aload_n (j := 0) (by decide +kernel) rfl
  have h45 : Snd 2 RX11 cX11_readFigure 2 (some .boolean) (inM "readFigure") 45 (s_getf 10 6 48) := snd_getf (T := TX11) (f := 6) cI_10 (by decide) g_775 (by decide +kernel)
  have h48 : Snd 2 RX11 cX11_readFigure 2 (some .boolean) (inM "readFigure") 48 (s_push (.int 1) 49) := snd_iconst (n := 1) (by decide +kernel) (by decide)
  have h49 : Snd 2 RX11 cX11_readFigure 2 (some .boolean) (inM "readFigure") 49 (s_isub 50) := snd_isub (by decide +kernel)
  have h50 : Snd 2 RX11 cX11_readFigure 2 (some .boolean) (inM "readFigure") 50 (s_dup2 51) := snd_dup2 (by decide +kernel)
  have h51 : Snd 2 RX11 cX11_readFigure 2 (some .boolean) (inM "readFigure") 51 (s_iald 52) := snd_iald (by decide +kernel)
  have h52 : Snd 2 RX11 cX11_readFigure 2 (some .boolean) (inM "readFigure") 52 (s_push (.int 1) 53) := snd_iconst (n := 1) (by decide +kernel) (by decide)
  have h53 : Snd 2 RX11 cX11_readFigure 2 (some .boolean) (inM "readFigure") 53 (s_ald 0 54) := snd_aload_n (j := 0) (by decide +kernel) rfl
  have h54 : Snd 2 RX11 cX11_readFigure 2 (some .boolean) (inM "readFigure") 54 (s_getf 10 8 57) := snd_getf (T := TX11) (f := 8) cI_10 (by decide) g_777 (by decide +kernel)
  have h57 : Snd 2 RX11 cX11_readFigure 2 (some .boolean) (inM "readFigure") 57 (s_ishl 58) := snd_ishl (by decide +kernel)
  have h58 : Snd 2 RX11 cX11_readFigure 2 (some .boolean) (inM "readFigure") 58 (s_ior 59) := snd_ior (by decide +kernel)
  have h59 : Snd 2 RX11 cX11_readFigure 2 (some .boolean) (inM "readFigure") 59 (s_iast 60) := snd_iast (by decide +kernel)
  have h60 : Snd 2 RX11 cX11_readFigure 2 (some .boolean) (inM "readFigure") 60 (s_push (.int 1) 61) := snd_iconst (n := 1) (by decide +kernel) (by decide)
  have h61 : Snd 2 RX11 cX11_readFigure 2 (some .boolean) (inM "readFigure") 61 (s_zret) := snd_zret (by decide +kernel)
  exact fun pc => snd_ite (snd_ite (snd_ite (snd_ite (snd_ite (snd_leaf (k := 0) h0) (snd_leaf (k := 1) h1)) (snd_ite (snd_leaf (k := 2) h2) (snd_leaf (k := 5) h5))) (snd_ite (snd_ite (snd_leaf (k := 8) h8) (snd_leaf (k := 9) h9)) (snd_ite (snd_leaf (k := 10) h10) (snd_ite (snd_leaf (k := 11) h11) (snd_leaf (k := 14) h14))))) (snd_ite (snd_ite (snd_ite (snd_leaf (k := 17) h17) (snd_leaf (k := 18) h18)) (snd_ite (snd_leaf (k := 19) h19) (snd_ite (snd_leaf (k := 22) h22) (snd_leaf (k := 23) h23)))) (snd_ite (snd_ite (snd_leaf (k := 24) h24) (snd_leaf (k := 27) h27)) (snd_ite (snd_leaf (k := 28) h28) (snd_ite (snd_leaf (k := 29) h29) (snd_leaf (k := 32) h32)))))) (snd_ite (snd_ite (snd_ite (snd_ite (snd_leaf (k := 33) h33) (snd_leaf (k := 34) h34)) (snd_ite (snd_leaf (k := 36) h36) (snd_ite (snd_leaf (k := 37) h37) (snd_leaf (k := 40) h40)))) (snd_ite (snd_ite (snd_leaf (k := 41) h41) (snd_leaf (k := 44) h44)) (snd_ite (snd_leaf (k := 45) h45) (snd_ite (snd_leaf (k := 48) h48) (snd_leaf (k := 49) h49))))) (snd_ite (snd_ite (snd_ite (snd_leaf (k := 50) h50) (snd_leaf (k := 51) h51)) (snd_ite (snd_leaf (k := 52) h52) (snd_ite (snd_leaf (k := 53) h53) (snd_leaf (k := 54) h54)))) (snd_ite (snd_ite (snd_leaf (k := 57) h57) (snd_leaf (k := 58) h58)) (snd_ite (snd_leaf (k := 59) h59) (snd_ite (snd_leaf (k := 60) h60) (snd_leaf (k := 61) h61))))))
def pX11_readFigure : Spc := inl kX11_readFigure 2 44
theorem oX11_readFigure : Ok 2 yX11_readFigure cX11_readFigure 2 (some .boolean) pX11_readFigure := ok_inl (by decide) rfl sX11_readFigure

def kX11_readPoint : Nat → Stq := fun pc => if pc < 10 then (if pc < 7 then (if pc < 1 then (if pc = 0 then s_ald 0 1 else s_bad) else (if pc < 4 then (if pc = 1 then s_invv 10 0 pX11_isWhole 4 else s_bad) else (if pc = 4 then s_ifne 9 7 else s_bad))) else (if pc < 8 then (if pc = 7 then s_push (.int 0) 8 else s_bad) else (if pc < 9 then (if pc = 8 then s_zret else s_bad) else (if pc = 9 then s_ald 0 10 else s_bad)))) else (if pc < 15 then (if pc < 13 then (if pc = 10 then s_invv 10 0 pX11_close 13 else s_bad) else (if pc < 14 then (if pc = 13 then s_ald 0 14 else s_bad) else (if pc = 14 then s_push (.int 1) 15 else s_bad))) else (if pc < 18 then (if pc = 15 then s_putz 10 10 18 else s_bad) else (if pc < 19 then (if pc = 18 then s_push (.int 1) 19 else s_bad) else (if pc = 19 then s_zret else s_bad))))
set_option maxRecDepth 20000 in
theorem sX11_readPoint : ∀ pc, Snd 2 RX11 cX11_readPoint 1 (some .boolean) (inM "readPoint") pc (kX11_readPoint pc) := by
  have h0 : Snd 2 RX11 cX11_readPoint 1 (some .boolean) (inM "readPoint") 0 (s_ald 0 1) := snd_aload_n (j := 0) (by decide +kernel) rfl
  have h1 : Snd 2 RX11 cX11_readPoint 1 (some .boolean) (inM "readPoint") 1 (s_invv 10 0 pX11_isWhole 4) := snd_invv cI_10 oX11_isWhole (by decide) (by decide) g_888 g_885 g_887 g_29 g_81 ⟨by decide, by decide, by decide +kernel⟩ (by decide +kernel)
  have h4 : Snd 2 RX11 cX11_readPoint 1 (some .boolean) (inM "readPoint") 4 (s_ifne 9 7) := snd_ifne (off := 5) (by decide +kernel) (by decide)
  have h7 : Snd 2 RX11 cX11_readPoint 1 (some .boolean) (inM "readPoint") 7 (s_push (.int 0) 8) := snd_iconst (n := 0) (by decide +kernel) (by decide)
  have h8 : Snd 2 RX11 cX11_readPoint 1 (some .boolean) (inM "readPoint") 8 (s_zret) := snd_zret (by decide +kernel)
  have h9 : Snd 2 RX11 cX11_readPoint 1 (some .boolean) (inM "readPoint") 9 (s_ald 0 10) := snd_aload_n (j := 0) (by decide +kernel) rfl
  have h10 : Snd 2 RX11 cX11_readPoint 1 (some .boolean) (inM "readPoint") 10 (s_invv 10 0 pX11_close 13) := snd_invv cI_10 oX11_close (by decide) (by decide) g_892 g_889 g_891 g_30 g_81 ⟨by decide, by decide, by decide +kernel⟩ (by decide +kernel)
  have h13 : Snd 2 RX11 cX11_readPoint 1 (some .boolean) (inM "readPoint") 13 (s_ald 0 14) := snd_aload_n (j := 0) (by decide +kernel) rfl
  have h14 : Snd 2 RX11 cX11_readPoint 1 (some .boolean) (inM "readPoint") 14 (s_push (.int 1) 15) := snd_iconst (n := 1) (by decide +kernel) (by decide)
  have h15 : Snd 2 RX11 cX11_readPoint 1 (some .boolean) (inM "readPoint") 15 (s_putz 10 10 18) := snd_putz (T := TX11) (f := 10) cI_10 (by decide) g_779 (by decide) (by decide +kernel) (by decide +kernel)
  have h18 : Snd 2 RX11 cX11_readPoint 1 (some .boolean) (inM "readPoint") 18 (s_push (.int 1) 19) := snd_iconst (n := 1) (by decide +kernel) (by decide)
  have h19 : Snd 2 RX11 cX11_readPoint 1 (some .boolean) (inM "readPoint") 19 (s_zret) := snd_zret (by decide +kernel)
  exact fun pc => snd_ite (snd_ite (snd_ite (snd_leaf (k := 0) h0) (snd_ite (snd_leaf (k := 1) h1) (snd_leaf (k := 4) h4))) (snd_ite (snd_leaf (k := 7) h7) (snd_ite (snd_leaf (k := 8) h8) (snd_leaf (k := 9) h9)))) (snd_ite (snd_ite (snd_leaf (k := 10) h10) (snd_ite (snd_leaf (k := 13) h13) (snd_leaf (k := 14) h14))) (snd_ite (snd_leaf (k := 15) h15) (snd_ite (snd_leaf (k := 18) h18) (snd_leaf (k := 19) h19))))
def pX11_readPoint : Spc := inl kX11_readPoint 1 17
theorem oX11_readPoint : Ok 2 yX11_readPoint cX11_readPoint 1 (some .boolean) pX11_readPoint := ok_inl (by decide) rfl sX11_readPoint

def kX11_readComma : Nat → Stq := fun pc => if pc < 16 then (if pc < 8 then (if pc < 4 then (if pc < 1 then (if pc = 0 then s_ald 0 1 else s_bad) else (if pc = 1 then s_getf 10 7 4 else s_bad)) else (if pc < 7 then (if pc = 4 then s_ifge 14 7 else s_bad) else (if pc = 7 then s_ald 0 8 else s_bad))) else (if pc < 14 then (if pc < 11 then (if pc = 8 then s_invv 10 0 pX11_mayEnd 11 else s_bad) else (if pc = 11 then s_ifne 16 14 else s_bad)) else (if pc < 15 then (if pc = 14 then s_push (.int 0) 15 else s_bad) else (if pc = 15 then s_zret else s_bad)))) else (if pc < 22 then (if pc < 20 then (if pc < 17 then (if pc = 16 then s_ald 0 17 else s_bad) else (if pc = 17 then s_invv 10 0 pX11_close 20 else s_bad)) else (if pc < 21 then (if pc = 20 then s_ald 0 21 else s_bad) else (if pc = 21 then s_ald 0 22 else s_bad))) else (if pc < 28 then (if pc < 25 then (if pc = 22 then s_getf 10 6 25 else s_bad) else (if pc = 25 then s_puti 10 7 28 else s_bad)) else (if pc < 29 then (if pc = 28 then s_push (.int 1) 29 else s_bad) else (if pc = 29 then s_zret else s_bad))))
set_option maxRecDepth 20000 in
theorem sX11_readComma : ∀ pc, Snd 3 RX11 cX11_readComma 1 (some .boolean) (inM "readComma") pc (kX11_readComma pc) := by
  have h0 : Snd 3 RX11 cX11_readComma 1 (some .boolean) (inM "readComma") 0 (s_ald 0 1) := snd_aload_n (j := 0) (by decide +kernel) rfl
  have h1 : Snd 3 RX11 cX11_readComma 1 (some .boolean) (inM "readComma") 1 (s_getf 10 7 4) := snd_getf (T := TX11) (f := 7) cI_10 (by decide) g_776 (by decide +kernel)
  have h4 : Snd 3 RX11 cX11_readComma 1 (some .boolean) (inM "readComma") 4 (s_ifge 14 7) := snd_ifge (off := 10) (by decide +kernel) (by decide)
  have h7 : Snd 3 RX11 cX11_readComma 1 (some .boolean) (inM "readComma") 7 (s_ald 0 8) := snd_aload_n (j := 0) (by decide +kernel) rfl
  have h8 : Snd 3 RX11 cX11_readComma 1 (some .boolean) (inM "readComma") 8 (s_invv 10 0 pX11_mayEnd 11) := snd_invv cI_10 oX11_mayEnd (by decide) (by decide) g_908 g_905 g_907 g_34 g_81 ⟨by decide, by decide, by decide +kernel⟩ (by decide +kernel)
  have h11 : Snd 3 RX11 cX11_readComma 1 (some .boolean) (inM "readComma") 11 (s_ifne 16 14) := snd_ifne (off := 5) (by decide +kernel) (by decide)
  have h14 : Snd 3 RX11 cX11_readComma 1 (some .boolean) (inM "readComma") 14 (s_push (.int 0) 15) := snd_iconst (n := 0) (by decide +kernel) (by decide)
  have h15 : Snd 3 RX11 cX11_readComma 1 (some .boolean) (inM "readComma") 15 (s_zret) := snd_zret (by decide +kernel)
  have h16 : Snd 3 RX11 cX11_readComma 1 (some .boolean) (inM "readComma") 16 (s_ald 0 17) := snd_aload_n (j := 0) (by decide +kernel) rfl
  have h17 : Snd 3 RX11 cX11_readComma 1 (some .boolean) (inM "readComma") 17 (s_invv 10 0 pX11_close 20) := snd_invv cI_10 oX11_close (by decide) (by decide) g_892 g_889 g_891 g_30 g_81 ⟨by decide, by decide, by decide +kernel⟩ (by decide +kernel)
  have h20 : Snd 3 RX11 cX11_readComma 1 (some .boolean) (inM "readComma") 20 (s_ald 0 21) := snd_aload_n (j := 0) (by decide +kernel) rfl
  have h21 : Snd 3 RX11 cX11_readComma 1 (some .boolean) (inM "readComma") 21 (s_ald 0 22) := snd_aload_n (j := 0) (by decide +kernel) rfl
  have h22 : Snd 3 RX11 cX11_readComma 1 (some .boolean) (inM "readComma") 22 (s_getf 10 6 25) := snd_getf (T := TX11) (f := 6) cI_10 (by decide) g_775 (by decide +kernel)
  have h25 : Snd 3 RX11 cX11_readComma 1 (some .boolean) (inM "readComma") 25 (s_puti 10 7 28) := snd_puti (T := TX11) (f := 7) cI_10 (by decide) g_776 (by decide) (by decide +kernel) (by decide +kernel)
  have h28 : Snd 3 RX11 cX11_readComma 1 (some .boolean) (inM "readComma") 28 (s_push (.int 1) 29) := snd_iconst (n := 1) (by decide +kernel) (by decide)
  have h29 : Snd 3 RX11 cX11_readComma 1 (some .boolean) (inM "readComma") 29 (s_zret) := snd_zret (by decide +kernel)
  exact fun pc => snd_ite (snd_ite (snd_ite (snd_ite (snd_leaf (k := 0) h0) (snd_leaf (k := 1) h1)) (snd_ite (snd_leaf (k := 4) h4) (snd_leaf (k := 7) h7))) (snd_ite (snd_ite (snd_leaf (k := 8) h8) (snd_leaf (k := 11) h11)) (snd_ite (snd_leaf (k := 14) h14) (snd_leaf (k := 15) h15)))) (snd_ite (snd_ite (snd_ite (snd_leaf (k := 16) h16) (snd_leaf (k := 17) h17)) (snd_ite (snd_leaf (k := 20) h20) (snd_leaf (k := 21) h21))) (snd_ite (snd_ite (snd_leaf (k := 22) h22) (snd_leaf (k := 25) h25)) (snd_ite (snd_leaf (k := 28) h28) (snd_leaf (k := 29) h29))))
def pX11_readComma : Spc := inl kX11_readComma 1 21
theorem oX11_readComma : Ok 3 yX11_readComma cX11_readComma 1 (some .boolean) pX11_readComma := ok_inl (by decide) rfl sX11_readComma

def kX11_readSign : Nat → Stq := fun pc => if pc < 45 then (if pc < 37 then (if pc < 1 then (if pc = 0 then s_ild 1 1 else s_bad) else (if pc < 36 then (if pc = 1 then s_sw [(44, 46), (46, 41), (120, 36)] 51 else s_bad) else (if pc = 36 then s_ald 0 37 else s_bad))) else (if pc < 41 then (if pc < 40 then (if pc = 37 then s_invv 10 0 pX11_readCross 40 else s_bad) else (if pc = 40 then s_zret else s_bad)) else (if pc < 42 then (if pc = 41 then s_ald 0 42 else s_bad) else (if pc = 42 then s_invv 10 0 pX11_readPoint 45 else s_bad)))) else (if pc < 51 then (if pc < 47 then (if pc < 46 then (if pc = 45 then s_zret else s_bad) else (if pc = 46 then s_ald 0 47 else s_bad)) else (if pc < 50 then (if pc = 47 then s_invv 10 0 pX11_readComma 50 else s_bad) else (if pc = 50 then s_zret else s_bad))) else (if pc < 53 then (if pc < 52 then (if pc = 51 then s_ald 0 52 else s_bad) else (if pc = 52 then s_ild 1 53 else s_bad)) else (if pc < 56 then (if pc = 53 then s_invv 10 1 pX11_readFigure 56 else s_bad) else (if pc = 56 then s_zret else s_bad))))
set_option maxRecDepth 20000 in
theorem sX11_readSign : ∀ pc, Snd 4 RX11 cX11_readSign 2 (some .boolean) (inM "readSign") pc (kX11_readSign pc) := by
  have h0 : Snd 4 RX11 cX11_readSign 2 (some .boolean) (inM "readSign") 0 (s_ild 1 1) := snd_iload_n (j := 1) (by decide +kernel) rfl
  have h1 : Snd 4 RX11 cX11_readSign 2 (some .boolean) (inM "readSign") 1 (s_sw [(44, 46), (46, 41), (120, 36)] 51) := snd_lsw (dflt := 50) (ps := #[(44, 45), (46, 40), (120, 35)]) (len := 35) [(44, 46), (46, 41), (120, 36)] (by decide +kernel) (by decide) (by decide +kernel) (by decide +kernel)
  have h36 : Snd 4 RX11 cX11_readSign 2 (some .boolean) (inM "readSign") 36 (s_ald 0 37) := snd_aload_n (j := 0) (by decide +kernel) rfl
  have h37 : Snd 4 RX11 cX11_readSign 2 (some .boolean) (inM "readSign") 37 (s_invv 10 0 pX11_readCross 40) := snd_invv cI_10 oX11_readCross (by decide) (by decide) g_884 g_881 g_883 g_28 g_81 ⟨by decide, by decide, by decide +kernel⟩ (by decide +kernel)
  have h40 : Snd 4 RX11 cX11_readSign 2 (some .boolean) (inM "readSign") 40 (s_zret) := snd_zret (by decide +kernel)
  have h41 : Snd 4 RX11 cX11_readSign 2 (some .boolean) (inM "readSign") 41 (s_ald 0 42) := snd_aload_n (j := 0) (by decide +kernel) rfl
  have h42 : Snd 4 RX11 cX11_readSign 2 (some .boolean) (inM "readSign") 42 (s_invv 10 0 pX11_readPoint 45) := snd_invv cI_10 oX11_readPoint (by decide) (by decide) g_900 g_897 g_899 g_32 g_81 ⟨by decide, by decide, by decide +kernel⟩ (by decide +kernel)
  have h45 : Snd 4 RX11 cX11_readSign 2 (some .boolean) (inM "readSign") 45 (s_zret) := snd_zret (by decide +kernel)
  have h46 : Snd 4 RX11 cX11_readSign 2 (some .boolean) (inM "readSign") 46 (s_ald 0 47) := snd_aload_n (j := 0) (by decide +kernel) rfl
  have h47 : Snd 4 RX11 cX11_readSign 2 (some .boolean) (inM "readSign") 47 (s_invv 10 0 pX11_readComma 50) := snd_invv cI_10 oX11_readComma (by decide) (by decide) g_904 g_901 g_903 g_33 g_81 ⟨by decide, by decide, by decide +kernel⟩ (by decide +kernel)
  have h50 : Snd 4 RX11 cX11_readSign 2 (some .boolean) (inM "readSign") 50 (s_zret) := snd_zret (by decide +kernel)
  have h51 : Snd 4 RX11 cX11_readSign 2 (some .boolean) (inM "readSign") 51 (s_ald 0 52) := snd_aload_n (j := 0) (by decide +kernel) rfl
  have h52 : Snd 4 RX11 cX11_readSign 2 (some .boolean) (inM "readSign") 52 (s_ild 1 53) := snd_iload_n (j := 1) (by decide +kernel) rfl
  have h53 : Snd 4 RX11 cX11_readSign 2 (some .boolean) (inM "readSign") 53 (s_invv 10 1 pX11_readFigure 56) := snd_invv cI_10 oX11_readFigure (by decide) (by decide) g_912 g_909 g_911 g_35 g_81 ⟨by decide, by decide, by decide +kernel⟩ (by decide +kernel)
  have h56 : Snd 4 RX11 cX11_readSign 2 (some .boolean) (inM "readSign") 56 (s_zret) := snd_zret (by decide +kernel)
  exact fun pc => snd_ite (snd_ite (snd_ite (snd_leaf (k := 0) h0) (snd_ite (snd_leaf (k := 1) h1) (snd_leaf (k := 36) h36))) (snd_ite (snd_ite (snd_leaf (k := 37) h37) (snd_leaf (k := 40) h40)) (snd_ite (snd_leaf (k := 41) h41) (snd_leaf (k := 42) h42)))) (snd_ite (snd_ite (snd_ite (snd_leaf (k := 45) h45) (snd_leaf (k := 46) h46)) (snd_ite (snd_leaf (k := 47) h47) (snd_leaf (k := 50) h50))) (snd_ite (snd_ite (snd_leaf (k := 51) h51) (snd_leaf (k := 52) h52)) (snd_ite (snd_leaf (k := 53) h53) (snd_leaf (k := 56) h56))))
def pX11_readSign : Spc := inl kX11_readSign 2 20
theorem oX11_readSign : Ok 4 yX11_readSign cX11_readSign 2 (some .boolean) pX11_readSign := ok_inl (by decide) rfl sX11_readSign
end
section
/-! rows as numbers: three bits a place, place 0 lowest -/
def dg (x p : Nat) : Nat := x / 8 ^ p % 8
def pq (f : Nat → Nat) : Nat → Nat
  | 0 => 0
  | n + 1 => pq f n + f n * 8 ^ n
theorem dg_lt (x p : Nat) : dg x p < 8 := Nat.mod_lt _ (by decide)
theorem p8 (n : Nat) : 0 < 8 ^ n := Nat.pow_pos (by decide)
theorem pq_lt {f : Nat → Nat} : ∀ {n : Nat}, (∀ p, p < n → f p < 8) → pq f n < 8 ^ n
  | 0, _ => Nat.zero_lt_one
  | n + 1, h => by
    have h1 := pq_lt (n := n) (fun p hp => h p (by omega))
    have h2 := h n (by omega)
    have h3 : f n * 8 ^ n ≤ 7 * 8 ^ n := Nat.mul_le_mul_right _ (by omega)
    show pq f n + f n * 8 ^ n < 8 ^ (n + 1)
    rw [Nat.pow_succ]
    omega
theorem pq_congr {f g : Nat → Nat} : ∀ {n : Nat}, (∀ p, p < n → f p = g p) → pq f n = pq g n
  | 0, _ => rfl
  | n + 1, h => by
    show pq f n + f n * 8 ^ n = pq g n + g n * 8 ^ n
    rw [pq_congr (n := n) (fun p hp => h p (by omega)), h n (by omega)]
theorem dg_pq {f : Nat → Nat} : ∀ {n : Nat}, (∀ p, p < n → f p < 8) → ∀ {p : Nat}, p < n → dg (pq f n) p = f p
  | 0, _, p, hp => by omega
  | n + 1, h, p, hp => by
    have hl := pq_lt (f := f) (n := n) (fun p hp => h p (by omega))
    show (pq f n + f n * 8 ^ n) / 8 ^ p % 8 = f p
    by_cases hpn : p = n
    · subst hpn
      rw [Nat.add_mul_div_right _ _ (p8 p), Nat.div_eq_of_lt hl, Nat.zero_add, Nat.mod_eq_of_lt (h p hp)]
    · have ih := dg_pq (n := n) (fun p hp => h p (by omega)) (show p < n by omega)
      obtain ⟨m, hm⟩ : ∃ m, n = p + (m + 1) := ⟨n - p - 1, by omega⟩
      have e : f n * 8 ^ n = (f n * 8 ^ m * 8) * 8 ^ p := by
        rw [hm, Nat.pow_add, Nat.pow_succ, Nat.mul_comm (8 ^ p) _, ← Nat.mul_assoc, ← Nat.mul_assoc]
      rw [e, Nat.add_mul_div_right _ _ (p8 p), Nat.add_mul_mod_self_right]
      exact ih
theorem pq_mod (x : Nat) : ∀ n, pq (dg x) n = x % 8 ^ n
  | 0 => by show 0 = x % 1; rw [Nat.mod_one]
  | n + 1 => by
    show pq (dg x) n + dg x n * 8 ^ n = x % 8 ^ (n + 1)
    rw [pq_mod x n, Nat.pow_succ, Nat.mod_mul, Nat.mul_comm (8 ^ n)]
    rfl
theorem pq_dg {x n : Nat} (h : x < 8 ^ n) : pq (dg x) n = x := by rw [pq_mod, Nat.mod_eq_of_lt h]
theorem dg_ext {x y n : Nat} (hx : x < 8 ^ n) (hy : y < 8 ^ n) (h : ∀ p, p < n → dg x p = dg y p) : x = y := by
  rw [← pq_dg hx, ← pq_dg hy]
  exact pq_congr h
theorem pow8 (p : Nat) : 8 ^ p = 2 ^ (3 * p) := by rw [Nat.pow_mul]
theorem dg_shr (x p : Nat) : dg x p = (x >>> (3 * p)) % 2 ^ 3 := by
  rw [Nat.shiftRight_eq_div_pow, ← pow8]
  rfl
theorem dg_xor (x y p : Nat) : dg (x ^^^ y) p = dg x p ^^^ dg y p := by
  rw [dg_shr, dg_shr, dg_shr, Nat.shiftRight_xor_distrib, Nat.xor_mod_two_pow]
theorem dg_and (x y p : Nat) : dg (x &&& y) p = dg x p &&& dg y p := by
  rw [dg_shr, dg_shr, dg_shr, Nat.shiftRight_and_distrib, Nat.and_mod_two_pow]
theorem dg_or (x y p : Nat) : dg (x ||| y) p = dg x p ||| dg y p := by
  rw [dg_shr, dg_shr, dg_shr, Nat.shiftRight_or_distrib, Nat.or_mod_two_pow]
theorem dg_div8 (x p : Nat) : dg (x / 8) p = dg x (p + 1) := by
  unfold dg
  rw [Nat.div_div_eq_div_mul, Nat.pow_succ, Nat.mul_comm]
theorem dg_mul8_0 (x : Nat) : dg (x * 8) 0 = 0 := by
  unfold dg
  rw [Nat.pow_zero, Nat.div_one, Nat.mul_mod_left]
theorem dg_mul8 (x p : Nat) : dg (x * 8) (p + 1) = dg x p := by
  unfold dg
  rw [Nat.pow_succ, Nat.mul_comm (8 ^ p) 8, ← Nat.div_div_eq_div_mul, Nat.mul_div_cancel _ (by decide)]
theorem dg_big {x n p : Nat} (h : x < 8 ^ n) (hp : n ≤ p) : dg x p = 0 := by
  unfold dg
  rw [Nat.div_eq_of_lt (Nat.lt_of_lt_of_le h (Nat.pow_le_pow_right (by decide) hp))]
theorem lt8_of {x n : Nat} (h : ∀ p, n ≤ p → dg x p = 0) : ∀ m, x < 8 ^ (n + m) → x < 8 ^ n
  | 0, hm => hm
  | m + 1, hm => by
    refine lt8_of h m ?_
    have e := h (n + m) (by omega)
    unfold dg at e
    have h1 : x / 8 ^ (n + m) < 8 := by
      rw [Nat.div_lt_iff_lt_mul (p8 _), Nat.mul_comm, ← Nat.pow_succ]
      exact hm
    rw [Nat.mod_eq_of_lt h1] at e
    exact (Nat.div_eq_zero_iff_lt (p8 _)).mp e
/-! the ints -/
theorem nx_and (a b : Nat) : nI a &&& nI b = nI (a &&& b) := by
  apply Int32.toBitVec_inj.1
  show BitVec.ofNat 32 a &&& BitVec.ofNat 32 b = BitVec.ofNat 32 (a &&& b)
  apply BitVec.eq_of_getLsbD_eq
  intro i hi
  simp [hi]
theorem nx_or (a b : Nat) : nI a ||| nI b = nI (a ||| b) := by
  apply Int32.toBitVec_inj.1
  show BitVec.ofNat 32 a ||| BitVec.ofNat 32 b = BitVec.ofNat 32 (a ||| b)
  apply BitVec.eq_of_getLsbD_eq
  intro i hi
  simp [hi]
theorem nx_xor (a b : Nat) : nI a ^^^ nI b = nI (a ^^^ b) := by
  apply Int32.toBitVec_inj.1
  show BitVec.ofNat 32 a ^^^ BitVec.ofNat 32 b = BitVec.ofNat 32 (a ^^^ b)
  apply BitVec.eq_of_getLsbD_eq
  intro i hi
  simp [hi]
theorem shc : ∀ j, j < 32 → ((nI j &&& 31).toBitVec.smod 32).toNat = j := by decide +kernel
theorem shcu : ∀ j, j < 32 → (((nI j).toUInt32 &&& Int32.toUInt32 31).toBitVec % 32).toNat = j := by decide +kernel
theorem nx_shl {a j : Nat} (hj : j < 32) (h : a * 2 ^ j < 2 ^ 32) : nI a <<< (nI j &&& 31) = nI (a * 2 ^ j) := pk_shlN _ j (shc j hj) h
theorem nx_shr {a j : Nat} (hj : j < 32) (h : a < 2 ^ 31) : nI a >>> (nI j &&& 31) = nI (a / 2 ^ j) := pk_shrN h _ j (shc j hj)
theorem nx_ushr {a j : Nat} (hj : j < 32) (h : a < 2 ^ 32) : ushr (nI a) (nI j) = nI (a / 2 ^ j) := pk_ushrN h _ j (shcu j hj)
theorem nx_mul (a b : Nat) : nI a * nI b = nI (a * b) := pk_mul a b
theorem nx_sub {a b : Nat} (h : b ≤ a) : nI a - nI b = nI (a - b) := pk_sub h
theorem nx_add (a b : Nat) : nI a + nI b = nI (a + b) := nI_add a b
theorem lit (n : Nat) : (OfNat.ofNat n : Int32) = nI n := rfl
theorem and7 (a : Nat) : nI a &&& 7 = nI (a % 8) := by
  show nI a &&& nI 7 = _
  rw [nx_and, show (7 : Nat) = 2 ^ 3 - 1 from rfl, Nat.and_two_pow_sub_one_eq_mod]
theorem and1 (a : Nat) : nI a &&& 1 = nI (a % 2) := by
  show nI a &&& nI 1 = _
  rw [nx_and, show (1 : Nat) = 2 ^ 1 - 1 from rfl, Nat.and_two_pow_sub_one_eq_mod]
/-- Rows.bellAt of a row -/
theorem bell_at {x p : Nat} (hx : x < 2 ^ 24) (hp : p < 8) : (ushr (nI x) (3 * (nI (p + 1) - 1)) &&& 7) + 1 = nI (dg x p + 1) := by
  rw [nI_pred, show (3 : Int32) = nI 3 from rfl, nx_mul, nx_ushr (by omega) (by omega), and7, nI_1, ← pow8]
  rfl
end
section
/-! a contract at fixed arguments and store -/
def OkAt (d : Nat) (y : MethodName) (cc : ByteArray) (nL : Nat) (ret : Option FieldType) (a : List Value) (g : Sto) (Q : Rsl) : Prop :=
  ∀ (l : Launch) (D : va_G) (cy : Nat → ClassId) (bs : Nat) (ad : Nat → Nat), MetFree l y (headSpec (wsY y cc nL ret) (Lvl d)) (PreM D cy bs ad a g) (fun _ _ _ _ _ => True) (EndM D cy bs ad g Q)
theorem ok_all {d : Nat} {y : MethodName} {cc : ByteArray} {nL : Nat} {ret : Option FieldType} {sp : Spc} (h : ∀ As g Q, sp As g Q → OkAt d y cc nL ret As g Q) : Ok d y cc nL ret sp := fun l D cy bs ad As g Q hs => h As g Q hs l D cy bs ad
theorem at_of {d : Nat} {own : String} {cc : ByteArray} {nL : Nat} {ret : Option FieldType} {y : MethodName} {code : Nat → Stq} {a : List Value} {g : Sto} {Q : Rsl} (cut : Nat → Bool) (fuel : Nat) (I : Nat → Kon) (hy : plainName y.cls = true) (hown : y.cls = own) (hs : ∀ pc, Snd d own cc nL ret (inM y.name) pc (code pc)) (hn : a.length ≤ nL ∧ a.all cat1 = true)
    (entry : frc (a ++ List.replicate (nL - a.length) U_) (fun ls0 => wp code cut (fun pc ls st g' => ∃ n, I n pc ls st g') Q fuel 0 ls0 [] g))
    (body : ∀ n pc ls st g', I n pc ls st g' → wp code cut (fun pc ls st g'' => ∃ n', n' < n ∧ I n' pc ls st g'') Q fuel pc ls st g') : OkAt d y cc nL ret a g Q := by
  intro l D cy bs ad
  have h : Ok d y cc nL ret (fun As g' Q' => As = a ∧ g' = g ∧ Q' = Q) := by
    refine ok_of cut fuel (fun _ _ _ => I) hy hown hs ?_ ?_ ?_
    · rintro As g' Q' ⟨rfl, rfl, rfl⟩; exact hn
    · rintro As g' Q' ⟨rfl, rfl, rfl⟩; exact entry
    · rintro As g' Q' ⟨rfl, rfl, rfl⟩; exact body
  exact h l D cy bs ad a g Q ⟨rfl, rfl, rfl⟩
theorem cut_in {b : Bool} {A B : Prop} (hb : b = true) (h : A) : cond b A B := by subst hb; exact h
theorem nl {n m : Nat} {l : List Value} (h : Nat.ble n m = true) (hl : l.length = n) (hc : l.all cat1 = true) : l.length ≤ m ∧ l.all cat1 = true := ⟨by rw [hl]; exact Nat.le_of_ble_eq_true h, hc⟩
/-! changes: which places change with the one behind -/
def bq (m q : Nat) : Bool := m / 2 ^ q % 2 == 1
/-- the places at which the reading of a set of places stops, from 0 on -/
def vis (m : Nat) : Nat → Bool
  | 0 => true
  | 1 => bq m 1
  | p + 2 => (vis m (p + 1) && bq m (p + 2)) || (vis m p && !bq m (p + 1))
theorem vis_apart {m : Nat} : ∀ p, vis m p = true → bq m (p + 1) = false → vis m (p + 1) = false
  | 0, _, h => h
  | p + 1, h1, h2 => by
    show ((vis m (p + 1) && bq m (p + 2)) || (vis m p && !bq m (p + 1))) = false
    rw [h2, Bool.and_false, Bool.false_or]
    cases h3 : vis m p with
    | false => rfl
    | true =>
      cases h4 : bq m (p + 1) with
      | true => rfl
      | false =>
        have := vis_apart p h3 h4
        rw [this] at h1; cases h1
theorem vis_stay {m p : Nat} (h1 : vis m p = true) (h2 : bq m (p + 1) = true) : vis m (p + 1) = true := by
  cases p with
  | zero => exact h2
  | succ p =>
    show ((vis m (p + 1) && bq m (p + 2)) || (vis m p && !bq m (p + 1))) = true
    rw [h1, h2]; rfl
theorem vis_go {m p : Nat} (h1 : vis m p = true) (h2 : bq m (p + 1) = false) : vis m (p + 2) = true := by
  show ((vis m (p + 1) && bq m (p + 2)) || (vis m p && !bq m (p + 1))) = true
  rw [h1, h2]; simp
def swf (n m p : Nat) : Bool := vis m p && (!bq m (p + 1) && decide (p + 1 < n))
theorem swf_apart {n m p : Nat} (h : swf n m p = true) : swf n m (p + 1) = false := by
  simp only [swf, Bool.and_eq_true, Bool.not_eq_true', decide_eq_true_eq] at h
  simp only [swf, vis_apart p h.1 h.2.1, Bool.false_and]
/-- where the bell comes from that is at place p behind the change -/
def sg (n m p : Nat) : Nat := if swf n m p = true then p + 1 else if 1 ≤ p ∧ swf n m (p - 1) = true then p - 1 else p
/-- a change's bits for all places -/
def stN (n m : Nat) : Nat := pq (fun p => if swf n m p = true then 7 else 0) n
/-- the row that a change makes of a row -/
def chg (n m x : Nat) : Nat := pq (fun p => dg x (sg n m p)) n
theorem sg_lt {n m p : Nat} (hp : p < n) : sg n m p < n := by
  unfold sg
  split
  · rename_i h
    simp only [swf, Bool.and_eq_true, decide_eq_true_eq] at h
    exact h.2.2
  · split <;> omega
theorem sg_sg {n m p : Nat} : sg n m (sg n m p) = p := by
  by_cases h1 : swf n m p = true
  · have e1 : sg n m p = p + 1 := if_pos h1
    rw [e1]
    unfold sg
    rw [if_neg (by rw [swf_apart h1]; simp), if_pos ⟨by omega, by simpa using h1⟩]
    omega
  · by_cases h2 : 1 ≤ p ∧ swf n m (p - 1) = true
    · have e1 : sg n m p = p - 1 := by unfold sg; rw [if_neg h1, if_pos h2]
      rw [e1]
      unfold sg
      rw [if_pos h2.2]
      omega
    · have e1 : sg n m p = p := by unfold sg; rw [if_neg h1, if_neg h2]
      rw [e1, e1]
theorem dg_chg {n m x p : Nat} (hp : p < n) : dg (chg n m x) p = dg x (sg n m p) := dg_pq (fun _ _ => dg_lt _ _) hp
theorem chg_lt (n m x : Nat) : chg n m x < 8 ^ n := pq_lt (fun _ _ => dg_lt _ _)
theorem chg_chg {n m x : Nat} (hx : x < 8 ^ n) : chg n m (chg n m x) = x := by
  refine dg_ext (chg_lt _ _ _) hx (fun p hp => ?_)
  rw [dg_chg hp, dg_chg (sg_lt hp), sg_sg]
theorem and70 (a : Nat) (h : a < 8) : a &&& 7 = a := by
  rw [show (7 : Nat) = 2 ^ 3 - 1 from rfl, Nat.and_two_pow_sub_one_eq_mod]
  exact Nat.mod_eq_of_lt h
theorem p824 {n : Nat} (hn : n ≤ 8) : 8 ^ n ≤ 2 ^ 24 := by
  have := Nat.pow_le_pow_right (n := 8) (by decide) hn
  exact Nat.le_trans this (by decide)
theorem stN_lt (n m : Nat) : stN n m < 8 ^ n := pq_lt (fun p _ => by show (if _ then 7 else 0) < 8; split <;> omega)
theorem dg_stN {n m p : Nat} (hp : p < n) : dg (stN n m) p = if swf n m p = true then 7 else 0 := dg_pq (f := fun p => if swf n m p = true then 7 else 0) (fun p _ => by show (if _ then 7 else 0) < 8; split <;> omega) hp
/-- Rows.stepped -/
theorem stpd_eq {n m x : Nat} (hn : n ≤ 8) (hx : x < 8 ^ n) : stpd (nI x) (nI (stN n m)) = nI (chg n m x) := by
  have h24 := p824 hn
  have hs := stN_lt n m
  have hd : (x ^^^ x / 8) &&& stN n m < 8 ^ n := Nat.lt_of_le_of_lt Nat.and_le_right hs
  have e1 : stpd (nI x) (nI (stN n m)) = nI (x ^^^ ((x ^^^ x / 8) &&& stN n m) ^^^ ((x ^^^ x / 8) &&& stN n m) * 8) := by
    unfold stpd
    rw [show (3 : Int32) = nI 3 from rfl, nx_ushr (by omega) (by omega), show (2 : Nat) ^ 3 = 8 from rfl, nx_xor, nx_and, nx_xor, nx_shl (by omega) (by omega), nx_xor, show (2 : Nat) ^ 3 = 8 from rfl]
  rw [e1]
  congr 1
  generalize hdd : (x ^^^ x / 8) &&& stN n m = dd at hd
  have hdig : ∀ p, p < n → dg dd p = if swf n m p = true then dg x p ^^^ dg x (p + 1) else 0 := by
    intro p hp
    rw [← hdd, dg_and, dg_xor, dg_div8, dg_stN hp]
    split
    · exact and70 _ (Nat.xor_lt_two_pow (n := 3) (dg_lt _ _) (dg_lt _ _))
    · exact Nat.and_zero _
  have hdn : ∀ p, n ≤ p + 1 → p < n → dg dd p = 0 := by
    intro p h1 h2
    rw [hdig p h2, if_neg]
    simp only [swf, Bool.and_eq_true, decide_eq_true_eq]
    intro h3
    omega
  have hb : ∀ p, n ≤ p → dg (x ^^^ dd ^^^ dd * 8) p = 0 := by
    intro p hp
    rw [dg_xor, dg_xor, dg_big hx hp, dg_big hd hp]
    cases p with
    | zero => rw [dg_mul8_0]; rfl
    | succ p =>
      rw [dg_mul8]
      by_cases h : n ≤ p
      · rw [dg_big hd h]; rfl
      · rw [hdn p hp (by omega)]; rfl
  have hlt : x ^^^ dd ^^^ dd * 8 < 8 ^ n := by
    refine lt8_of hb (9 - n) ?_
    rw [show n + (9 - n) = 9 by omega]
    have h27 : (8 : Nat) ^ 9 = 2 ^ 27 := by decide
    rw [h27]
    exact Nat.xor_lt_two_pow (Nat.xor_lt_two_pow (by omega) (by omega)) (by omega)
  refine dg_ext hlt (chg_lt _ _ _) (fun p hp => ?_)
  rw [dg_chg hp, dg_xor, dg_xor, hdig p hp]
  unfold sg
  by_cases h1 : swf n m p = true
  · rw [if_pos h1, if_pos h1]
    have h0 : dg (dd * 8) p = 0 := by
      cases p with
      | zero => exact dg_mul8_0 _
      | succ p =>
        rw [dg_mul8, hdig p (by omega), if_neg]
        intro h2
        rw [swf_apart h2] at h1; cases h1
    rw [h0, Nat.xor_zero, ← Nat.xor_assoc, Nat.xor_self, Nat.zero_xor]
  · rw [if_neg h1, if_neg h1, Nat.xor_zero]
    by_cases h2 : 1 ≤ p ∧ swf n m (p - 1) = true
    · rw [if_pos h2]
      obtain ⟨q, rfl⟩ : ∃ q, p = q + 1 := ⟨p - 1, by omega⟩
      have h3 : swf n m q = true := h2.2
      rw [dg_mul8, hdig q (by omega), if_pos h3, Nat.xor_comm (dg x q), ← Nat.xor_assoc, Nat.xor_self, Nat.zero_xor]
      rfl
    · rw [if_neg h2]
      have h0 : dg (dd * 8) p = 0 := by
        cases p with
        | zero => exact dg_mul8_0 _
        | succ p =>
          rw [dg_mul8, hdig p (by omega), if_neg]
          intro h3
          exact h2 ⟨by omega, h3⟩
      rw [h0, Nat.xor_zero]
end
section
def kX7_step : Nat → Stq := fun pc => if pc < 21 then (if pc < 9 then (if pc < 3 then (if pc < 1 then (if pc = 0 then s_push (.int 0) 1 else s_bad) else (if pc < 2 then (if pc = 1 then s_ist 2 2 else s_bad) else (if pc = 2 then s_push (.int 1) 3 else s_bad))) else (if pc < 5 then (if pc < 4 then (if pc = 3 then s_ist 3 4 else s_bad) else (if pc = 4 then s_ild 3 5 else s_bad)) else (if pc < 6 then (if pc = 5 then s_ild 1 6 else s_bad) else (if pc = 6 then s_icge 41 9 else s_bad)))) else (if pc < 13 then (if pc < 11 then (if pc < 10 then (if pc = 9 then s_ild 0 10 else s_bad) else (if pc = 10 then s_ild 3 11 else s_bad)) else (if pc < 12 then (if pc = 11 then s_ishr 12 else s_bad) else (if pc = 12 then s_push (.int 1) 13 else s_bad))) else (if pc < 15 then (if pc < 14 then (if pc = 13 then s_iand 14 else s_bad) else (if pc = 14 then s_push (.int 1) 15 else s_bad)) else (if pc < 18 then (if pc = 15 then s_icne 24 18 else s_bad) else (if pc = 18 then s_inc 3 1 21 else s_bad))))) else (if pc < 31 then (if pc < 27 then (if pc < 24 then (if pc = 21 then s_goto 4 else s_bad) else (if pc < 25 then (if pc = 24 then s_ild 2 25 else s_bad) else (if pc = 25 then s_push (.int 7) 27 else s_bad))) else (if pc < 29 then (if pc < 28 then (if pc = 27 then s_push (.int 3) 28 else s_bad) else (if pc = 28 then s_ild 3 29 else s_bad)) else (if pc < 30 then (if pc = 29 then s_push (.int 1) 30 else s_bad) else (if pc = 30 then s_isub 31 else s_bad)))) else (if pc < 35 then (if pc < 33 then (if pc < 32 then (if pc = 31 then s_imul 32 else s_bad) else (if pc = 32 then s_ishl 33 else s_bad)) else (if pc < 34 then (if pc = 33 then s_ior 34 else s_bad) else (if pc = 34 then s_ist 2 35 else s_bad))) else (if pc < 41 then (if pc < 38 then (if pc = 35 then s_inc 3 2 38 else s_bad) else (if pc = 38 then s_goto 4 else s_bad)) else (if pc < 42 then (if pc = 41 then s_ild 2 42 else s_bad) else (if pc = 42 then s_iret else s_bad)))))
set_option maxRecDepth 20000 in
theorem sX7_step : ∀ pc, Snd 0 RX7 cX7_step 4 (some .int) (inM "step") pc (kX7_step pc) := by
  have h0 : Snd 0 RX7 cX7_step 4 (some .int) (inM "step") 0 (s_push (.int 0) 1) := snd_iconst (n := 0) (by decide +kernel) (by decide)
  have h1 : Snd 0 RX7 cX7_step 4 (some .int) (inM "step") 1 (s_ist 2 2) := snd_istore_n (j := 2) (by decide +kernel) rfl
  have h2 : Snd 0 RX7 cX7_step 4 (some .int) (inM "step") 2 (s_push (.int 1) 3) := snd_iconst (n := 1) (by decide +kernel) (by decide)
  have h3 : Snd 0 RX7 cX7_step 4 (some .int) (inM "step") 3 (s_ist 3 4) := snd_istore_n (j := 3) (by decide +kernel) rfl
  have h4 : Snd 0 RX7 cX7_step 4 (some .int) (inM "step") 4 (s_ild 3 5) := snd_iload_n (j := 3) (by decide +kernel) rfl
  have h5 : Snd 0 RX7 cX7_step 4 (some .int) (inM "step") 5 (s_ild 1 6) := snd_iload_n (j := 1) (by decide +kernel) rfl
  have h6 : Snd 0 RX7 cX7_step 4 (some .int) (inM "step") 6 (s_icge 41 9) := snd_icge (off := 35) (by decide +kernel) (by decide)
  have h9 : Snd 0 RX7 cX7_step 4 (some .int) (inM "step") 9 (s_ild 0 10) := snd_iload_n (j := 0) (by decide +kernel) rfl
  have h10 : Snd 0 RX7 cX7_step 4 (some .int) (inM "step") 10 (s_ild 3 11) := snd_iload_n (j := 3) (by decide +kernel) rfl
  have h11 : Snd 0 RX7 cX7_step 4 (some .int) (inM "step") 11 (s_ishr 12) := snd_ishr (by decide +kernel)
  have h12 : Snd 0 RX7 cX7_step 4 (some .int) (inM "step") 12 (s_push (.int 1) 13) := snd_iconst (n := 1) (by decide +kernel) (by decide)
  have h13 : Snd 0 RX7 cX7_step 4 (some .int) (inM "step") 13 (s_iand 14) := snd_iand (by decide +kernel)
  have h14 : Snd 0 RX7 cX7_step 4 (some .int) (inM "step") 14 (s_push (.int 1) 15) := snd_iconst (n := 1) (by decide +kernel) (by decide)
  have h15 : Snd 0 RX7 cX7_step 4 (some .int) (inM "step") 15 (s_icne 24 18) := snd_icne (off := 9) (by decide +kernel) (by decide)
  have h18 : Snd 0 RX7 cX7_step 4 (some .int) (inM "step") 18 (s_inc 3 1 21) := snd_iinc (y := 1) (by decide +kernel) (by decide)
  have h21 : Snd 0 RX7 cX7_step 4 (some .int) (inM "step") 21 (s_goto 4) := snd_goto (off := -17) (by decide +kernel) (by decide)
  have h24 : Snd 0 RX7 cX7_step 4 (some .int) (inM "step") 24 (s_ild 2 25) := snd_iload_n (j := 2) (by decide +kernel) rfl
  have h25 : Snd 0 RX7 cX7_step 4 (some .int) (inM "step") 25 (s_push (.int 7) 27) := snd_bipush (n := 7) (by decide +kernel) (by decide)
  have h27 : Snd 0 RX7 cX7_step 4 (some .int) (inM "step") 27 (s_push (.int 3) 28) := snd_iconst (n := 3) (by decide +kernel) (by decide)
  have h28 : Snd 0 RX7 cX7_step 4 (some .int) (inM "step") 28 (s_ild 3 29) := snd_iload_n (j := 3) (by decide +kernel) rfl
  have h29 : Snd 0 RX7 cX7_step 4 (some .int) (inM "step") 29 (s_push (.int 1) 30) := snd_iconst (n := 1) (by decide +kernel) (by decide)
  have h30 : Snd 0 RX7 cX7_step 4 (some .int) (inM "step") 30 (s_isub 31) := snd_isub (by decide +kernel)
  have h31 : Snd 0 RX7 cX7_step 4 (some .int) (inM "step") 31 (s_imul 32) := snd_imul (by decide +kernel)
  have h32 : Snd 0 RX7 cX7_step 4 (some .int) (inM "step") 32 (s_ishl 33) := snd_ishl (by decide +kernel)
  have h33 : Snd 0 RX7 cX7_step 4 (some .int) (inM "step") 33 (s_ior 34) := snd_ior (by decide +kernel)
  have h34 : Snd 0 RX7 cX7_step 4 (some .int) (inM "step") 34 (s_ist 2 35) := snd_istore_n (j := 2) (by decide +kernel) rfl
  have h35 : Snd 0 RX7 cX7_step 4 (some .int) (inM "step") 35 (s_inc 3 2 38) := snd_iinc (y := 2) (by decide +kernel) (by decide)
  have h38 : Snd 0 RX7 cX7_step 4 (some .int) (inM "step") 38 (s_goto 4) := snd_goto (off := -34) (by decide +kernel) (by decide)
  have h41 : Snd 0 RX7 cX7_step 4 (some .int) (inM "step") 41 (s_ild 2 42) := snd_iload_n (j := 2) (by decide +kernel) rfl
  have h42 : Snd 0 RX7 cX7_step 4 (some .int) (inM "step") 42 (s_iret) := snd_iret (by decide +kernel)
  exact fun pc => snd_ite (snd_ite (snd_ite (snd_ite (snd_leaf (k := 0) h0) (snd_ite (snd_leaf (k := 1) h1) (snd_leaf (k := 2) h2))) (snd_ite (snd_ite (snd_leaf (k := 3) h3) (snd_leaf (k := 4) h4)) (snd_ite (snd_leaf (k := 5) h5) (snd_leaf (k := 6) h6)))) (snd_ite (snd_ite (snd_ite (snd_leaf (k := 9) h9) (snd_leaf (k := 10) h10)) (snd_ite (snd_leaf (k := 11) h11) (snd_leaf (k := 12) h12))) (snd_ite (snd_ite (snd_leaf (k := 13) h13) (snd_leaf (k := 14) h14)) (snd_ite (snd_leaf (k := 15) h15) (snd_leaf (k := 18) h18))))) (snd_ite (snd_ite (snd_ite (snd_leaf (k := 21) h21) (snd_ite (snd_leaf (k := 24) h24) (snd_leaf (k := 25) h25))) (snd_ite (snd_ite (snd_leaf (k := 27) h27) (snd_leaf (k := 28) h28)) (snd_ite (snd_leaf (k := 29) h29) (snd_leaf (k := 30) h30)))) (snd_ite (snd_ite (snd_ite (snd_leaf (k := 31) h31) (snd_leaf (k := 32) h32)) (snd_ite (snd_leaf (k := 33) h33) (snd_leaf (k := 34) h34))) (snd_ite (snd_ite (snd_leaf (k := 35) h35) (snd_leaf (k := 38) h38)) (snd_ite (snd_leaf (k := 41) h41) (snd_leaf (k := 42) h42)))))

def kX7_rounds : Nat → Stq := fun pc => if pc < 11 then (if pc < 4 then (if pc < 2 then (if pc < 1 then (if pc = 0 then s_push (.int 0) 1 else s_bad) else (if pc = 1 then s_ist 1 2 else s_bad)) else (if pc < 3 then (if pc = 2 then s_push (.int 0) 3 else s_bad) else (if pc = 3 then s_ist 2 4 else s_bad))) else (if pc < 6 then (if pc < 5 then (if pc = 4 then s_ild 2 5 else s_bad) else (if pc = 5 then s_ild 0 6 else s_bad)) else (if pc < 9 then (if pc = 6 then s_icge 23 9 else s_bad) else (if pc < 10 then (if pc = 9 then s_ild 1 10 else s_bad) else (if pc = 10 then s_ild 2 11 else s_bad))))) else (if pc < 16 then (if pc < 13 then (if pc < 12 then (if pc = 11 then s_push (.int 3) 12 else s_bad) else (if pc = 12 then s_ild 2 13 else s_bad)) else (if pc < 14 then (if pc = 13 then s_imul 14 else s_bad) else (if pc < 15 then (if pc = 14 then s_ishl 15 else s_bad) else (if pc = 15 then s_ior 16 else s_bad)))) else (if pc < 20 then (if pc < 17 then (if pc = 16 then s_ist 1 17 else s_bad) else (if pc = 17 then s_inc 2 1 20 else s_bad)) else (if pc < 23 then (if pc = 20 then s_goto 4 else s_bad) else (if pc < 24 then (if pc = 23 then s_ild 1 24 else s_bad) else (if pc = 24 then s_iret else s_bad)))))
set_option maxRecDepth 20000 in
theorem sX7_rounds : ∀ pc, Snd 0 RX7 cX7_rounds 3 (some .int) (inM "rounds") pc (kX7_rounds pc) := by
  have h0 : Snd 0 RX7 cX7_rounds 3 (some .int) (inM "rounds") 0 (s_push (.int 0) 1) := snd_iconst (n := 0) (by decide +kernel) (by decide)
  have h1 : Snd 0 RX7 cX7_rounds 3 (some .int) (inM "rounds") 1 (s_ist 1 2) := snd_istore_n (j := 1) (by decide +kernel) rfl
  have h2 : Snd 0 RX7 cX7_rounds 3 (some .int) (inM "rounds") 2 (s_push (.int 0) 3) := snd_iconst (n := 0) (by decide +kernel) (by decide)
  have h3 : Snd 0 RX7 cX7_rounds 3 (some .int) (inM "rounds") 3 (s_ist 2 4) := snd_istore_n (j := 2) (by decide +kernel) rfl
  have h4 : Snd 0 RX7 cX7_rounds 3 (some .int) (inM "rounds") 4 (s_ild 2 5) := snd_iload_n (j := 2) (by decide +kernel) rfl
  have h5 : Snd 0 RX7 cX7_rounds 3 (some .int) (inM "rounds") 5 (s_ild 0 6) := snd_iload_n (j := 0) (by decide +kernel) rfl
  have h6 : Snd 0 RX7 cX7_rounds 3 (some .int) (inM "rounds") 6 (s_icge 23 9) := snd_icge (off := 17) (by decide +kernel) (by decide)
  have h9 : Snd 0 RX7 cX7_rounds 3 (some .int) (inM "rounds") 9 (s_ild 1 10) := snd_iload_n (j := 1) (by decide +kernel) rfl
  have h10 : Snd 0 RX7 cX7_rounds 3 (some .int) (inM "rounds") 10 (s_ild 2 11) := snd_iload_n (j := 2) (by decide +kernel) rfl
  have h11 : Snd 0 RX7 cX7_rounds 3 (some .int) (inM "rounds") 11 (s_push (.int 3) 12) := snd_iconst (n := 3) (by decide +kernel) (by decide)
  have h12 : Snd 0 RX7 cX7_rounds 3 (some .int) (inM "rounds") 12 (s_ild 2 13) := snd_iload_n (j := 2) (by decide +kernel) rfl
  have h13 : Snd 0 RX7 cX7_rounds 3 (some .int) (inM "rounds") 13 (s_imul 14) := snd_imul (by decide +kernel)
  have h14 : Snd 0 RX7 cX7_rounds 3 (some .int) (inM "rounds") 14 (s_ishl 15) := snd_ishl (by decide +kernel)
  have h15 : Snd 0 RX7 cX7_rounds 3 (some .int) (inM "rounds") 15 (s_ior 16) := snd_ior (by decide +kernel)
  have h16 : Snd 0 RX7 cX7_rounds 3 (some .int) (inM "rounds") 16 (s_ist 1 17) := snd_istore_n (j := 1) (by decide +kernel) rfl
  have h17 : Snd 0 RX7 cX7_rounds 3 (some .int) (inM "rounds") 17 (s_inc 2 1 20) := snd_iinc (y := 1) (by decide +kernel) (by decide)
  have h20 : Snd 0 RX7 cX7_rounds 3 (some .int) (inM "rounds") 20 (s_goto 4) := snd_goto (off := -16) (by decide +kernel) (by decide)
  have h23 : Snd 0 RX7 cX7_rounds 3 (some .int) (inM "rounds") 23 (s_ild 1 24) := snd_iload_n (j := 1) (by decide +kernel) rfl
  have h24 : Snd 0 RX7 cX7_rounds 3 (some .int) (inM "rounds") 24 (s_iret) := snd_iret (by decide +kernel)
  exact fun pc => snd_ite (snd_ite (snd_ite (snd_ite (snd_leaf (k := 0) h0) (snd_leaf (k := 1) h1)) (snd_ite (snd_leaf (k := 2) h2) (snd_leaf (k := 3) h3))) (snd_ite (snd_ite (snd_leaf (k := 4) h4) (snd_leaf (k := 5) h5)) (snd_ite (snd_leaf (k := 6) h6) (snd_ite (snd_leaf (k := 9) h9) (snd_leaf (k := 10) h10))))) (snd_ite (snd_ite (snd_ite (snd_leaf (k := 11) h11) (snd_leaf (k := 12) h12)) (snd_ite (snd_leaf (k := 13) h13) (snd_ite (snd_leaf (k := 14) h14) (snd_leaf (k := 15) h15)))) (snd_ite (snd_ite (snd_leaf (k := 16) h16) (snd_leaf (k := 17) h17)) (snd_ite (snd_leaf (k := 20) h20) (snd_ite (snd_leaf (k := 23) h23) (snd_leaf (k := 24) h24)))))

def kX7_howMany : Nat → Stq := fun pc => if pc < 9 then (if pc < 3 then (if pc < 1 then (if pc = 0 then s_push (.int 1) 1 else s_bad) else (if pc < 2 then (if pc = 1 then s_ist 1 2 else s_bad) else (if pc = 2 then s_push (.int 2) 3 else s_bad))) else (if pc < 5 then (if pc < 4 then (if pc = 3 then s_ist 2 4 else s_bad) else (if pc = 4 then s_ild 2 5 else s_bad)) else (if pc < 6 then (if pc = 5 then s_ild 0 6 else s_bad) else (if pc = 6 then s_icgt 19 9 else s_bad)))) else (if pc < 13 then (if pc < 11 then (if pc < 10 then (if pc = 9 then s_ild 1 10 else s_bad) else (if pc = 10 then s_ild 2 11 else s_bad)) else (if pc < 12 then (if pc = 11 then s_imul 12 else s_bad) else (if pc = 12 then s_ist 1 13 else s_bad))) else (if pc < 19 then (if pc < 16 then (if pc = 13 then s_inc 2 1 16 else s_bad) else (if pc = 16 then s_goto 4 else s_bad)) else (if pc < 20 then (if pc = 19 then s_ild 1 20 else s_bad) else (if pc = 20 then s_iret else s_bad))))
set_option maxRecDepth 20000 in
theorem sX7_howMany : ∀ pc, Snd 0 RX7 cX7_howMany 3 (some .int) (inM "howMany") pc (kX7_howMany pc) := by
  have h0 : Snd 0 RX7 cX7_howMany 3 (some .int) (inM "howMany") 0 (s_push (.int 1) 1) := snd_iconst (n := 1) (by decide +kernel) (by decide)
  have h1 : Snd 0 RX7 cX7_howMany 3 (some .int) (inM "howMany") 1 (s_ist 1 2) := snd_istore_n (j := 1) (by decide +kernel) rfl
  have h2 : Snd 0 RX7 cX7_howMany 3 (some .int) (inM "howMany") 2 (s_push (.int 2) 3) := snd_iconst (n := 2) (by decide +kernel) (by decide)
  have h3 : Snd 0 RX7 cX7_howMany 3 (some .int) (inM "howMany") 3 (s_ist 2 4) := snd_istore_n (j := 2) (by decide +kernel) rfl
  have h4 : Snd 0 RX7 cX7_howMany 3 (some .int) (inM "howMany") 4 (s_ild 2 5) := snd_iload_n (j := 2) (by decide +kernel) rfl
  have h5 : Snd 0 RX7 cX7_howMany 3 (some .int) (inM "howMany") 5 (s_ild 0 6) := snd_iload_n (j := 0) (by decide +kernel) rfl
  have h6 : Snd 0 RX7 cX7_howMany 3 (some .int) (inM "howMany") 6 (s_icgt 19 9) := snd_icgt (off := 13) (by decide +kernel) (by decide)
  have h9 : Snd 0 RX7 cX7_howMany 3 (some .int) (inM "howMany") 9 (s_ild 1 10) := snd_iload_n (j := 1) (by decide +kernel) rfl
  have h10 : Snd 0 RX7 cX7_howMany 3 (some .int) (inM "howMany") 10 (s_ild 2 11) := snd_iload_n (j := 2) (by decide +kernel) rfl
  have h11 : Snd 0 RX7 cX7_howMany 3 (some .int) (inM "howMany") 11 (s_imul 12) := snd_imul (by decide +kernel)
  have h12 : Snd 0 RX7 cX7_howMany 3 (some .int) (inM "howMany") 12 (s_ist 1 13) := snd_istore_n (j := 1) (by decide +kernel) rfl
  have h13 : Snd 0 RX7 cX7_howMany 3 (some .int) (inM "howMany") 13 (s_inc 2 1 16) := snd_iinc (y := 1) (by decide +kernel) (by decide)
  have h16 : Snd 0 RX7 cX7_howMany 3 (some .int) (inM "howMany") 16 (s_goto 4) := snd_goto (off := -12) (by decide +kernel) (by decide)
  have h19 : Snd 0 RX7 cX7_howMany 3 (some .int) (inM "howMany") 19 (s_ild 1 20) := snd_iload_n (j := 1) (by decide +kernel) rfl
  have h20 : Snd 0 RX7 cX7_howMany 3 (some .int) (inM "howMany") 20 (s_iret) := snd_iret (by decide +kernel)
  exact fun pc => snd_ite (snd_ite (snd_ite (snd_leaf (k := 0) h0) (snd_ite (snd_leaf (k := 1) h1) (snd_leaf (k := 2) h2))) (snd_ite (snd_ite (snd_leaf (k := 3) h3) (snd_leaf (k := 4) h4)) (snd_ite (snd_leaf (k := 5) h5) (snd_leaf (k := 6) h6)))) (snd_ite (snd_ite (snd_ite (snd_leaf (k := 9) h9) (snd_leaf (k := 10) h10)) (snd_ite (snd_leaf (k := 11) h11) (snd_leaf (k := 12) h12))) (snd_ite (snd_ite (snd_leaf (k := 13) h13) (snd_leaf (k := 16) h16)) (snd_ite (snd_leaf (k := 19) h19) (snd_leaf (k := 20) h20))))

def kX7_placeOf : Nat → Stq := fun pc => if pc < 12 then (if pc < 4 then (if pc < 2 then (if pc < 1 then (if pc = 0 then s_push (.int 1) 1 else s_bad) else (if pc = 1 then s_ist 3 2 else s_bad)) else (if pc < 3 then (if pc = 2 then s_ild 3 3 else s_bad) else (if pc = 3 then s_ild 2 4 else s_bad))) else (if pc < 8 then (if pc < 7 then (if pc = 4 then s_icge 24 7 else s_bad) else (if pc = 7 then s_ild 3 8 else s_bad)) else (if pc < 9 then (if pc = 8 then s_ild 1 9 else s_bad) else (if pc = 9 then s_inv 2 pX7_bellAt 12 else s_bad)))) else (if pc < 18 then (if pc < 16 then (if pc < 13 then (if pc = 12 then s_ild 0 13 else s_bad) else (if pc = 13 then s_icne 18 16 else s_bad)) else (if pc < 17 then (if pc = 16 then s_ild 3 17 else s_bad) else (if pc = 17 then s_iret else s_bad))) else (if pc < 24 then (if pc < 21 then (if pc = 18 then s_inc 3 1 21 else s_bad) else (if pc = 21 then s_goto 2 else s_bad)) else (if pc < 25 then (if pc = 24 then s_ild 2 25 else s_bad) else (if pc = 25 then s_iret else s_bad))))
set_option maxRecDepth 20000 in
theorem sX7_placeOf : ∀ pc, Snd 1 RX7 cX7_placeOf 4 (some .int) (inM "placeOf") pc (kX7_placeOf pc) := by
  have h0 : Snd 1 RX7 cX7_placeOf 4 (some .int) (inM "placeOf") 0 (s_push (.int 1) 1) := snd_iconst (n := 1) (by decide +kernel) (by decide)
  have h1 : Snd 1 RX7 cX7_placeOf 4 (some .int) (inM "placeOf") 1 (s_ist 3 2) := snd_istore_n (j := 3) (by decide +kernel) rfl
  have h2 : Snd 1 RX7 cX7_placeOf 4 (some .int) (inM "placeOf") 2 (s_ild 3 3) := snd_iload_n (j := 3) (by decide +kernel) rfl
  have h3 : Snd 1 RX7 cX7_placeOf 4 (some .int) (inM "placeOf") 3 (s_ild 2 4) := snd_iload_n (j := 2) (by decide +kernel) rfl
  have h4 : Snd 1 RX7 cX7_placeOf 4 (some .int) (inM "placeOf") 4 (s_icge 24 7) := snd_icge (off := 20) (by decide +kernel) (by decide)
  have h7 : Snd 1 RX7 cX7_placeOf 4 (some .int) (inM "placeOf") 7 (s_ild 3 8) := snd_iload_n (j := 3) (by decide +kernel) rfl
  have h8 : Snd 1 RX7 cX7_placeOf 4 (some .int) (inM "placeOf") 8 (s_ild 1 9) := snd_iload_n (j := 1) (by decide +kernel) rfl
  have h9 : Snd 1 RX7 cX7_placeOf 4 (some .int) (inM "placeOf") 9 (s_inv 2 pX7_bellAt 12) := snd_invs oX7_bellAt (by decide) (by decide) g_528 g_526 g_527 g_80 ⟨by decide, by decide, by decide +kernel⟩ (by decide +kernel)
  have h12 : Snd 1 RX7 cX7_placeOf 4 (some .int) (inM "placeOf") 12 (s_ild 0 13) := snd_iload_n (j := 0) (by decide +kernel) rfl
  have h13 : Snd 1 RX7 cX7_placeOf 4 (some .int) (inM "placeOf") 13 (s_icne 18 16) := snd_icne (off := 5) (by decide +kernel) (by decide)
  have h16 : Snd 1 RX7 cX7_placeOf 4 (some .int) (inM "placeOf") 16 (s_ild 3 17) := snd_iload_n (j := 3) (by decide +kernel) rfl
  have h17 : Snd 1 RX7 cX7_placeOf 4 (some .int) (inM "placeOf") 17 (s_iret) := snd_iret (by decide +kernel)
  have h18 : Snd 1 RX7 cX7_placeOf 4 (some .int) (inM "placeOf") 18 (s_inc 3 1 21) := snd_iinc (y := 1) (by decide +kernel) (by decide)
  have h21 : Snd 1 RX7 cX7_placeOf 4 (some .int) (inM "placeOf") 21 (s_goto 2) := snd_goto (off := -19) (by decide +kernel) (by decide)
  have h24 : Snd 1 RX7 cX7_placeOf 4 (some .int) (inM "placeOf") 24 (s_ild 2 25) := snd_iload_n (j := 2) (by decide +kernel) rfl
  have h25 : Snd 1 RX7 cX7_placeOf 4 (some .int) (inM "placeOf") 25 (s_iret) := snd_iret (by decide +kernel)
  exact fun pc => snd_ite (snd_ite (snd_ite (snd_ite (snd_leaf (k := 0) h0) (snd_leaf (k := 1) h1)) (snd_ite (snd_leaf (k := 2) h2) (snd_leaf (k := 3) h3))) (snd_ite (snd_ite (snd_leaf (k := 4) h4) (snd_leaf (k := 7) h7)) (snd_ite (snd_leaf (k := 8) h8) (snd_leaf (k := 9) h9)))) (snd_ite (snd_ite (snd_ite (snd_leaf (k := 12) h12) (snd_leaf (k := 13) h13)) (snd_ite (snd_leaf (k := 16) h16) (snd_leaf (k := 17) h17))) (snd_ite (snd_ite (snd_leaf (k := 18) h18) (snd_leaf (k := 21) h21)) (snd_ite (snd_leaf (k := 24) h24) (snd_leaf (k := 25) h25))))

def kX7_number : Nat → Stq := fun pc => if pc < 12 then (if pc < 4 then (if pc < 2 then (if pc < 1 then (if pc = 0 then s_push (.int 0) 1 else s_bad) else (if pc = 1 then s_ist 2 2 else s_bad)) else (if pc < 3 then (if pc = 2 then s_push (.int 1) 3 else s_bad) else (if pc = 3 then s_ist 3 4 else s_bad))) else (if pc < 6 then (if pc < 5 then (if pc = 4 then s_ild 3 5 else s_bad) else (if pc = 5 then s_ild 1 6 else s_bad)) else (if pc < 9 then (if pc = 6 then s_icgt 26 9 else s_bad) else (if pc < 10 then (if pc = 9 then s_ild 2 10 else s_bad) else (if pc = 10 then s_push (.int 10) 12 else s_bad))))) else (if pc < 19 then (if pc < 14 then (if pc < 13 then (if pc = 12 then s_imul 13 else s_bad) else (if pc = 13 then s_ild 3 14 else s_bad)) else (if pc < 15 then (if pc = 14 then s_ild 0 15 else s_bad) else (if pc < 18 then (if pc = 15 then s_inv 2 pX7_bellAt 18 else s_bad) else (if pc = 18 then s_iadd 19 else s_bad)))) else (if pc < 23 then (if pc < 20 then (if pc = 19 then s_ist 2 20 else s_bad) else (if pc = 20 then s_inc 3 1 23 else s_bad)) else (if pc < 26 then (if pc = 23 then s_goto 4 else s_bad) else (if pc < 27 then (if pc = 26 then s_ild 2 27 else s_bad) else (if pc = 27 then s_iret else s_bad)))))
set_option maxRecDepth 20000 in
theorem sX7_number : ∀ pc, Snd 1 RX7 cX7_number 4 (some .int) (inM "number") pc (kX7_number pc) := by
  have h0 : Snd 1 RX7 cX7_number 4 (some .int) (inM "number") 0 (s_push (.int 0) 1) := snd_iconst (n := 0) (by decide +kernel) (by decide)
  have h1 : Snd 1 RX7 cX7_number 4 (some .int) (inM "number") 1 (s_ist 2 2) := snd_istore_n (j := 2) (by decide +kernel) rfl
  have h2 : Snd 1 RX7 cX7_number 4 (some .int) (inM "number") 2 (s_push (.int 1) 3) := snd_iconst (n := 1) (by decide +kernel) (by decide)
  have h3 : Snd 1 RX7 cX7_number 4 (some .int) (inM "number") 3 (s_ist 3 4) := snd_istore_n (j := 3) (by decide +kernel) rfl
  have h4 : Snd 1 RX7 cX7_number 4 (some .int) (inM "number") 4 (s_ild 3 5) := snd_iload_n (j := 3) (by decide +kernel) rfl
  have h5 : Snd 1 RX7 cX7_number 4 (some .int) (inM "number") 5 (s_ild 1 6) := snd_iload_n (j := 1) (by decide +kernel) rfl
  have h6 : Snd 1 RX7 cX7_number 4 (some .int) (inM "number") 6 (s_icgt 26 9) := snd_icgt (off := 20) (by decide +kernel) (by decide)
  have h9 : Snd 1 RX7 cX7_number 4 (some .int) (inM "number") 9 (s_ild 2 10) := snd_iload_n (j := 2) (by decide +kernel) rfl
  have h10 : Snd 1 RX7 cX7_number 4 (some .int) (inM "number") 10 (s_push (.int 10) 12) := snd_bipush (n := 10) (by decide +kernel) (by decide)
  have h12 : Snd 1 RX7 cX7_number 4 (some .int) (inM "number") 12 (s_imul 13) := snd_imul (by decide +kernel)
  have h13 : Snd 1 RX7 cX7_number 4 (some .int) (inM "number") 13 (s_ild 3 14) := snd_iload_n (j := 3) (by decide +kernel) rfl
  have h14 : Snd 1 RX7 cX7_number 4 (some .int) (inM "number") 14 (s_ild 0 15) := snd_iload_n (j := 0) (by decide +kernel) rfl
  have h15 : Snd 1 RX7 cX7_number 4 (some .int) (inM "number") 15 (s_inv 2 pX7_bellAt 18) := snd_invs oX7_bellAt (by decide) (by decide) g_528 g_526 g_527 g_80 ⟨by decide, by decide, by decide +kernel⟩ (by decide +kernel)
  have h18 : Snd 1 RX7 cX7_number 4 (some .int) (inM "number") 18 (s_iadd 19) := snd_iadd (by decide +kernel)
  have h19 : Snd 1 RX7 cX7_number 4 (some .int) (inM "number") 19 (s_ist 2 20) := snd_istore_n (j := 2) (by decide +kernel) rfl
  have h20 : Snd 1 RX7 cX7_number 4 (some .int) (inM "number") 20 (s_inc 3 1 23) := snd_iinc (y := 1) (by decide +kernel) (by decide)
  have h23 : Snd 1 RX7 cX7_number 4 (some .int) (inM "number") 23 (s_goto 4) := snd_goto (off := -19) (by decide +kernel) (by decide)
  have h26 : Snd 1 RX7 cX7_number 4 (some .int) (inM "number") 26 (s_ild 2 27) := snd_iload_n (j := 2) (by decide +kernel) rfl
  have h27 : Snd 1 RX7 cX7_number 4 (some .int) (inM "number") 27 (s_iret) := snd_iret (by decide +kernel)
  exact fun pc => snd_ite (snd_ite (snd_ite (snd_ite (snd_leaf (k := 0) h0) (snd_leaf (k := 1) h1)) (snd_ite (snd_leaf (k := 2) h2) (snd_leaf (k := 3) h3))) (snd_ite (snd_ite (snd_leaf (k := 4) h4) (snd_leaf (k := 5) h5)) (snd_ite (snd_leaf (k := 6) h6) (snd_ite (snd_leaf (k := 9) h9) (snd_leaf (k := 10) h10))))) (snd_ite (snd_ite (snd_ite (snd_leaf (k := 12) h12) (snd_leaf (k := 13) h13)) (snd_ite (snd_leaf (k := 14) h14) (snd_ite (snd_leaf (k := 15) h15) (snd_leaf (k := 18) h18)))) (snd_ite (snd_ite (snd_leaf (k := 19) h19) (snd_leaf (k := 20) h20)) (snd_ite (snd_leaf (k := 23) h23) (snd_ite (snd_leaf (k := 26) h26) (snd_leaf (k := 27) h27)))))

def kX7_ofNumber : Nat → Stq := fun pc => if pc < 47 then (if pc < 22 then (if pc < 8 then (if pc < 3 then (if pc < 1 then (if pc = 0 then s_push (.int 0) 1 else s_bad) else (if pc < 2 then (if pc = 1 then s_ist 2 2 else s_bad) else (if pc = 2 then s_ild 0 3 else s_bad))) else (if pc < 5 then (if pc < 4 then (if pc = 3 then s_ist 3 4 else s_bad) else (if pc = 4 then s_push (.int 0) 5 else s_bad)) else (if pc < 7 then (if pc = 5 then s_ist 4 7 else s_bad) else (if pc = 7 then s_ild 1 8 else s_bad)))) else (if pc < 16 then (if pc < 12 then (if pc < 10 then (if pc = 8 then s_ist 5 10 else s_bad) else (if pc = 10 then s_ild 5 12 else s_bad)) else (if pc < 13 then (if pc = 12 then s_push (.int 1) 13 else s_bad) else (if pc = 13 then s_iclt 81 16 else s_bad))) else (if pc < 19 then (if pc < 17 then (if pc = 16 then s_ild 3 17 else s_bad) else (if pc = 17 then s_push (.int 10) 19 else s_bad)) else (if pc < 20 then (if pc = 19 then s_irem 20 else s_bad) else (if pc = 20 then s_ist 6 22 else s_bad))))) else (if pc < 36 then (if pc < 28 then (if pc < 24 then (if pc = 22 then s_ild 6 24 else s_bad) else (if pc < 25 then (if pc = 24 then s_push (.int 1) 25 else s_bad) else (if pc = 25 then s_iclt 45 28 else s_bad))) else (if pc < 31 then (if pc < 30 then (if pc = 28 then s_ild 6 30 else s_bad) else (if pc = 30 then s_ild 1 31 else s_bad)) else (if pc < 34 then (if pc = 31 then s_icgt 45 34 else s_bad) else (if pc = 34 then s_ild 4 36 else s_bad)))) else (if pc < 41 then (if pc < 39 then (if pc < 38 then (if pc = 36 then s_ild 6 38 else s_bad) else (if pc = 38 then s_ishr 39 else s_bad)) else (if pc < 40 then (if pc = 39 then s_push (.int 1) 40 else s_bad) else (if pc = 40 then s_iand 41 else s_bad))) else (if pc < 45 then (if pc < 42 then (if pc = 41 then s_push (.int 1) 42 else s_bad) else (if pc = 42 then s_icne 47 45 else s_bad)) else (if pc < 46 then (if pc = 45 then s_push (.int (-1)) 46 else s_bad) else (if pc = 46 then s_iret else s_bad)))))) else (if pc < 67 then (if pc < 57 then (if pc < 52 then (if pc < 49 then (if pc = 47 then s_ild 4 49 else s_bad) else (if pc < 50 then (if pc = 49 then s_push (.int 1) 50 else s_bad) else (if pc = 50 then s_ild 6 52 else s_bad))) else (if pc < 54 then (if pc < 53 then (if pc = 52 then s_ishl 53 else s_bad) else (if pc = 53 then s_ior 54 else s_bad)) else (if pc < 56 then (if pc = 54 then s_ist 4 56 else s_bad) else (if pc = 56 then s_ild 2 57 else s_bad)))) else (if pc < 62 then (if pc < 60 then (if pc < 59 then (if pc = 57 then s_ild 6 59 else s_bad) else (if pc = 59 then s_push (.int 1) 60 else s_bad)) else (if pc < 61 then (if pc = 60 then s_isub 61 else s_bad) else (if pc = 61 then s_push (.int 3) 62 else s_bad))) else (if pc < 65 then (if pc < 64 then (if pc = 62 then s_ild 5 64 else s_bad) else (if pc = 64 then s_push (.int 1) 65 else s_bad)) else (if pc < 66 then (if pc = 65 then s_isub 66 else s_bad) else (if pc = 66 then s_imul 67 else s_bad))))) else (if pc < 75 then (if pc < 70 then (if pc < 68 then (if pc = 67 then s_ishl 68 else s_bad) else (if pc < 69 then (if pc = 68 then s_ior 69 else s_bad) else (if pc = 69 then s_ist 2 70 else s_bad))) else (if pc < 73 then (if pc < 71 then (if pc = 70 then s_ild 3 71 else s_bad) else (if pc = 71 then s_push (.int 10) 73 else s_bad)) else (if pc < 74 then (if pc = 73 then s_idiv 74 else s_bad) else (if pc = 74 then s_ist 3 75 else s_bad)))) else (if pc < 85 then (if pc < 81 then (if pc < 78 then (if pc = 75 then s_inc 5 (-1) 78 else s_bad) else (if pc = 78 then s_goto 10 else s_bad)) else (if pc < 82 then (if pc = 81 then s_ild 3 82 else s_bad) else (if pc = 82 then s_ifne 89 85 else s_bad))) else (if pc < 89 then (if pc < 86 then (if pc = 85 then s_ild 2 86 else s_bad) else (if pc = 86 then s_goto 90 else s_bad)) else (if pc < 90 then (if pc = 89 then s_push (.int (-1)) 90 else s_bad) else (if pc = 90 then s_iret else s_bad))))))
set_option maxRecDepth 20000 in
theorem sX7_ofNumber : ∀ pc, Snd 0 RX7 cX7_ofNumber 7 (some .int) (inM "ofNumber") pc (kX7_ofNumber pc) := by
  have h0 : Snd 0 RX7 cX7_ofNumber 7 (some .int) (inM "ofNumber") 0 (s_push (.int 0) 1) := snd_iconst (n := 0) (by decide +kernel) (by decide)
  have h1 : Snd 0 RX7 cX7_ofNumber 7 (some .int) (inM "ofNumber") 1 (s_ist 2 2) := snd_istore_n (j := 2) (by decide +kernel) rfl
  have h2 : Snd 0 RX7 cX7_ofNumber 7 (some .int) (inM "ofNumber") 2 (s_ild 0 3) := snd_iload_n (j := 0) (by decide +kernel) rfl
  have h3 : Snd 0 RX7 cX7_ofNumber 7 (some .int) (inM "ofNumber") 3 (s_ist 3 4) := snd_istore_n (j := 3) (by decide +kernel) rfl
  have h4 : Snd 0 RX7 cX7_ofNumber 7 (some .int) (inM "ofNumber") 4 (s_push (.int 0) 5) := snd_iconst (n := 0) (by decide +kernel) (by decide)
  have h5 : Snd 0 RX7 cX7_ofNumber 7 (some .int) (inM "ofNumber") 5 (s_ist 4 7) := snd_istore (by decide +kernel)
  have h7 : Snd 0 RX7 cX7_ofNumber 7 (some .int) (inM "ofNumber") 7 (s_ild 1 8) := snd_iload_n (j := 1) (by decide +kernel) rfl
  have h8 : Snd 0 RX7 cX7_ofNumber 7 (some .int) (inM "ofNumber") 8 (s_ist 5 10) := snd_istore (by decide +kernel)
  have h10 : Snd 0 RX7 cX7_ofNumber 7 (some .int) (inM "ofNumber") 10 (s_ild 5 12) := snd_iload (by decide +kernel)
  have h12 : Snd 0 RX7 cX7_ofNumber 7 (some .int) (inM "ofNumber") 12 (s_push (.int 1) 13) := snd_iconst (n := 1) (by decide +kernel) (by decide)
  have h13 : Snd 0 RX7 cX7_ofNumber 7 (some .int) (inM "ofNumber") 13 (s_iclt 81 16) := snd_iclt (off := 68) (by decide +kernel) (by decide)
  have h16 : Snd 0 RX7 cX7_ofNumber 7 (some .int) (inM "ofNumber") 16 (s_ild 3 17) := snd_iload_n (j := 3) (by decide +kernel) rfl
  have h17 : Snd 0 RX7 cX7_ofNumber 7 (some .int) (inM "ofNumber") 17 (s_push (.int 10) 19) := snd_bipush (n := 10) (by decide +kernel) (by decide)
  have h19 : Snd 0 RX7 cX7_ofNumber 7 (some .int) (inM "ofNumber") 19 (s_irem 20) := snd_irem (by decide +kernel)
  have h20 : Snd 0 RX7 cX7_ofNumber 7 (some .int) (inM "ofNumber") 20 (s_ist 6 22) := snd_istore (by decide +kernel)
  have h22 : Snd 0 RX7 cX7_ofNumber 7 (some .int) (inM "ofNumber") 22 (s_ild 6 24) := snd_iload (by decide +kernel)
  have h24 : Snd 0 RX7 cX7_ofNumber 7 (some .int) (inM "ofNumber") 24 (s_push (.int 1) 25) := snd_iconst (n := 1) (by decide +kernel) (by decide)
  have h25 : Snd 0 RX7 cX7_ofNumber 7 (some .int) (inM "ofNumber") 25 (s_iclt 45 28) := snd_iclt (off := 20) (by decide +kernel) (by decide)
  have h28 : Snd 0 RX7 cX7_ofNumber 7 (some .int) (inM "ofNumber") 28 (s_ild 6 30) := snd_iload (by decide +kernel)
  have h30 : Snd 0 RX7 cX7_ofNumber 7 (some .int) (inM "ofNumber") 30 (s_ild 1 31) := snd_iload_n (j := 1) (by decide +kernel) rfl
  have h31 : Snd 0 RX7 cX7_ofNumber 7 (some .int) (inM "ofNumber") 31 (s_icgt 45 34) := snd_icgt (off := 14) (by decide +kernel) (by decide)
  have h34 : Snd 0 RX7 cX7_ofNumber 7 (some .int) (inM "ofNumber") 34 (s_ild 4 36) := snd_iload (by decide +kernel)
  have h36 : Snd 0 RX7 cX7_ofNumber 7 (some .int) (inM "ofNumber") 36 (s_ild 6 38) := snd_iload (by decide +kernel)
  have h38 : Snd 0 RX7 cX7_ofNumber 7 (some .int) (inM "ofNumber") 38 (s_ishr 39) := snd_ishr (by decide +kernel)
  have h39 : Snd 0 RX7 cX7_ofNumber 7 (some .int) (inM "ofNumber") 39 (s_push (.int 1) 40) := snd_iconst (n := 1) (by decide +kernel) (by decide)
  have h40 : Snd 0 RX7 cX7_ofNumber 7 (some .int) (inM "ofNumber") 40 (s_iand 41) := snd_iand (by decide +kernel)
  have h41 : Snd 0 RX7 cX7_ofNumber 7 (some .int) (inM "ofNumber") 41 (s_push (.int 1) 42) := snd_iconst (n := 1) (by decide +kernel) (by decide)
  have h42 : Snd 0 RX7 cX7_ofNumber 7 (some .int) (inM "ofNumber") 42 (s_icne 47 45) := snd_icne (off := 5) (by decide +kernel) (by decide)
  have h45 : Snd 0 RX7 cX7_ofNumber 7 (some .int) (inM "ofNumber") 45 (s_push (.int (-1)) 46) := snd_iconst (n := -1) (by decide +kernel) (by decide)
  have h46 : Snd 0 RX7 cX7_ofNumber 7 (some .int) (inM "ofNumber") 46 (s_iret) := snd_iret (by decide +kernel)
  have h47 : Snd 0 RX7 cX7_ofNumber 7 (some .int) (inM "ofNumber") 47 (s_ild 4 49) := snd_iload (by decide +kernel)
  have h49 : Snd 0 RX7 cX7_ofNumber 7 (some .int) (inM "ofNumber") 49 (s_push (.int 1) 50) := snd_iconst (n := 1) (by decide +kernel) (by decide)
  have h50 : Snd 0 RX7 cX7_ofNumber 7 (some .int) (inM "ofNumber") 50 (s_ild 6 52) := snd_iload (by decide +kernel)
  have h52 : Snd 0 RX7 cX7_ofNumber 7 (some .int) (inM "ofNumber") 52 (s_ishl 53) := snd_ishl (by decide +kernel)
  have h53 : Snd 0 RX7 cX7_ofNumber 7 (some .int) (inM "ofNumber") 53 (s_ior 54) := snd_ior (by decide +kernel)
  have h54 : Snd 0 RX7 cX7_ofNumber 7 (some .int) (inM "ofNumber") 54 (s_ist 4 56) := snd_istore (by decide +kernel)
  have h56 : Snd 0 RX7 cX7_ofNumber 7 (some .int) (inM "ofNumber") 56 (s_ild 2 57) := snd_iload_n (j := 2) (by decide +kernel) rfl
  have h57 : Snd 0 RX7 cX7_ofNumber 7 (some .int) (inM "ofNumber") 57 (s_ild 6 59) := snd_iload (by decide +kernel)
  have h59 : Snd 0 RX7 cX7_ofNumber 7 (some .int) (inM "ofNumber") 59 (s_push (.int 1) 60) := snd_iconst (n := 1) (by decide +kernel) (by decide)
  have h60 : Snd 0 RX7 cX7_ofNumber 7 (some .int) (inM "ofNumber") 60 (s_isub 61) := snd_isub (by decide +kernel)
  have h61 : Snd 0 RX7 cX7_ofNumber 7 (some .int) (inM "ofNumber") 61 (s_push (.int 3) 62) := snd_iconst (n := 3) (by decide +kernel) (by decide)
  have h62 : Snd 0 RX7 cX7_ofNumber 7 (some .int) (inM "ofNumber") 62 (s_ild 5 64) := snd_iload (by decide +kernel)
  have h64 : Snd 0 RX7 cX7_ofNumber 7 (some .int) (inM "ofNumber") 64 (s_push (.int 1) 65) := snd_iconst (n := 1) (by decide +kernel) (by decide)
  have h65 : Snd 0 RX7 cX7_ofNumber 7 (some .int) (inM "ofNumber") 65 (s_isub 66) := snd_isub (by decide +kernel)
  have h66 : Snd 0 RX7 cX7_ofNumber 7 (some .int) (inM "ofNumber") 66 (s_imul 67) := snd_imul (by decide +kernel)
  have h67 : Snd 0 RX7 cX7_ofNumber 7 (some .int) (inM "ofNumber") 67 (s_ishl 68) := snd_ishl (by decide +kernel)
  have h68 : Snd 0 RX7 cX7_ofNumber 7 (some .int) (inM "ofNumber") 68 (s_ior 69) := snd_ior (by decide +kernel)
  have h69 : Snd 0 RX7 cX7_ofNumber 7 (some .int) (inM "ofNumber") 69 (s_ist 2 70) := snd_istore_n (j := 2) (by decide +kernel) rfl
  have h70 : Snd 0 RX7 cX7_ofNumber 7 (some .int) (inM "ofNumber") 70 (s_ild 3 71) := snd_iload_n (j := 3) (by decide +kernel) rfl
  have h71 : Snd 0 RX7 cX7_ofNumber 7 (some .int) (inM "ofNumber") 71 (s_push (.int 10) 73) := snd_bipush (n := 10) (by decide +kernel) (by decide)
  have h73 : Snd 0 RX7 cX7_ofNumber 7 (some .int) (inM "ofNumber") 73 (s_idiv 74) := snd_idiv (by decide +kernel)
  have h74 : Snd 0 RX7 cX7_ofNumber 7 (some .int) (inM "ofNumber") 74 (s_ist 3 75) := snd_istore_n (j := 3) (by decide +kernel) rfl
  have h75 : Snd 0 RX7 cX7_ofNumber 7 (some .int) (inM "ofNumber") 75 (s_inc 5 (-1) 78) := snd_iinc (y := -1) (by decide +kernel) (by decide)
  have h78 : Snd 0 RX7 cX7_ofNumber 7 (some .int) (inM "ofNumber") 78 (s_goto 10) := snd_goto (off := -68) (by decide +kernel) (by decide)
  have h81 : Snd 0 RX7 cX7_ofNumber 7 (some .int) (inM "ofNumber") 81 (s_ild 3 82) := snd_iload_n (j := 3) (by decide +kernel) rfl
  have h82 : Snd 0 RX7 cX7_ofNumber 7 (some .int) (inM "ofNumber") 82 (s_ifne 89 85) := snd_ifne (off := 7) (by decide +kernel) (by decide)
  have h85 : Snd 0 RX7 cX7_ofNumber 7 (some .int) (inM "ofNumber") 85 (s_ild 2 86) := snd_iload_n (j := 2) (by decide +kernel) rfl
  have h86 : Snd 0 RX7 cX7_ofNumber 7 (some .int) (inM "ofNumber") 86 (s_goto 90) := snd_goto (off := 4) (by decide +kernel) (by decide)
  have h89 : Snd 0 RX7 cX7_ofNumber 7 (some .int) (inM "ofNumber") 89 (s_push (.int (-1)) 90) := snd_iconst (n := -1) (by decide +kernel) (by decide)
  have h90 : Snd 0 RX7 cX7_ofNumber 7 (some .int) (inM "ofNumber") 90 (s_iret) := snd_iret (by decide +kernel)
  exact fun pc => snd_ite (snd_ite (snd_ite (snd_ite (snd_ite (snd_leaf (k := 0) h0) (snd_ite (snd_leaf (k := 1) h1) (snd_leaf (k := 2) h2))) (snd_ite (snd_ite (snd_leaf (k := 3) h3) (snd_leaf (k := 4) h4)) (snd_ite (snd_leaf (k := 5) h5) (snd_leaf (k := 7) h7)))) (snd_ite (snd_ite (snd_ite (snd_leaf (k := 8) h8) (snd_leaf (k := 10) h10)) (snd_ite (snd_leaf (k := 12) h12) (snd_leaf (k := 13) h13))) (snd_ite (snd_ite (snd_leaf (k := 16) h16) (snd_leaf (k := 17) h17)) (snd_ite (snd_leaf (k := 19) h19) (snd_leaf (k := 20) h20))))) (snd_ite (snd_ite (snd_ite (snd_leaf (k := 22) h22) (snd_ite (snd_leaf (k := 24) h24) (snd_leaf (k := 25) h25))) (snd_ite (snd_ite (snd_leaf (k := 28) h28) (snd_leaf (k := 30) h30)) (snd_ite (snd_leaf (k := 31) h31) (snd_leaf (k := 34) h34)))) (snd_ite (snd_ite (snd_ite (snd_leaf (k := 36) h36) (snd_leaf (k := 38) h38)) (snd_ite (snd_leaf (k := 39) h39) (snd_leaf (k := 40) h40))) (snd_ite (snd_ite (snd_leaf (k := 41) h41) (snd_leaf (k := 42) h42)) (snd_ite (snd_leaf (k := 45) h45) (snd_leaf (k := 46) h46)))))) (snd_ite (snd_ite (snd_ite (snd_ite (snd_leaf (k := 47) h47) (snd_ite (snd_leaf (k := 49) h49) (snd_leaf (k := 50) h50))) (snd_ite (snd_ite (snd_leaf (k := 52) h52) (snd_leaf (k := 53) h53)) (snd_ite (snd_leaf (k := 54) h54) (snd_leaf (k := 56) h56)))) (snd_ite (snd_ite (snd_ite (snd_leaf (k := 57) h57) (snd_leaf (k := 59) h59)) (snd_ite (snd_leaf (k := 60) h60) (snd_leaf (k := 61) h61))) (snd_ite (snd_ite (snd_leaf (k := 62) h62) (snd_leaf (k := 64) h64)) (snd_ite (snd_leaf (k := 65) h65) (snd_leaf (k := 66) h66))))) (snd_ite (snd_ite (snd_ite (snd_leaf (k := 67) h67) (snd_ite (snd_leaf (k := 68) h68) (snd_leaf (k := 69) h69))) (snd_ite (snd_ite (snd_leaf (k := 70) h70) (snd_leaf (k := 71) h71)) (snd_ite (snd_leaf (k := 73) h73) (snd_leaf (k := 74) h74)))) (snd_ite (snd_ite (snd_ite (snd_leaf (k := 75) h75) (snd_leaf (k := 78) h78)) (snd_ite (snd_leaf (k := 81) h81) (snd_leaf (k := 82) h82))) (snd_ite (snd_ite (snd_leaf (k := 85) h85) (snd_leaf (k := 86) h86)) (snd_ite (snd_leaf (k := 89) h89) (snd_leaf (k := 90) h90))))))

def kX7_through : Nat → Stq := fun pc => if pc < 21 then (if pc < 8 then (if pc < 3 then (if pc < 1 then (if pc = 0 then s_push (.int 0) 1 else s_bad) else (if pc < 2 then (if pc = 1 then s_ist 3 2 else s_bad) else (if pc = 2 then s_push (.int 3) 3 else s_bad))) else (if pc < 5 then (if pc < 4 then (if pc = 3 then s_ild 2 4 else s_bad) else (if pc = 4 then s_imul 5 else s_bad)) else (if pc < 7 then (if pc = 5 then s_ist 4 7 else s_bad) else (if pc = 7 then s_push (.int 0) 8 else s_bad)))) else (if pc < 17 then (if pc < 12 then (if pc < 10 then (if pc = 8 then s_ist 5 10 else s_bad) else (if pc = 10 then s_ild 5 12 else s_bad)) else (if pc < 14 then (if pc = 12 then s_ild 4 14 else s_bad) else (if pc = 14 then s_icge 43 17 else s_bad))) else (if pc < 19 then (if pc < 18 then (if pc = 17 then s_ild 3 18 else s_bad) else (if pc = 18 then s_ild 0 19 else s_bad)) else (if pc < 20 then (if pc = 19 then s_push (.int 3) 20 else s_bad) else (if pc = 20 then s_ild 1 21 else s_bad))))) else (if pc < 32 then (if pc < 27 then (if pc < 24 then (if pc < 23 then (if pc = 21 then s_ild 5 23 else s_bad) else (if pc = 23 then s_iushr 24 else s_bad)) else (if pc < 26 then (if pc = 24 then s_push (.int 7) 26 else s_bad) else (if pc = 26 then s_iand 27 else s_bad))) else (if pc < 29 then (if pc < 28 then (if pc = 27 then s_imul 28 else s_bad) else (if pc = 28 then s_iushr 29 else s_bad)) else (if pc < 31 then (if pc = 29 then s_push (.int 7) 31 else s_bad) else (if pc = 31 then s_iand 32 else s_bad)))) else (if pc < 37 then (if pc < 35 then (if pc < 34 then (if pc = 32 then s_ild 5 34 else s_bad) else (if pc = 34 then s_ishl 35 else s_bad)) else (if pc < 36 then (if pc = 35 then s_ior 36 else s_bad) else (if pc = 36 then s_ist 3 37 else s_bad))) else (if pc < 43 then (if pc < 40 then (if pc = 37 then s_inc 5 3 40 else s_bad) else (if pc = 40 then s_goto 10 else s_bad)) else (if pc < 44 then (if pc = 43 then s_ild 3 44 else s_bad) else (if pc = 44 then s_iret else s_bad)))))
set_option maxRecDepth 20000 in
theorem sX7_through : ∀ pc, Snd 0 RX7 cX7_through 6 (some .int) (inM "through") pc (kX7_through pc) := by
  have h0 : Snd 0 RX7 cX7_through 6 (some .int) (inM "through") 0 (s_push (.int 0) 1) := snd_iconst (n := 0) (by decide +kernel) (by decide)
  have h1 : Snd 0 RX7 cX7_through 6 (some .int) (inM "through") 1 (s_ist 3 2) := snd_istore_n (j := 3) (by decide +kernel) rfl
  have h2 : Snd 0 RX7 cX7_through 6 (some .int) (inM "through") 2 (s_push (.int 3) 3) := snd_iconst (n := 3) (by decide +kernel) (by decide)
  have h3 : Snd 0 RX7 cX7_through 6 (some .int) (inM "through") 3 (s_ild 2 4) := snd_iload_n (j := 2) (by decide +kernel) rfl
  have h4 : Snd 0 RX7 cX7_through 6 (some .int) (inM "through") 4 (s_imul 5) := snd_imul (by decide +kernel)
  have h5 : Snd 0 RX7 cX7_through 6 (some .int) (inM "through") 5 (s_ist 4 7) := snd_istore (by decide +kernel)
  have h7 : Snd 0 RX7 cX7_through 6 (some .int) (inM "through") 7 (s_push (.int 0) 8) := snd_iconst (n := 0) (by decide +kernel) (by decide)
  have h8 : Snd 0 RX7 cX7_through 6 (some .int) (inM "through") 8 (s_ist 5 10) := snd_istore (by decide +kernel)
  have h10 : Snd 0 RX7 cX7_through 6 (some .int) (inM "through") 10 (s_ild 5 12) := snd_iload (by decide +kernel)
  have h12 : Snd 0 RX7 cX7_through 6 (some .int) (inM "through") 12 (s_ild 4 14) := snd_iload (by decide +kernel)
  have h14 : Snd 0 RX7 cX7_through 6 (some .int) (inM "through") 14 (s_icge 43 17) := snd_icge (off := 29) (by decide +kernel) (by decide)
  have h17 : Snd 0 RX7 cX7_through 6 (some .int) (inM "through") 17 (s_ild 3 18) := snd_iload_n (j := 3) (by decide +kernel) rfl
  have h18 : Snd 0 RX7 cX7_through 6 (some .int) (inM "through") 18 (s_ild 0 19) := snd_iload_n (j := 0) (by decide +kernel) rfl
  have h19 : Snd 0 RX7 cX7_through 6 (some .int) (inM "through") 19 (s_push (.int 3) 20) := snd_iconst (n := 3) (by decide +kernel) (by decide)
  have h20 : Snd 0 RX7 cX7_through 6 (some .int) (inM "through") 20 (s_ild 1 21) := snd_iload_n (j := 1) (by decide +kernel) rfl
  have h21 : Snd 0 RX7 cX7_through 6 (some .int) (inM "through") 21 (s_ild 5 23) := snd_iload (by decide +kernel)
  have h23 : Snd 0 RX7 cX7_through 6 (some .int) (inM "through") 23 (s_iushr 24) := snd_iushr (by decide +kernel)
  have h24 : Snd 0 RX7 cX7_through 6 (some .int) (inM "through") 24 (s_push (.int 7) 26) := snd_bipush (n := 7) (by decide +kernel) (by decide)
  have h26 : Snd 0 RX7 cX7_through 6 (some .int) (inM "through") 26 (s_iand 27) := snd_iand (by decide +kernel)
  have h27 : Snd 0 RX7 cX7_through 6 (some .int) (inM "through") 27 (s_imul 28) := snd_imul (by decide +kernel)
  have h28 : Snd 0 RX7 cX7_through 6 (some .int) (inM "through") 28 (s_iushr 29) := snd_iushr (by decide +kernel)
  have h29 : Snd 0 RX7 cX7_through 6 (some .int) (inM "through") 29 (s_push (.int 7) 31) := snd_bipush (n := 7) (by decide +kernel) (by decide)
  have h31 : Snd 0 RX7 cX7_through 6 (some .int) (inM "through") 31 (s_iand 32) := snd_iand (by decide +kernel)
  have h32 : Snd 0 RX7 cX7_through 6 (some .int) (inM "through") 32 (s_ild 5 34) := snd_iload (by decide +kernel)
  have h34 : Snd 0 RX7 cX7_through 6 (some .int) (inM "through") 34 (s_ishl 35) := snd_ishl (by decide +kernel)
  have h35 : Snd 0 RX7 cX7_through 6 (some .int) (inM "through") 35 (s_ior 36) := snd_ior (by decide +kernel)
  have h36 : Snd 0 RX7 cX7_through 6 (some .int) (inM "through") 36 (s_ist 3 37) := snd_istore_n (j := 3) (by decide +kernel) rfl
  have h37 : Snd 0 RX7 cX7_through 6 (some .int) (inM "through") 37 (s_inc 5 3 40) := snd_iinc (y := 3) (by decide +kernel) (by decide)
  have h40 : Snd 0 RX7 cX7_through 6 (some .int) (inM "through") 40 (s_goto 10) := snd_goto (off := -30) (by decide +kernel) (by decide)
  have h43 : Snd 0 RX7 cX7_through 6 (some .int) (inM "through") 43 (s_ild 3 44) := snd_iload_n (j := 3) (by decide +kernel) rfl
  have h44 : Snd 0 RX7 cX7_through 6 (some .int) (inM "through") 44 (s_iret) := snd_iret (by decide +kernel)
  exact fun pc => snd_ite (snd_ite (snd_ite (snd_ite (snd_leaf (k := 0) h0) (snd_ite (snd_leaf (k := 1) h1) (snd_leaf (k := 2) h2))) (snd_ite (snd_ite (snd_leaf (k := 3) h3) (snd_leaf (k := 4) h4)) (snd_ite (snd_leaf (k := 5) h5) (snd_leaf (k := 7) h7)))) (snd_ite (snd_ite (snd_ite (snd_leaf (k := 8) h8) (snd_leaf (k := 10) h10)) (snd_ite (snd_leaf (k := 12) h12) (snd_leaf (k := 14) h14))) (snd_ite (snd_ite (snd_leaf (k := 17) h17) (snd_leaf (k := 18) h18)) (snd_ite (snd_leaf (k := 19) h19) (snd_leaf (k := 20) h20))))) (snd_ite (snd_ite (snd_ite (snd_ite (snd_leaf (k := 21) h21) (snd_leaf (k := 23) h23)) (snd_ite (snd_leaf (k := 24) h24) (snd_leaf (k := 26) h26))) (snd_ite (snd_ite (snd_leaf (k := 27) h27) (snd_leaf (k := 28) h28)) (snd_ite (snd_leaf (k := 29) h29) (snd_leaf (k := 31) h31)))) (snd_ite (snd_ite (snd_ite (snd_leaf (k := 32) h32) (snd_leaf (k := 34) h34)) (snd_ite (snd_leaf (k := 35) h35) (snd_leaf (k := 36) h36))) (snd_ite (snd_ite (snd_leaf (k := 37) h37) (snd_leaf (k := 40) h40)) (snd_ite (snd_leaf (k := 43) h43) (snd_leaf (k := 44) h44)))))

def kX7_back : Nat → Stq := fun pc => if pc < 22 then (if pc < 8 then (if pc < 3 then (if pc < 1 then (if pc = 0 then s_push (.int 0) 1 else s_bad) else (if pc < 2 then (if pc = 1 then s_ist 3 2 else s_bad) else (if pc = 2 then s_push (.int 3) 3 else s_bad))) else (if pc < 5 then (if pc < 4 then (if pc = 3 then s_ild 2 4 else s_bad) else (if pc = 4 then s_imul 5 else s_bad)) else (if pc < 7 then (if pc = 5 then s_ist 4 7 else s_bad) else (if pc = 7 then s_push (.int 0) 8 else s_bad)))) else (if pc < 17 then (if pc < 12 then (if pc < 10 then (if pc = 8 then s_ist 5 10 else s_bad) else (if pc = 10 then s_ild 5 12 else s_bad)) else (if pc < 14 then (if pc = 12 then s_ild 4 14 else s_bad) else (if pc = 14 then s_icge 43 17 else s_bad))) else (if pc < 19 then (if pc < 18 then (if pc = 17 then s_ild 3 18 else s_bad) else (if pc = 18 then s_ild 0 19 else s_bad)) else (if pc < 21 then (if pc = 19 then s_ild 5 21 else s_bad) else (if pc = 21 then s_iushr 22 else s_bad))))) else (if pc < 33 then (if pc < 27 then (if pc < 25 then (if pc < 24 then (if pc = 22 then s_push (.int 7) 24 else s_bad) else (if pc = 24 then s_iand 25 else s_bad)) else (if pc < 26 then (if pc = 25 then s_push (.int 3) 26 else s_bad) else (if pc = 26 then s_ild 1 27 else s_bad))) else (if pc < 30 then (if pc < 29 then (if pc = 27 then s_ild 5 29 else s_bad) else (if pc = 29 then s_iushr 30 else s_bad)) else (if pc < 32 then (if pc = 30 then s_push (.int 7) 32 else s_bad) else (if pc = 32 then s_iand 33 else s_bad)))) else (if pc < 37 then (if pc < 35 then (if pc < 34 then (if pc = 33 then s_imul 34 else s_bad) else (if pc = 34 then s_ishl 35 else s_bad)) else (if pc < 36 then (if pc = 35 then s_ior 36 else s_bad) else (if pc = 36 then s_ist 3 37 else s_bad))) else (if pc < 43 then (if pc < 40 then (if pc = 37 then s_inc 5 3 40 else s_bad) else (if pc = 40 then s_goto 10 else s_bad)) else (if pc < 44 then (if pc = 43 then s_ild 3 44 else s_bad) else (if pc = 44 then s_iret else s_bad)))))
set_option maxRecDepth 20000 in
theorem sX7_back : ∀ pc, Snd 0 RX7 cX7_back 6 (some .int) (inM "back") pc (kX7_back pc) := by
  have h0 : Snd 0 RX7 cX7_back 6 (some .int) (inM "back") 0 (s_push (.int 0) 1) := snd_iconst (n := 0) (by decide +kernel) (by decide)
  have h1 : Snd 0 RX7 cX7_back 6 (some .int) (inM "back") 1 (s_ist 3 2) := snd_istore_n (j := 3) (by decide +kernel) rfl
  have h2 : Snd 0 RX7 cX7_back 6 (some .int) (inM "back") 2 (s_push (.int 3) 3) := snd_iconst (n := 3) (by decide +kernel) (by decide)
  have h3 : Snd 0 RX7 cX7_back 6 (some .int) (inM "back") 3 (s_ild 2 4) := snd_iload_n (j := 2) (by decide +kernel) rfl
  have h4 : Snd 0 RX7 cX7_back 6 (some .int) (inM "back") 4 (s_imul 5) := snd_imul (by decide +kernel)
  have h5 : Snd 0 RX7 cX7_back 6 (some .int) (inM "back") 5 (s_ist 4 7) := snd_istore (by decide +kernel)
  have h7 : Snd 0 RX7 cX7_back 6 (some .int) (inM "back") 7 (s_push (.int 0) 8) := snd_iconst (n := 0) (by decide +kernel) (by decide)
  have h8 : Snd 0 RX7 cX7_back 6 (some .int) (inM "back") 8 (s_ist 5 10) := snd_istore (by decide +kernel)
  have h10 : Snd 0 RX7 cX7_back 6 (some .int) (inM "back") 10 (s_ild 5 12) := snd_iload (by decide +kernel)
  have h12 : Snd 0 RX7 cX7_back 6 (some .int) (inM "back") 12 (s_ild 4 14) := snd_iload (by decide +kernel)
  have h14 : Snd 0 RX7 cX7_back 6 (some .int) (inM "back") 14 (s_icge 43 17) := snd_icge (off := 29) (by decide +kernel) (by decide)
  have h17 : Snd 0 RX7 cX7_back 6 (some .int) (inM "back") 17 (s_ild 3 18) := snd_iload_n (j := 3) (by decide +kernel) rfl
  have h18 : Snd 0 RX7 cX7_back 6 (some .int) (inM "back") 18 (s_ild 0 19) := snd_iload_n (j := 0) (by decide +kernel) rfl
  have h19 : Snd 0 RX7 cX7_back 6 (some .int) (inM "back") 19 (s_ild 5 21) := snd_iload (by decide +kernel)
  have h21 : Snd 0 RX7 cX7_back 6 (some .int) (inM "back") 21 (s_iushr 22) := snd_iushr (by decide +kernel)
  have h22 : Snd 0 RX7 cX7_back 6 (some .int) (inM "back") 22 (s_push (.int 7) 24) := snd_bipush (n := 7) (by decide +kernel) (by decide)
  have h24 : Snd 0 RX7 cX7_back 6 (some .int) (inM "back") 24 (s_iand 25) := snd_iand (by decide +kernel)
  have h25 : Snd 0 RX7 cX7_back 6 (some .int) (inM "back") 25 (s_push (.int 3) 26) := snd_iconst (n := 3) (by decide +kernel) (by decide)
  have h26 : Snd 0 RX7 cX7_back 6 (some .int) (inM "back") 26 (s_ild 1 27) := snd_iload_n (j := 1) (by decide +kernel) rfl
  have h27 : Snd 0 RX7 cX7_back 6 (some .int) (inM "back") 27 (s_ild 5 29) := snd_iload (by decide +kernel)
  have h29 : Snd 0 RX7 cX7_back 6 (some .int) (inM "back") 29 (s_iushr 30) := snd_iushr (by decide +kernel)
  have h30 : Snd 0 RX7 cX7_back 6 (some .int) (inM "back") 30 (s_push (.int 7) 32) := snd_bipush (n := 7) (by decide +kernel) (by decide)
  have h32 : Snd 0 RX7 cX7_back 6 (some .int) (inM "back") 32 (s_iand 33) := snd_iand (by decide +kernel)
  have h33 : Snd 0 RX7 cX7_back 6 (some .int) (inM "back") 33 (s_imul 34) := snd_imul (by decide +kernel)
  have h34 : Snd 0 RX7 cX7_back 6 (some .int) (inM "back") 34 (s_ishl 35) := snd_ishl (by decide +kernel)
  have h35 : Snd 0 RX7 cX7_back 6 (some .int) (inM "back") 35 (s_ior 36) := snd_ior (by decide +kernel)
  have h36 : Snd 0 RX7 cX7_back 6 (some .int) (inM "back") 36 (s_ist 3 37) := snd_istore_n (j := 3) (by decide +kernel) rfl
  have h37 : Snd 0 RX7 cX7_back 6 (some .int) (inM "back") 37 (s_inc 5 3 40) := snd_iinc (y := 3) (by decide +kernel) (by decide)
  have h40 : Snd 0 RX7 cX7_back 6 (some .int) (inM "back") 40 (s_goto 10) := snd_goto (off := -30) (by decide +kernel) (by decide)
  have h43 : Snd 0 RX7 cX7_back 6 (some .int) (inM "back") 43 (s_ild 3 44) := snd_iload_n (j := 3) (by decide +kernel) rfl
  have h44 : Snd 0 RX7 cX7_back 6 (some .int) (inM "back") 44 (s_iret) := snd_iret (by decide +kernel)
  exact fun pc => snd_ite (snd_ite (snd_ite (snd_ite (snd_leaf (k := 0) h0) (snd_ite (snd_leaf (k := 1) h1) (snd_leaf (k := 2) h2))) (snd_ite (snd_ite (snd_leaf (k := 3) h3) (snd_leaf (k := 4) h4)) (snd_ite (snd_leaf (k := 5) h5) (snd_leaf (k := 7) h7)))) (snd_ite (snd_ite (snd_ite (snd_leaf (k := 8) h8) (snd_leaf (k := 10) h10)) (snd_ite (snd_leaf (k := 12) h12) (snd_leaf (k := 14) h14))) (snd_ite (snd_ite (snd_leaf (k := 17) h17) (snd_leaf (k := 18) h18)) (snd_ite (snd_leaf (k := 19) h19) (snd_leaf (k := 21) h21))))) (snd_ite (snd_ite (snd_ite (snd_ite (snd_leaf (k := 22) h22) (snd_leaf (k := 24) h24)) (snd_ite (snd_leaf (k := 25) h25) (snd_leaf (k := 26) h26))) (snd_ite (snd_ite (snd_leaf (k := 27) h27) (snd_leaf (k := 29) h29)) (snd_ite (snd_leaf (k := 30) h30) (snd_leaf (k := 32) h32)))) (snd_ite (snd_ite (snd_ite (snd_leaf (k := 33) h33) (snd_leaf (k := 34) h34)) (snd_ite (snd_leaf (k := 35) h35) (snd_leaf (k := 36) h36))) (snd_ite (snd_ite (snd_leaf (k := 37) h37) (snd_leaf (k := 40) h40)) (snd_ite (snd_leaf (k := 43) h43) (snd_leaf (k := 44) h44)))))
end
section
/-! Rows: the loops -/
theorem orp {a d p : Nat} (h : a < 8 ^ p) : a ||| d * 8 ^ p = a + d * 8 ^ p := by
  rw [pow8] at h ⊢
  rw [Nat.or_comm, Nat.mul_comm, ← Nat.two_pow_add_eq_or_of_lt h, Nat.add_comm]
def pX7_step : Spc := fun As g Q => ∃ n m : Nat, n ≤ 8 ∧ 1 ≤ n ∧ m < 512 ∧ As = [.int (nI m), .int (nI n)] ∧ Q (some (.int (nI (stN n m)))) g
theorem bq_int {m q : Nat} (hm : m < 512) (hq : q < 32) : (nI m >>> (nI q &&& 31) &&& 1) = 1 ↔ bq m q = true := by
  rw [nx_shr hq (by omega), and1]
  have : nI (m / 2 ^ q % 2) = 1 ↔ m / 2 ^ q % 2 = 1 := nI_eq (b := 1) (by omega) (by omega)
  rw [this]
  unfold bq
  rw [beq_iff_eq]
theorem oX7_step : Ok 0 yX7_step cX7_step 4 (some .int) pX7_step := by
  refine ok_all fun As g Q h => ?_
  obtain ⟨n, m, hn, hn1, hm, rfl, hQ⟩ := h
  refine at_of (fun pc => pc == 4) 40 (fun k pc ls st g' => ∃ p, pc = 4 ∧ ls = [.int (nI m), .int (nI n), .int (nI (pq (fun p => if swf n m p = true then 7 else 0) p)), .int (nI (p + 1))] ∧ st = [] ∧ g' = g ∧ k = n - p ∧ p ≤ n ∧ vis m p = true) (by decide) rfl sX7_step (nl (n := 2) rfl rfl rfl) ?_ ?_
  · exact ⟨n, 0, rfl, rfl, rfl, rfl, by omega, by omega, rfl⟩
  · rintro k pc ls st g' ⟨p, rfl, rfl, rfl, rfl, rfl, hp, hv⟩
    have h24 := p824 (show p ≤ 8 by omega)
    have hlt : pq (fun p => if swf n m p = true then 7 else 0) p < 8 ^ p := pq_lt (fun p _ => by show (if _ then 7 else 0) < 8; split <;> omega)
    refine br_c (fun h => ?_) (fun h => ?_)
    · have h : n ≤ p + 1 := (nI_leI (by omega) (by omega)).mp h
      have e : stN n m = pq (fun p => if swf n m p = true then 7 else 0) p := by
        rcases (show p = n ∨ n = p + 1 by omega) with e | e
        · rw [e]; rfl
        · subst e
          show pq _ p + (if swf (p + 1) m p = true then 7 else 0) * 8 ^ p = _
          rw [if_neg (by simp [swf]), Nat.zero_mul, Nat.add_zero]
      rw [e] at hQ
      exact hQ
    · have h : ¬ n ≤ p + 1 := fun q => h ((nI_leI (by omega) (by omega)).mpr q)
      refine And.intro (fun hb => ?_) (fun hb => ?_)
      · have hb : bq m (p + 1) = false := by
          cases hc : bq m (p + 1) with
          | false => rfl
          | true => exact absurd ((bq_int hm (by omega)).mpr hc) hb
        have hs : swf n m p = true := by simp [swf, hv, hb]; omega
        have e3 : nI (p + 1) + 2 = nI (p + 2 + 1) := nI_add (p + 1) 2
        refine ⟨n - (p + 2), by omega, p + 2, rfl, ?_, rfl, rfl, rfl, by omega, vis_go hv hb⟩
        have e : nI (pq (fun p => if swf n m p = true then 7 else 0) p) ||| 7 <<< ((3 * (nI (p + 1) - 1)) &&& 31) = nI (pq (fun p => if swf n m p = true then 7 else 0) (p + 2)) := by
          rw [nI_pred, show (3 : Int32) = nI 3 from rfl, show (7 : Int32) = nI 7 from rfl, nx_mul, nx_shl (by omega) (by rw [← pow8]; omega), nx_or, ← pow8, orp hlt]
          congr 1
          show _ = pq _ p + (if swf n m p = true then 7 else 0) * 8 ^ p + (if swf n m (p + 1) = true then 7 else 0) * 8 ^ (p + 1)
          rw [if_pos hs, if_neg (by rw [swf_apart hs]; simp), Nat.zero_mul, Nat.add_zero]
        show [Value.int (nI m), .int (nI n), .int _, .int _] = _
        rw [e, e3]
      · have hb : bq m (p + 1) = true := (bq_int hm (by omega)).mp hb
        have hs : swf n m p = false := by simp [swf, hb]
        refine ⟨n - (p + 1), by omega, p + 1, rfl, ?_, rfl, rfl, rfl, by omega, vis_stay hv hb⟩
        have e3 : nI (p + 1) + 1 = nI (p + 1 + 1) := nI_add (p + 1) 1
        have e : pq (fun p => if swf n m p = true then 7 else 0) (p + 1) = pq (fun p => if swf n m p = true then 7 else 0) p := by
          show pq _ p + (if swf n m p = true then 7 else 0) * 8 ^ p = _
          rw [if_neg (by rw [hs]; simp), Nat.zero_mul, Nat.add_zero]
        show [Value.int (nI m), .int (nI n), .int _, .int _] = _
        rw [e, e3]
/-- rounds -/
def rds (n : Nat) : Nat := pq (fun p => p) n
def pX7_rounds : Spc := fun As g Q => ∃ n : Nat, n ≤ 8 ∧ As = [.int (nI n)] ∧ Q (some (.int (nI (rds n)))) g
theorem oX7_rounds : Ok 0 yX7_rounds cX7_rounds 3 (some .int) pX7_rounds := by
  refine ok_all fun As g Q h => ?_
  obtain ⟨n, hn, rfl, hQ⟩ := h
  refine at_of (fun pc => pc == 4) 40 (fun k pc ls st g' => ∃ p, pc = 4 ∧ ls = [.int (nI n), .int (nI (pq (fun p => p) p)), .int (nI p)] ∧ st = [] ∧ g' = g ∧ k = n - p ∧ p ≤ n) (by decide) rfl sX7_rounds (nl (n := 1) rfl rfl rfl) ?_ ?_
  · exact ⟨n, 0, rfl, rfl, rfl, rfl, by omega, by omega⟩
  · rintro k pc ls st g' ⟨p, rfl, rfl, rfl, rfl, rfl, hp⟩
    have h24 := p824 (show p ≤ 8 by omega)
    have hlt : pq (fun p => p) p < 8 ^ p := pq_lt (fun q hq => by show q < 8; omega)
    refine br_c (fun h => ?_) (fun h => ?_)
    · have h : n ≤ p := (nI_leI (by omega) (by omega)).mp h
      have e : p = n := by omega
      subst e
      exact hQ
    · have h : ¬ n ≤ p := fun q => h ((nI_leI (by omega) (by omega)).mpr q)
      refine ⟨n - (p + 1), by omega, p + 1, rfl, ?_, rfl, rfl, rfl, by omega⟩
      have h3 : p * 8 ^ p ≤ 8 * 8 ^ p := Nat.mul_le_mul_right _ (by omega)
      have e : nI (pq (fun p => p) p) ||| nI p <<< ((3 * nI p) &&& 31) = nI (pq (fun p => p) (p + 1)) := by
        rw [show (3 : Int32) = nI 3 from rfl, nx_mul, nx_shl (by omega) (by rw [← pow8]; omega), nx_or, ← pow8, orp hlt]
        rfl
      show [Value.int (nI n), .int _, .int _] = _
      rw [e, nI_1]
def fct : Nat → Nat
  | 0 => 1
  | n + 1 => (n + 1) * fct n
def pX7_howMany : Spc := fun As g Q => ∃ n : Nat, 1 ≤ n ∧ n ≤ 8 ∧ As = [.int (nI n)] ∧ Q (some (.int (nI (fct n)))) g
theorem oX7_howMany : Ok 0 yX7_howMany cX7_howMany 3 (some .int) pX7_howMany := by
  refine ok_all fun As g Q h => ?_
  obtain ⟨n, hn1, hn, rfl, hQ⟩ := h
  refine at_of (fun pc => pc == 4) 40 (fun k pc ls st g' => ∃ p, pc = 4 ∧ ls = [.int (nI n), .int (nI (fct p)), .int (nI (p + 1))] ∧ st = [] ∧ g' = g ∧ k = n - p ∧ 1 ≤ p ∧ p ≤ n) (by decide) rfl sX7_howMany (nl (n := 1) rfl rfl rfl) ?_ ?_
  · exact ⟨n - 1, 1, rfl, rfl, rfl, rfl, by omega, by omega, by omega⟩
  · rintro k pc ls st g' ⟨p, rfl, rfl, rfl, rfl, rfl, hp1, hp⟩
    refine br_c (fun h => ?_) (fun h => ?_)
    · have h : n < p + 1 := (nI_ltI (by omega) (by omega)).mp h
      have e : p = n := by omega
      subst e
      exact hQ
    · have h : ¬ n < p + 1 := fun q => h ((nI_ltI (by omega) (by omega)).mpr q)
      refine ⟨n - (p + 1), by omega, p + 1, rfl, ?_, rfl, rfl, rfl, by omega, by omega⟩
      show [Value.int (nI n), .int (nI (fct p) * nI (p + 1)), .int (nI (p + 1) + 1)] = _
      rw [nx_mul, nI_1, Nat.mul_comm]
      rfl
def pX7_placeOf : Spc := fun As g Q => ∃ b x n p : Nat, x < 2 ^ 24 ∧ n ≤ 8 ∧ b < 9 ∧ p < n ∧ dg x p + 1 = b ∧ (∀ q, q < p → dg x q + 1 ≠ b) ∧ As = [.int (nI b), .int (nI x), .int (nI n)] ∧ Q (some (.int (nI (p + 1)))) g
theorem oX7_placeOf : Ok 1 yX7_placeOf cX7_placeOf 4 (some .int) pX7_placeOf := by
  refine ok_all fun As g Q h => ?_
  obtain ⟨b, x, n, p, hx, hn, hb, hpn, hpb, hq, rfl, hQ⟩ := h
  refine at_of (fun pc => pc == 2) 40 (fun k pc ls st g' => ∃ i, pc = 2 ∧ ls = [.int (nI b), .int (nI x), .int (nI n), .int (nI (i + 1))] ∧ st = [] ∧ g' = g ∧ k = n - i ∧ i ≤ p) (by decide) rfl sX7_placeOf (nl (n := 3) rfl rfl rfl) ?_ ?_
  · exact ⟨n, 0, rfl, rfl, rfl, rfl, by omega, by omega⟩
  · rintro k pc ls st g' ⟨i, rfl, rfl, rfl, rfl, rfl, hi⟩
    have hd := dg_lt x i
    refine br_c (fun h => ?_) (fun h => ?_)
    · have h : n ≤ i + 1 := (nI_leI (by omega) (by omega)).mp h
      have e : n = p + 1 := by omega
      subst e
      exact hQ
    · have h : ¬ n ≤ i + 1 := fun q => h ((nI_leI (by omega) (by omega)).mpr q)
      have eb := bell_at (x := x) (p := i) hx (by omega)
      refine And.intro (fun h1 => ?_) (fun h1 => ?_)
      · have h2 : dg x i + 1 ≠ b := fun e => h1 (by rw [eb, e])
        have h3 : i ≠ p := fun e => h2 (by rw [e]; exact hpb)
        refine ⟨n - (i + 1), by omega, i + 1, rfl, ?_, rfl, rfl, rfl, by omega⟩
        show [Value.int (nI b), .int (nI x), .int (nI n), .int (nI (i + 1) + 1)] = _
        rw [nI_1]
      · have h2 : dg x i + 1 = b := (nI_eq (by omega) (by omega)).mp (by rw [← eb]; exact h1)
        have h3 : i = p := by
          rcases Nat.lt_or_ge i p with h | h
          · exact absurd h2 (hq i h)
          · omega
        subst h3
        exact hQ
/-- the number of a row -/
def numTo (x : Nat) : Nat → Nat
  | 0 => 0
  | p + 1 => numTo x p * 10 + (dg x p + 1)
def num (n x : Nat) : Nat := numTo x n
theorem numTo_lt (x : Nat) : ∀ p, numTo x p < 10 ^ p
  | 0 => Nat.zero_lt_one
  | p + 1 => by
    have h1 := numTo_lt x p
    have h2 := dg_lt x p
    show numTo x p * 10 + (dg x p + 1) < 10 ^ (p + 1)
    rw [Nat.pow_succ]
    omega
def pX7_number : Spc := fun As g Q => ∃ x n : Nat, x < 2 ^ 24 ∧ n ≤ 8 ∧ As = [.int (nI x), .int (nI n)] ∧ Q (some (.int (nI (num n x)))) g
theorem oX7_number : Ok 1 yX7_number cX7_number 4 (some .int) pX7_number := by
  refine ok_all fun As g Q h => ?_
  obtain ⟨x, n, hx, hn, rfl, hQ⟩ := h
  refine at_of (fun pc => pc == 4) 40 (fun k pc ls st g' => ∃ i, pc = 4 ∧ ls = [.int (nI x), .int (nI n), .int (nI (numTo x i)), .int (nI (i + 1))] ∧ st = [] ∧ g' = g ∧ k = n - i ∧ i ≤ n) (by decide) rfl sX7_number (nl (n := 2) rfl rfl rfl) ?_ ?_
  · exact ⟨n, 0, rfl, rfl, rfl, rfl, by omega, by omega⟩
  · rintro k pc ls st g' ⟨i, rfl, rfl, rfl, rfl, rfl, hi⟩
    refine br_c (fun h => ?_) (fun h => ?_)
    · have h : n < i + 1 := (nI_ltI (by omega) (by omega)).mp h
      have e : i = n := by omega
      subst e
      exact hQ
    · have h : ¬ n < i + 1 := fun q => h ((nI_ltI (by omega) (by omega)).mpr q)
      refine ⟨n - (i + 1), by omega, i + 1, rfl, ?_, rfl, rfl, rfl, by omega⟩
      show [Value.int (nI x), .int (nI n), .int (nI (numTo x i) * 10 + ((ushr (nI x) (3 * (nI (i + 1) - 1)) &&& 7) + 1)), .int (nI (i + 1) + 1)] = _
      rw [bell_at hx (by omega), show (10 : Int32) = nI 10 from rfl, nx_mul, nI_add, nI_1]
      rfl
/-- what comes of a row by all that makes the other one of rounds -/
def thr (n x o : Nat) : Nat := pq (fun p => dg x (dg o p)) n
def pX7_through : Spc := fun As g Q => ∃ x o n : Nat, x < 2 ^ 24 ∧ o < 2 ^ 24 ∧ n ≤ 8 ∧ As = [.int (nI x), .int (nI o), .int (nI n)] ∧ Q (some (.int (nI (thr n x o)))) g
theorem dgI {x p : Nat} (hx : x < 2 ^ 24) (hp : p < 8) : ushr (nI x) (nI (3 * p)) &&& 7 = nI (dg x p) := by
  rw [nx_ushr (by omega) (by omega), and7, ← pow8]
  rfl
theorem oX7_through : Ok 0 yX7_through cX7_through 6 (some .int) pX7_through := by
  refine ok_all fun As g Q h => ?_
  obtain ⟨x, o, n, hx, ho, hn, rfl, hQ⟩ := h
  refine at_of (fun pc => pc == 10) 40 (fun k pc ls st g' => ∃ i, pc = 10 ∧ ls = [.int (nI x), .int (nI o), .int (nI n), .int (nI (pq (fun p => dg x (dg o p)) i)), .int (nI (3 * n)), .int (nI (3 * i))] ∧ st = [] ∧ g' = g ∧ k = n - i ∧ i ≤ n) (by decide) rfl sX7_through (nl (n := 3) rfl rfl rfl) ?_ ?_
  · refine ⟨n, 0, rfl, ?_, rfl, rfl, by omega, by omega⟩
    show [Value.int (nI x), .int (nI o), .int (nI n), .int 0, .int (nI 3 * nI n), .int 0] = _
    rw [nx_mul]
    rfl
  · rintro k pc ls st g' ⟨i, rfl, rfl, rfl, rfl, rfl, hi⟩
    have h24 := p824 (show i ≤ 8 by omega)
    have hlt : pq (fun p => dg x (dg o p)) i < 8 ^ i := pq_lt (fun _ _ => dg_lt _ _)
    refine br_c (fun h => ?_) (fun h => ?_)
    · have h : 3 * n ≤ 3 * i := (nI_leI (by omega) (by omega)).mp h
      have e : i = n := by omega
      subst e
      exact hQ
    · have h : ¬ 3 * n ≤ 3 * i := fun q => h ((nI_leI (by omega) (by omega)).mpr q)
      refine ⟨n - (i + 1), by omega, i + 1, rfl, ?_, rfl, rfl, rfl, by omega⟩
      have h1 := dg_lt o i
      have h2 := dg_lt x (dg o i)
      have h3 : dg x (dg o i) * 8 ^ i ≤ 8 * 8 ^ i := Nat.mul_le_mul_right _ (by omega)
      show [Value.int (nI x), .int (nI o), .int (nI n), .int (nI (pq (fun p => dg x (dg o p)) i) ||| (ushr (nI x) (3 * (ushr (nI o) (nI (3 * i)) &&& 7)) &&& 7) <<< (nI (3 * i) &&& 31)), .int (nI (3 * n)), .int (nI (3 * i) + 3)] = _
      rw [dgI ho (by omega), show (3 : Int32) = nI 3 from rfl, nx_mul, dgI hx h1, nx_shl (by omega) (by rw [← pow8]; omega), nx_or, ← pow8, orp hlt, nI_add]
      rfl
theorem dg_at (d q p : Nat) (hd : d < 8) : dg (d * 8 ^ q) p = if p = q then d else 0 := by
  have e : d * 8 ^ q = pq (fun i => if i = q then d else 0) (q + 1) := by
    show _ = pq _ q + (if q = q then d else 0) * 8 ^ q
    rw [if_pos rfl, pq_congr (g := fun _ => 0) (fun p hp => if_neg (by omega))]
    have z : ∀ n, pq (fun _ => 0) n = 0 := by
      intro n
      induction n with
      | zero => rfl
      | succ n ih => show pq _ n + 0 * 8 ^ n = 0; rw [ih, Nat.zero_mul]
    rw [z, Nat.zero_add]
  by_cases hp : p < q + 1
  · rw [e, dg_pq (fun p _ => by show (if _ then d else 0) < 8; split <;> omega) hp]
  · rw [if_neg (by omega)]
    refine dg_big (n := q + 1) ?_ (by omega)
    rw [Nat.pow_succ, Nat.mul_comm]
    exact (Nat.mul_lt_mul_left (p8 q)).mpr hd
def pX7_back : Spc := fun As g Q => ∃ a o n : Nat, a < 2 ^ 24 ∧ o < 2 ^ 24 ∧ n ≤ 8 ∧ (∀ p, p < n → dg o p < n) ∧ (∀ p q, p < n → q < n → dg o p = dg o q → p = q) ∧ As = [.int (nI a), .int (nI o), .int (nI n)] ∧ ∀ y, y < 8 ^ n → (∀ p, p < n → dg y (dg o p) = dg a p) → Q (some (.int (nI y))) g
theorem oX7_back : Ok 0 yX7_back cX7_back 6 (some .int) pX7_back := by
  refine ok_all fun As g Q h => ?_
  obtain ⟨a, o, n, ha, ho, hn, hlo, hinj, rfl, hQ⟩ := h
  refine at_of (fun pc => pc == 10) 40 (fun k pc ls st g' => ∃ i y, pc = 10 ∧ ls = [.int (nI a), .int (nI o), .int (nI n), .int (nI y), .int (nI (3 * n)), .int (nI (3 * i))] ∧ st = [] ∧ g' = g ∧ k = n - i ∧ i ≤ n ∧ y < 8 ^ n ∧ (∀ p, p < i → dg y (dg o p) = dg a p) ∧ (∀ q, (∀ p, p < i → dg o p ≠ q) → dg y q = 0)) (by decide) rfl sX7_back (nl (n := 3) rfl rfl rfl) ?_ ?_
  · refine ⟨n, 0, 0, rfl, ?_, rfl, rfl, by omega, by omega, p8 n, fun p h => absurd h (by omega), fun q _ => by unfold dg; rw [Nat.zero_div]⟩
    show [Value.int (nI a), .int (nI o), .int (nI n), .int 0, .int (nI 3 * nI n), .int 0] = _
    rw [nx_mul]
    rfl
  · rintro k pc ls st g' ⟨i, y, rfl, rfl, rfl, rfl, rfl, hi, hy, h1, h2⟩
    have h24 := p824 hn
    refine br_c (fun h => ?_) (fun h => ?_)
    · have h : 3 * n ≤ 3 * i := (nI_leI (by omega) (by omega)).mp h
      have e : i = n := by omega
      subst e
      exact hQ y hy h1
    · have h : ¬ 3 * n ≤ 3 * i := fun q => h ((nI_leI (by omega) (by omega)).mpr q)
      have hin : i < n := by omega
      have h3 := hlo i hin
      have h4 := dg_lt a i
      have h6 : dg a i * 8 ^ dg o i < 8 ^ n := by
        have : 8 ^ (dg o i + 1) ≤ 8 ^ n := Nat.pow_le_pow_right (by decide) (by omega)
        refine Nat.lt_of_lt_of_le ?_ this
        rw [Nat.pow_succ, Nat.mul_comm]
        exact (Nat.mul_lt_mul_left (p8 _)).mpr h4
      refine ⟨n - (i + 1), by omega, i + 1, y ||| dg a i * 8 ^ dg o i, rfl, ?_, rfl, rfl, rfl, by omega, ?_, ?_, ?_⟩
      · show [Value.int (nI a), .int (nI o), .int (nI n), .int (nI y ||| (ushr (nI a) (nI (3 * i)) &&& 7) <<< ((3 * (ushr (nI o) (nI (3 * i)) &&& 7)) &&& 31)), .int (nI (3 * n)), .int (nI (3 * i) + 3)] = _
        rw [dgI ho (by omega), dgI ha (by omega), show (3 : Int32) = nI 3 from rfl, nx_mul, nx_shl (by omega) (by rw [← pow8]; omega), nx_or, ← pow8, nI_add]
        rfl
      · rw [pow8 n] at hy h6 ⊢
        exact Nat.or_lt_two_pow hy h6
      · intro p hp
        rw [dg_or, dg_at _ _ _ h4]
        by_cases hpi : p = i
        · subst hpi
          rw [if_pos rfl, h2 (dg o p) (fun q hq e => by have := hinj q p (by omega) (by omega) e; omega), Nat.zero_or]
        · rw [if_neg (fun e => hpi (hinj p i (by omega) (by omega) e)), Nat.or_zero]
          exact h1 p (by omega)
      · intro q hq
        rw [dg_or, dg_at _ _ _ h4, if_neg (fun e => hq i (by omega) e.symm), Nat.or_zero]
        exact h2 q (fun p hp => hq p (by omega))
end
section
/-- a local is forgotten ahead of a step -/
def s_frg (i : Nat) (f : Stq) : Stq := fun ls st g K Q => f (ls.set i U_) st g K Q
theorem snd_frg {d : Nat} {own : String} {cc : ByteArray} {nL : Nat} {ret : Option FieldType} {ini : Inq} {pc i : Nat} {f : Stq} (h : Snd d own cc nL ret ini pc f) : Snd d own cc nL ret ini pc (s_frg i f) := by
  intro p l e s m args below meth c Q D cy bs g0 ad0 C hi ls st g K Qr hf hK hQ ad H locs k n lsA P
  refine h p l e s m args below meth c Q D cy bs g0 ad0 C hi (ls.set i U_) st g K Qr hf hK hQ ad H locs k n lsA (P.ls ?_)
  obtain ⟨h1, h2, h3, h4⟩ := P.2.2.2.1
  refine ⟨by rw [List.length_set]; exact h1, h2, h3, fun j v hj hv => ?_⟩
  by_cases hji : i = j
  · subst hji
    have hlt : i < ls.length := by
      have := (List.getElem?_eq_some_iff.mp hj).1
      rwa [List.length_set] at this
    rw [List.getElem?_set_self hlt] at hj
    cases hj
    cases hv
  · rw [List.getElem?_set_ne hji] at hj
    exact h4 j v hj hv
/-! the reference's store -/
abbrev Mg (L : Nat → Nat) (iF aI : Nat → Nat → Int32) (aL : Nat → Nat → Int64) : Sto := (SH (true, L), iF, aI, aL)
/-- the row x in the reference's array: bell at place p + 1 -/
def MR (n x : Nat) (f : Nat → Int32) : Prop := ∀ p, p < n → f (p + 1) = nI (dg x p + 1)
theorem up1_up1 {α : Type} (f : Nat → α) (k : Nat) (a b : α) : up1 (up1 f k a) k b = up1 f k b := by
  funext j
  unfold up1
  split <;> rfl
theorem cl1 {n : Nat} (h : n < 2 ^ 31) : (nI n).toNatClampNeg = n := nI_clamp h
end
section
def kX11_layRounds : Nat → Stq := fun pc => if pc < 9 then (if pc < 3 then (if pc < 1 then (if pc = 0 then s_push (.int 1) 1 else s_bad) else (if pc < 2 then (if pc = 1 then s_ist 1 2 else s_bad) else (if pc = 2 then s_ild 1 3 else s_bad))) else (if pc < 5 then (if pc = 3 then s_push (.int 9) 5 else s_bad) else (if pc < 8 then (if pc = 5 then s_icge 21 8 else s_bad) else (if pc = 8 then s_ald 0 9 else s_bad)))) else (if pc < 14 then (if pc < 12 then (if pc = 9 then s_getf 10 12 12 else s_bad) else (if pc < 13 then (if pc = 12 then s_ild 1 13 else s_bad) else (if pc = 13 then s_ild 1 14 else s_bad))) else (if pc < 18 then (if pc < 15 then (if pc = 14 then s_iast 15 else s_bad) else (if pc = 15 then s_inc 1 1 18 else s_bad)) else (if pc < 21 then (if pc = 18 then s_goto 2 else s_bad) else (if pc = 21 then s_vret else s_bad))))
set_option maxRecDepth 20000 in
theorem sX11_layRounds : ∀ pc, Snd 0 RX11 cX11_layRounds 2 none (inM "layRounds") pc (kX11_layRounds pc) := by
  have h0 : Snd 0 RX11 cX11_layRounds 2 none (inM "layRounds") 0 (s_push (.int 1) 1) := snd_iconst (n := 1) (by decide +kernel) (by decide)
  have h1 : Snd 0 RX11 cX11_layRounds 2 none (inM "layRounds") 1 (s_ist 1 2) := snd_istore_n (j := 1) (by decide +kernel) rfl
  have h2 : Snd 0 RX11 cX11_layRounds 2 none (inM "layRounds") 2 (s_ild 1 3) := snd_iload_n (j := 1) (by decide +kernel) rfl
  have h3 : Snd 0 RX11 cX11_layRounds 2 none (inM "layRounds") 3 (s_push (.int 9) 5) := snd_bipush (n := 9) (by decide +kernel) (by decide)
  have h5 : Snd 0 RX11 cX11_layRounds 2 none (inM "layRounds") 5 (s_icge 21 8) := snd_icge (off := 16) (by decide +kernel) (by decide)
  have h8 : Snd 0 RX11 cX11_layRounds 2 none (inM "layRounds") 8 (s_ald 0 9) := snd_aload_n (j := 0) (by decide +kernel) rfl
  have h9 : Snd 0 RX11 cX11_layRounds 2 none (inM "layRounds") 9 (s_getf 10 12 12) := snd_getf (T := TX11) (f := 12) cI_10 (by decide) g_781 (by decide +kernel)
  have h12 : Snd 0 RX11 cX11_layRounds 2 none (inM "layRounds") 12 (s_ild 1 13) := snd_iload_n (j := 1) (by decide +kernel) rfl
  have h13 : Snd 0 RX11 cX11_layRounds 2 none (inM "layRounds") 13 (s_ild 1 14) := snd_iload_n (j := 1) (by decide +kernel) rfl
  have h14 : Snd 0 RX11 cX11_layRounds 2 none (inM "layRounds") 14 (s_iast 15) := snd_iast (by decide +kernel)
  have h15 : Snd 0 RX11 cX11_layRounds 2 none (inM "layRounds") 15 (s_inc 1 1 18) := snd_iinc (y := 1) (by decide +kernel) (by decide)
  have h18 : Snd 0 RX11 cX11_layRounds 2 none (inM "layRounds") 18 (s_goto 2) := snd_goto (off := -16) (by decide +kernel) (by decide)
  have h21 : Snd 0 RX11 cX11_layRounds 2 none (inM "layRounds") 21 (s_vret) := snd_vret (by decide +kernel)
  exact fun pc => snd_ite (snd_ite (snd_ite (snd_leaf (k := 0) h0) (snd_ite (snd_leaf (k := 1) h1) (snd_leaf (k := 2) h2))) (snd_ite (snd_leaf (k := 3) h3) (snd_ite (snd_leaf (k := 5) h5) (snd_leaf (k := 8) h8)))) (snd_ite (snd_ite (snd_leaf (k := 9) h9) (snd_ite (snd_leaf (k := 12) h12) (snd_leaf (k := 13) h13))) (snd_ite (snd_ite (snd_leaf (k := 14) h14) (snd_leaf (k := 15) h15)) (snd_ite (snd_leaf (k := 18) h18) (snd_leaf (k := 21) h21))))

def kX11_ring : Nat → Stq := fun pc => if pc < 29 then (if pc < 13 then (if pc < 4 then (if pc < 2 then (if pc < 1 then (if pc = 0 then s_push (.int 1) 1 else s_bad) else (if pc = 1 then s_ist 2 2 else s_bad)) else (if pc < 3 then (if pc = 2 then s_frg 3 (s_ild 2 3) else s_bad) else (if pc = 3 then s_ald 0 4 else s_bad))) else (if pc < 10 then (if pc < 7 then (if pc = 4 then s_invv 10 0 pX11_many 7 else s_bad) else (if pc = 7 then s_icgt 57 10 else s_bad)) else (if pc < 11 then (if pc = 10 then s_ild 1 11 else s_bad) else (if pc < 12 then (if pc = 11 then s_ild 2 12 else s_bad) else (if pc = 12 then s_ishr 13 else s_bad))))) else (if pc < 22 then (if pc < 15 then (if pc < 14 then (if pc = 13 then s_push (.int 1) 14 else s_bad) else (if pc = 14 then s_iand 15 else s_bad)) else (if pc < 18 then (if pc = 15 then s_ifne 51 18 else s_bad) else (if pc < 19 then (if pc = 18 then s_ald 0 19 else s_bad) else (if pc = 19 then s_getf 10 12 22 else s_bad)))) else (if pc < 24 then (if pc < 23 then (if pc = 22 then s_ild 2 23 else s_bad) else (if pc = 23 then s_iald 24 else s_bad)) else (if pc < 25 then (if pc = 24 then s_ist 3 25 else s_bad) else (if pc < 26 then (if pc = 25 then s_ald 0 26 else s_bad) else (if pc = 26 then s_getf 10 12 29 else s_bad)))))) else (if pc < 40 then (if pc < 35 then (if pc < 31 then (if pc < 30 then (if pc = 29 then s_ild 2 30 else s_bad) else (if pc = 30 then s_ald 0 31 else s_bad)) else (if pc < 34 then (if pc = 31 then s_getf 10 12 34 else s_bad) else (if pc = 34 then s_ild 2 35 else s_bad))) else (if pc < 37 then (if pc < 36 then (if pc = 35 then s_push (.int 1) 36 else s_bad) else (if pc = 36 then s_iadd 37 else s_bad)) else (if pc < 38 then (if pc = 37 then s_iald 38 else s_bad) else (if pc < 39 then (if pc = 38 then s_iast 39 else s_bad) else (if pc = 39 then s_ald 0 40 else s_bad))))) else (if pc < 47 then (if pc < 44 then (if pc < 43 then (if pc = 40 then s_getf 10 12 43 else s_bad) else (if pc = 43 then s_ild 2 44 else s_bad)) else (if pc < 45 then (if pc = 44 then s_push (.int 1) 45 else s_bad) else (if pc < 46 then (if pc = 45 then s_iadd 46 else s_bad) else (if pc = 46 then s_ild 3 47 else s_bad)))) else (if pc < 51 then (if pc < 48 then (if pc = 47 then s_iast 48 else s_bad) else (if pc = 48 then s_inc 2 1 51 else s_bad)) else (if pc < 54 then (if pc = 51 then s_inc 2 1 54 else s_bad) else (if pc < 57 then (if pc = 54 then s_goto 2 else s_bad) else (if pc = 57 then s_vret else s_bad))))))
set_option maxRecDepth 20000 in
theorem sX11_ring : ∀ pc, Snd 1 RX11 cX11_ring 4 none (inM "ring") pc (kX11_ring pc) := by
  have h0 : Snd 1 RX11 cX11_ring 4 none (inM "ring") 0 (s_push (.int 1) 1) := snd_iconst (n := 1) (by decide +kernel) (by decide)
  have h1 : Snd 1 RX11 cX11_ring 4 none (inM "ring") 1 (s_ist 2 2) := snd_istore_n (j := 2) (by decide +kernel) rfl
  have h2 : Snd 1 RX11 cX11_ring 4 none (inM "ring") 2 (s_frg 3 (s_ild 2 3)) := snd_frg (snd_iload_n (j := 2) (by decide +kernel) rfl)
  have h3 : Snd 1 RX11 cX11_ring 4 none (inM "ring") 3 (s_ald 0 4) := snd_aload_n (j := 0) (by decide +kernel) rfl
  have h4 : Snd 1 RX11 cX11_ring 4 none (inM "ring") 4 (s_invv 10 0 pX11_many 7) := snd_invv cI_10 oX11_many (by decide) (by decide) g_856 g_853 g_855 g_24 g_81 ⟨by decide, by decide, by decide +kernel⟩ (by decide +kernel)
  have h7 : Snd 1 RX11 cX11_ring 4 none (inM "ring") 7 (s_icgt 57 10) := snd_icgt (off := 50) (by decide +kernel) (by decide)
  have h10 : Snd 1 RX11 cX11_ring 4 none (inM "ring") 10 (s_ild 1 11) := snd_iload_n (j := 1) (by decide +kernel) rfl
  have h11 : Snd 1 RX11 cX11_ring 4 none (inM "ring") 11 (s_ild 2 12) := snd_iload_n (j := 2) (by decide +kernel) rfl
  have h12 : Snd 1 RX11 cX11_ring 4 none (inM "ring") 12 (s_ishr 13) := snd_ishr (by decide +kernel)
  have h13 : Snd 1 RX11 cX11_ring 4 none (inM "ring") 13 (s_push (.int 1) 14) := snd_iconst (n := 1) (by decide +kernel) (by decide)
  have h14 : Snd 1 RX11 cX11_ring 4 none (inM "ring") 14 (s_iand 15) := snd_iand (by decide +kernel)
  have h15 : Snd 1 RX11 cX11_ring 4 none (inM "ring") 15 (s_ifne 51 18) := snd_ifne (off := 36) (by decide +kernel) (by decide)
  have h18 : Snd 1 RX11 cX11_ring 4 none (inM "ring") 18 (s_ald 0 19) := snd_aload_n (j := 0) (by decide +kernel) rfl
  have h19 : Snd 1 RX11 cX11_ring 4 none (inM "ring") 19 (s_getf 10 12 22) := snd_getf (T := TX11) (f := 12) cI_10 (by decide) g_781 (by decide +kernel)
  have h22 : Snd 1 RX11 cX11_ring 4 none (inM "ring") 22 (s_ild 2 23) := snd_iload_n (j := 2) (by decide +kernel) rfl
  have h23 : Snd 1 RX11 cX11_ring 4 none (inM "ring") 23 (s_iald 24) := snd_iald (by decide +kernel)
  have h24 : Snd 1 RX11 cX11_ring 4 none (inM "ring") 24 (s_ist 3 25) := snd_istore_n (j := 3) (by decide +kernel) rfl
  have h25 : Snd 1 RX11 cX11_ring 4 none (inM "ring") 25 (s_ald 0 26) := snd_aload_n (j := 0) (by decide +kernel) rfl
  have h26 : Snd 1 RX11 cX11_ring 4 none (inM "ring") 26 (s_getf 10 12 29) := snd_getf (T := TX11) (f := 12) cI_10 (by decide) g_781 (by decide +kernel)
  have h29 : Snd 1 RX11 cX11_ring 4 none (inM "ring") 29 (s_ild 2 30) := snd_iload_n (j := 2) (by decide +kernel) rfl
  have h30 : Snd 1 RX11 cX11_ring 4 none (inM "ring") 30 (s_ald 0 31) := snd_aload_n (j := 0) (by decide +kernel) rfl
  have h31 : Snd 1 RX11 cX11_ring 4 none (inM "ring") 31 (s_getf 10 12 34) := snd_getf (T := TX11) (f := 12) cI_10 (by decide) g_781 (by decide +kernel)
  have h34 : Snd 1 RX11 cX11_ring 4 none (inM "ring") 34 (s_ild 2 35) := snd_iload_n (j := 2) (by decide +kernel) rfl
  have h35 : Snd 1 RX11 cX11_ring 4 none (inM "ring") 35 (s_push (.int 1) 36) := snd_iconst (n := 1) (by decide +kernel) (by decide)
  have h36 : Snd 1 RX11 cX11_ring 4 none (inM "ring") 36 (s_iadd 37) := snd_iadd (by decide +kernel)
  have h37 : Snd 1 RX11 cX11_ring 4 none (inM "ring") 37 (s_iald 38) := snd_iald (by decide +kernel)
  have h38 : Snd 1 RX11 cX11_ring 4 none (inM "ring") 38 (s_iast 39) := snd_iast (by decide +kernel)
  have h39 : Snd 1 RX11 cX11_ring 4 none (inM "ring") 39 (s_ald 0 40) := snd_aload_n (j := 0) (by decide +kernel) rfl
  have h40 : Snd 1 RX11 cX11_ring 4 none (inM "ring") 40 (s_getf 10 12 43) := snd_getf (T := TX11) (f := 12) cI_10 (by decide) g_781 (by decide +kernel)
  have h43 : Snd 1 RX11 cX11_ring 4 none (inM "ring") 43 (s_ild 2 44) := snd_iload_n (j := 2) (by decide +kernel) rfl
  have h44 : Snd 1 RX11 cX11_ring 4 none (inM "ring") 44 (s_push (.int 1) 45) := snd_iconst (n := 1) (by decide +kernel) (by decide)
  have h45 : Snd 1 RX11 cX11_ring 4 none (inM "ring") 45 (s_iadd 46) := snd_iadd (by decide +kernel)
  have h46 : Snd 1 RX11 cX11_ring 4 none (inM "ring") 46 (s_ild 3 47) := snd_iload_n (j := 3) (by decide +kernel) rfl
  have h47 : Snd 1 RX11 cX11_ring 4 none (inM "ring") 47 (s_iast 48) := snd_iast (by decide +kernel)
  have h48 : Snd 1 RX11 cX11_ring 4 none (inM "ring") 48 (s_inc 2 1 51) := snd_iinc (y := 1) (by decide +kernel) (by decide)
  have h51 : Snd 1 RX11 cX11_ring 4 none (inM "ring") 51 (s_inc 2 1 54) := snd_iinc (y := 1) (by decide +kernel) (by decide)
  have h54 : Snd 1 RX11 cX11_ring 4 none (inM "ring") 54 (s_goto 2) := snd_goto (off := -52) (by decide +kernel) (by decide)
  have h57 : Snd 1 RX11 cX11_ring 4 none (inM "ring") 57 (s_vret) := snd_vret (by decide +kernel)
  exact fun pc => snd_ite (snd_ite (snd_ite (snd_ite (snd_ite (snd_leaf (k := 0) h0) (snd_leaf (k := 1) h1)) (snd_ite (snd_leaf (k := 2) h2) (snd_leaf (k := 3) h3))) (snd_ite (snd_ite (snd_leaf (k := 4) h4) (snd_leaf (k := 7) h7)) (snd_ite (snd_leaf (k := 10) h10) (snd_ite (snd_leaf (k := 11) h11) (snd_leaf (k := 12) h12))))) (snd_ite (snd_ite (snd_ite (snd_leaf (k := 13) h13) (snd_leaf (k := 14) h14)) (snd_ite (snd_leaf (k := 15) h15) (snd_ite (snd_leaf (k := 18) h18) (snd_leaf (k := 19) h19)))) (snd_ite (snd_ite (snd_leaf (k := 22) h22) (snd_leaf (k := 23) h23)) (snd_ite (snd_leaf (k := 24) h24) (snd_ite (snd_leaf (k := 25) h25) (snd_leaf (k := 26) h26)))))) (snd_ite (snd_ite (snd_ite (snd_ite (snd_leaf (k := 29) h29) (snd_leaf (k := 30) h30)) (snd_ite (snd_leaf (k := 31) h31) (snd_leaf (k := 34) h34))) (snd_ite (snd_ite (snd_leaf (k := 35) h35) (snd_leaf (k := 36) h36)) (snd_ite (snd_leaf (k := 37) h37) (snd_ite (snd_leaf (k := 38) h38) (snd_leaf (k := 39) h39))))) (snd_ite (snd_ite (snd_ite (snd_leaf (k := 40) h40) (snd_leaf (k := 43) h43)) (snd_ite (snd_leaf (k := 44) h44) (snd_ite (snd_leaf (k := 45) h45) (snd_leaf (k := 46) h46)))) (snd_ite (snd_ite (snd_leaf (k := 47) h47) (snd_leaf (k := 48) h48)) (snd_ite (snd_leaf (k := 51) h51) (snd_ite (snd_leaf (k := 54) h54) (snd_leaf (k := 57) h57))))))

def kX11_number : Nat → Stq := fun pc => if pc < 15 then (if pc < 5 then (if pc < 2 then (if pc < 1 then (if pc = 0 then s_push (.int 0) 1 else s_bad) else (if pc = 1 then s_ist 1 2 else s_bad)) else (if pc < 3 then (if pc = 2 then s_push (.int 1) 3 else s_bad) else (if pc < 4 then (if pc = 3 then s_ist 2 4 else s_bad) else (if pc = 4 then s_ild 2 5 else s_bad)))) else (if pc < 9 then (if pc < 6 then (if pc = 5 then s_ald 0 6 else s_bad) else (if pc = 6 then s_invv 10 0 pX11_many 9 else s_bad)) else (if pc < 12 then (if pc = 9 then s_icgt 30 12 else s_bad) else (if pc < 14 then (if pc = 12 then s_push (.int 10) 14 else s_bad) else (if pc = 14 then s_ild 1 15 else s_bad))))) else (if pc < 22 then (if pc < 17 then (if pc < 16 then (if pc = 15 then s_imul 16 else s_bad) else (if pc = 16 then s_ald 0 17 else s_bad)) else (if pc < 20 then (if pc = 17 then s_getf 10 12 20 else s_bad) else (if pc < 21 then (if pc = 20 then s_ild 2 21 else s_bad) else (if pc = 21 then s_iald 22 else s_bad)))) else (if pc < 27 then (if pc < 23 then (if pc = 22 then s_iadd 23 else s_bad) else (if pc < 24 then (if pc = 23 then s_ist 1 24 else s_bad) else (if pc = 24 then s_inc 2 1 27 else s_bad))) else (if pc < 30 then (if pc = 27 then s_goto 4 else s_bad) else (if pc < 31 then (if pc = 30 then s_ild 1 31 else s_bad) else (if pc = 31 then s_iret else s_bad)))))
set_option maxRecDepth 20000 in
theorem sX11_number : ∀ pc, Snd 1 RX11 cX11_number 3 (some .int) (inM "number") pc (kX11_number pc) := by
  have h0 : Snd 1 RX11 cX11_number 3 (some .int) (inM "number") 0 (s_push (.int 0) 1) := snd_iconst (n := 0) (by decide +kernel) (by decide)
  have h1 : Snd 1 RX11 cX11_number 3 (some .int) (inM "number") 1 (s_ist 1 2) := snd_istore_n (j := 1) (by decide +kernel) rfl
  have h2 : Snd 1 RX11 cX11_number 3 (some .int) (inM "number") 2 (s_push (.int 1) 3) := snd_iconst (n := 1) (by decide +kernel) (by decide)
  have h3 : Snd 1 RX11 cX11_number 3 (some .int) (inM "number") 3 (s_ist 2 4) := snd_istore_n (j := 2) (by decide +kernel) rfl
  have h4 : Snd 1 RX11 cX11_number 3 (some .int) (inM "number") 4 (s_ild 2 5) := snd_iload_n (j := 2) (by decide +kernel) rfl
  have h5 : Snd 1 RX11 cX11_number 3 (some .int) (inM "number") 5 (s_ald 0 6) := snd_aload_n (j := 0) (by decide +kernel) rfl
  have h6 : Snd 1 RX11 cX11_number 3 (some .int) (inM "number") 6 (s_invv 10 0 pX11_many 9) := snd_invv cI_10 oX11_many (by decide) (by decide) g_856 g_853 g_855 g_24 g_81 ⟨by decide, by decide, by decide +kernel⟩ (by decide +kernel)
  have h9 : Snd 1 RX11 cX11_number 3 (some .int) (inM "number") 9 (s_icgt 30 12) := snd_icgt (off := 21) (by decide +kernel) (by decide)
  have h12 : Snd 1 RX11 cX11_number 3 (some .int) (inM "number") 12 (s_push (.int 10) 14) := snd_bipush (n := 10) (by decide +kernel) (by decide)
  have h14 : Snd 1 RX11 cX11_number 3 (some .int) (inM "number") 14 (s_ild 1 15) := snd_iload_n (j := 1) (by decide +kernel) rfl
  have h15 : Snd 1 RX11 cX11_number 3 (some .int) (inM "number") 15 (s_imul 16) := snd_imul (by decide +kernel)
  have h16 : Snd 1 RX11 cX11_number 3 (some .int) (inM "number") 16 (s_ald 0 17) := snd_aload_n (j := 0) (by decide +kernel) rfl
  have h17 : Snd 1 RX11 cX11_number 3 (some .int) (inM "number") 17 (s_getf 10 12 20) := snd_getf (T := TX11) (f := 12) cI_10 (by decide) g_781 (by decide +kernel)
  have h20 : Snd 1 RX11 cX11_number 3 (some .int) (inM "number") 20 (s_ild 2 21) := snd_iload_n (j := 2) (by decide +kernel) rfl
  have h21 : Snd 1 RX11 cX11_number 3 (some .int) (inM "number") 21 (s_iald 22) := snd_iald (by decide +kernel)
  have h22 : Snd 1 RX11 cX11_number 3 (some .int) (inM "number") 22 (s_iadd 23) := snd_iadd (by decide +kernel)
  have h23 : Snd 1 RX11 cX11_number 3 (some .int) (inM "number") 23 (s_ist 1 24) := snd_istore_n (j := 1) (by decide +kernel) rfl
  have h24 : Snd 1 RX11 cX11_number 3 (some .int) (inM "number") 24 (s_inc 2 1 27) := snd_iinc (y := 1) (by decide +kernel) (by decide)
  have h27 : Snd 1 RX11 cX11_number 3 (some .int) (inM "number") 27 (s_goto 4) := snd_goto (off := -23) (by decide +kernel) (by decide)
  have h30 : Snd 1 RX11 cX11_number 3 (some .int) (inM "number") 30 (s_ild 1 31) := snd_iload_n (j := 1) (by decide +kernel) rfl
  have h31 : Snd 1 RX11 cX11_number 3 (some .int) (inM "number") 31 (s_iret) := snd_iret (by decide +kernel)
  exact fun pc => snd_ite (snd_ite (snd_ite (snd_ite (snd_leaf (k := 0) h0) (snd_leaf (k := 1) h1)) (snd_ite (snd_leaf (k := 2) h2) (snd_ite (snd_leaf (k := 3) h3) (snd_leaf (k := 4) h4)))) (snd_ite (snd_ite (snd_leaf (k := 5) h5) (snd_leaf (k := 6) h6)) (snd_ite (snd_leaf (k := 9) h9) (snd_ite (snd_leaf (k := 12) h12) (snd_leaf (k := 14) h14))))) (snd_ite (snd_ite (snd_ite (snd_leaf (k := 15) h15) (snd_leaf (k := 16) h16)) (snd_ite (snd_leaf (k := 17) h17) (snd_ite (snd_leaf (k := 20) h20) (snd_leaf (k := 21) h21)))) (snd_ite (snd_ite (snd_leaf (k := 22) h22) (snd_ite (snd_leaf (k := 23) h23) (snd_leaf (k := 24) h24))) (snd_ite (snd_leaf (k := 27) h27) (snd_ite (snd_leaf (k := 30) h30) (snd_leaf (k := 31) h31)))))

def kX11_rank : Nat → Stq := fun pc => if pc < 40 then (if pc < 16 then (if pc < 6 then (if pc < 3 then (if pc < 1 then (if pc = 0 then s_push (.int 0) 1 else s_bad) else (if pc < 2 then (if pc = 1 then s_ist 1 2 else s_bad) else (if pc = 2 then s_push (.int 1) 3 else s_bad))) else (if pc < 4 then (if pc = 3 then s_ist 2 4 else s_bad) else (if pc < 5 then (if pc = 4 then s_frg 4 (s_frg 3 (s_ild 2 5)) else s_bad) else (if pc = 5 then s_ald 0 6 else s_bad)))) else (if pc < 13 then (if pc < 9 then (if pc = 6 then s_invv 10 0 pX11_many 9 else s_bad) else (if pc < 12 then (if pc = 9 then s_icgt 77 12 else s_bad) else (if pc = 12 then s_push (.int 0) 13 else s_bad))) else (if pc < 14 then (if pc = 13 then s_ist 3 14 else s_bad) else (if pc < 15 then (if pc = 14 then s_ild 2 15 else s_bad) else (if pc = 15 then s_push (.int 1) 16 else s_bad))))) else (if pc < 28 then (if pc < 21 then (if pc < 17 then (if pc = 16 then s_iadd 17 else s_bad) else (if pc < 19 then (if pc = 17 then s_ist 4 19 else s_bad) else (if pc = 19 then s_ild 4 21 else s_bad))) else (if pc < 22 then (if pc = 21 then s_ald 0 22 else s_bad) else (if pc < 25 then (if pc = 22 then s_invv 10 0 pX11_many 25 else s_bad) else (if pc = 25 then s_icgt 58 28 else s_bad)))) else (if pc < 33 then (if pc < 29 then (if pc = 28 then s_ild 3 29 else s_bad) else (if pc < 30 then (if pc = 29 then s_ald 0 30 else s_bad) else (if pc = 30 then s_getf 10 12 33 else s_bad))) else (if pc < 36 then (if pc < 35 then (if pc = 33 then s_ild 4 35 else s_bad) else (if pc = 35 then s_iald 36 else s_bad)) else (if pc < 37 then (if pc = 36 then s_ald 0 37 else s_bad) else (if pc = 37 then s_getf 10 12 40 else s_bad)))))) else (if pc < 60 then (if pc < 50 then (if pc < 45 then (if pc < 41 then (if pc = 40 then s_ild 2 41 else s_bad) else (if pc < 42 then (if pc = 41 then s_iald 42 else s_bad) else (if pc = 42 then s_icge 49 45 else s_bad))) else (if pc < 46 then (if pc = 45 then s_push (.int 1) 46 else s_bad) else (if pc < 49 then (if pc = 46 then s_goto 50 else s_bad) else (if pc = 49 then s_push (.int 0) 50 else s_bad)))) else (if pc < 55 then (if pc < 51 then (if pc = 50 then s_iadd 51 else s_bad) else (if pc < 52 then (if pc = 51 then s_ist 3 52 else s_bad) else (if pc = 52 then s_inc 4 1 55 else s_bad))) else (if pc < 58 then (if pc = 55 then s_goto 19 else s_bad) else (if pc < 59 then (if pc = 58 then s_ild 1 59 else s_bad) else (if pc = 59 then s_ald 0 60 else s_bad))))) else (if pc < 68 then (if pc < 65 then (if pc < 63 then (if pc = 60 then s_invv 10 0 pX11_many 63 else s_bad) else (if pc < 64 then (if pc = 63 then s_push (.int 1) 64 else s_bad) else (if pc = 64 then s_iadd 65 else s_bad))) else (if pc < 66 then (if pc = 65 then s_ild 2 66 else s_bad) else (if pc < 67 then (if pc = 66 then s_isub 67 else s_bad) else (if pc = 67 then s_imul 68 else s_bad)))) else (if pc < 71 then (if pc < 69 then (if pc = 68 then s_ild 3 69 else s_bad) else (if pc < 70 then (if pc = 69 then s_iadd 70 else s_bad) else (if pc = 70 then s_ist 1 71 else s_bad))) else (if pc < 77 then (if pc < 74 then (if pc = 71 then s_inc 2 1 74 else s_bad) else (if pc = 74 then s_goto 4 else s_bad)) else (if pc < 78 then (if pc = 77 then s_ild 1 78 else s_bad) else (if pc = 78 then s_iret else s_bad))))))
set_option maxRecDepth 20000 in
theorem sX11_rank : ∀ pc, Snd 1 RX11 cX11_rank 5 (some .int) (inM "rank") pc (kX11_rank pc) := by
  have h0 : Snd 1 RX11 cX11_rank 5 (some .int) (inM "rank") 0 (s_push (.int 0) 1) := snd_iconst (n := 0) (by decide +kernel) (by decide)
  have h1 : Snd 1 RX11 cX11_rank 5 (some .int) (inM "rank") 1 (s_ist 1 2) := snd_istore_n (j := 1) (by decide +kernel) rfl
  have h2 : Snd 1 RX11 cX11_rank 5 (some .int) (inM "rank") 2 (s_push (.int 1) 3) := snd_iconst (n := 1) (by decide +kernel) (by decide)
  have h3 : Snd 1 RX11 cX11_rank 5 (some .int) (inM "rank") 3 (s_ist 2 4) := snd_istore_n (j := 2) (by decide +kernel) rfl
  have h4 : Snd 1 RX11 cX11_rank 5 (some .int) (inM "rank") 4 (s_frg 4 (s_frg 3 (s_ild 2 5))) := snd_frg (snd_frg (snd_iload_n (j := 2) (by decide +kernel) rfl))
  have h5 : Snd 1 RX11 cX11_rank 5 (some .int) (inM "rank") 5 (s_ald 0 6) := snd_aload_n (j := 0) (by decide +kernel) rfl
  have h6 : Snd 1 RX11 cX11_rank 5 (some .int) (inM "rank") 6 (s_invv 10 0 pX11_many 9) := snd_invv cI_10 oX11_many (by decide) (by decide) g_856 g_853 g_855 g_24 g_81 ⟨by decide, by decide, by decide +kernel⟩ (by decide +kernel)
  have h9 : Snd 1 RX11 cX11_rank 5 (some .int) (inM "rank") 9 (s_icgt 77 12) := snd_icgt (off := 68) (by decide +kernel) (by decide)
  have h12 : Snd 1 RX11 cX11_rank 5 (some .int) (inM "rank") 12 (s_push (.int 0) 13) := snd_iconst (n := 0) (by decide +kernel) (by decide)
  have h13 : Snd 1 RX11 cX11_rank 5 (some .int) (inM "rank") 13 (s_ist 3 14) := snd_istore_n (j := 3) (by decide +kernel) rfl
  have h14 : Snd 1 RX11 cX11_rank 5 (some .int) (inM "rank") 14 (s_ild 2 15) := snd_iload_n (j := 2) (by decide +kernel) rfl
  have h15 : Snd 1 RX11 cX11_rank 5 (some .int) (inM "rank") 15 (s_push (.int 1) 16) := snd_iconst (n := 1) (by decide +kernel) (by decide)
  have h16 : Snd 1 RX11 cX11_rank 5 (some .int) (inM "rank") 16 (s_iadd 17) := snd_iadd (by decide +kernel)
  have h17 : Snd 1 RX11 cX11_rank 5 (some .int) (inM "rank") 17 (s_ist 4 19) := snd_istore (by decide +kernel)
  have h19 : Snd 1 RX11 cX11_rank 5 (some .int) (inM "rank") 19 (s_ild 4 21) := snd_iload (by decide +kernel)
  have h21 : Snd 1 RX11 cX11_rank 5 (some .int) (inM "rank") 21 (s_ald 0 22) := snd_aload_n (j := 0) (by decide +kernel) rfl
  have h22 : Snd 1 RX11 cX11_rank 5 (some .int) (inM "rank") 22 (s_invv 10 0 pX11_many 25) := snd_invv cI_10 oX11_many (by decide) (by decide) g_856 g_853 g_855 g_24 g_81 ⟨by decide, by decide, by decide +kernel⟩ (by decide +kernel)
  have h25 : Snd 1 RX11 cX11_rank 5 (some .int) (inM "rank") 25 (s_icgt 58 28) := snd_icgt (off := 33) (by decide +kernel) (by decide)
  have h28 : Snd 1 RX11 cX11_rank 5 (some .int) (inM "rank") 28 (s_ild 3 29) := snd_iload_n (j := 3) (by decide +kernel) rfl
  have h29 : Snd 1 RX11 cX11_rank 5 (some .int) (inM "rank") 29 (s_ald 0 30) := snd_aload_n (j := 0) (by decide +kernel) rfl
  have h30 : Snd 1 RX11 cX11_rank 5 (some .int) (inM "rank") 30 (s_getf 10 12 33) := snd_getf (T := TX11) (f := 12) cI_10 (by decide) g_781 (by decide +kernel)
  have h33 : Snd 1 RX11 cX11_rank 5 (some .int) (inM "rank") 33 (s_ild 4 35) := snd_iload (by decide +kernel)
  have h35 : Snd 1 RX11 cX11_rank 5 (some .int) (inM "rank") 35 (s_iald 36) := snd_iald (by decide +kernel)
  have h36 : Snd 1 RX11 cX11_rank 5 (some .int) (inM "rank") 36 (s_ald 0 37) := snd_aload_n (j := 0) (by decide +kernel) rfl
  have h37 : Snd 1 RX11 cX11_rank 5 (some .int) (inM "rank") 37 (s_getf 10 12 40) := snd_getf (T := TX11) (f := 12) cI_10 (by decide) g_781 (by decide +kernel)
  have h40 : Snd 1 RX11 cX11_rank 5 (some .int) (inM "rank") 40 (s_ild 2 41) := snd_iload_n (j := 2) (by decide +kernel) rfl
  have h41 : Snd 1 RX11 cX11_rank 5 (some .int) (inM "rank") 41 (s_iald 42) := snd_iald (by decide +kernel)
  have h42 : Snd 1 RX11 cX11_rank 5 (some .int) (inM "rank") 42 (s_icge 49 45) := snd_icge (off := 7) (by decide +kernel) (by decide)
  have h45 : Snd 1 RX11 cX11_rank 5 (some .int) (inM "rank") 45 (s_push (.int 1) 46) := snd_iconst (n := 1) (by decide +kernel) (by decide)
  have h46 : Snd 1 RX11 cX11_rank 5 (some .int) (inM "rank") 46 (s_goto 50) := snd_goto (off := 4) (by decide +kernel) (by decide)
  have h49 : Snd 1 RX11 cX11_rank 5 (some .int) (inM "rank") 49 (s_push (.int 0) 50) := snd_iconst (n := 0) (by decide +kernel) (by decide)
  have h50 : Snd 1 RX11 cX11_rank 5 (some .int) (inM "rank") 50 (s_iadd 51) := snd_iadd (by decide +kernel)
  have h51 : Snd 1 RX11 cX11_rank 5 (some .int) (inM "rank") 51 (s_ist 3 52) := snd_istore_n (j := 3) (by decide +kernel) rfl
  have h52 : Snd 1 RX11 cX11_rank 5 (some .int) (inM "rank") 52 (s_inc 4 1 55) := snd_iinc (y := 1) (by decide +kernel) (by decide)
  have h55 : Snd 1 RX11 cX11_rank 5 (some .int) (inM "rank") 55 (s_goto 19) := snd_goto (off := -36) (by decide +kernel) (by decide)
  have h58 : Snd 1 RX11 cX11_rank 5 (some .int) (inM "rank") 58 (s_ild 1 59) := snd_iload_n (j := 1) (by decide +kernel) rfl
  have h59 : Snd 1 RX11 cX11_rank 5 (some .int) (inM "rank") 59 (s_ald 0 60) := snd_aload_n (j := 0) (by decide +kernel) rfl
  have h60 : Snd 1 RX11 cX11_rank 5 (some .int) (inM "rank") 60 (s_invv 10 0 pX11_many 63) := snd_invv cI_10 oX11_many (by decide) (by decide) g_856 g_853 g_855 g_24 g_81 ⟨by decide, by decide, by decide +kernel⟩ (by decide +kernel)
  have h63 : Snd 1 RX11 cX11_rank 5 (some .int) (inM "rank") 63 (s_push (.int 1) 64) := snd_iconst (n := 1) (by decide +kernel) (by decide)
  have h64 : Snd 1 RX11 cX11_rank 5 (some .int) (inM "rank") 64 (s_iadd 65) := snd_iadd (by decide +kernel)
  have h65 : Snd 1 RX11 cX11_rank 5 (some .int) (inM "rank") 65 (s_ild 2 66) := snd_iload_n (j := 2) (by decide +kernel) rfl
  have h66 : Snd 1 RX11 cX11_rank 5 (some .int) (inM "rank") 66 (s_isub 67) := snd_isub (by decide +kernel)
  have h67 : Snd 1 RX11 cX11_rank 5 (some .int) (inM "rank") 67 (s_imul 68) := snd_imul (by decide +kernel)
  have h68 : Snd 1 RX11 cX11_rank 5 (some .int) (inM "rank") 68 (s_ild 3 69) := snd_iload_n (j := 3) (by decide +kernel) rfl
  have h69 : Snd 1 RX11 cX11_rank 5 (some .int) (inM "rank") 69 (s_iadd 70) := snd_iadd (by decide +kernel)
  have h70 : Snd 1 RX11 cX11_rank 5 (some .int) (inM "rank") 70 (s_ist 1 71) := snd_istore_n (j := 1) (by decide +kernel) rfl
  have h71 : Snd 1 RX11 cX11_rank 5 (some .int) (inM "rank") 71 (s_inc 2 1 74) := snd_iinc (y := 1) (by decide +kernel) (by decide)
  have h74 : Snd 1 RX11 cX11_rank 5 (some .int) (inM "rank") 74 (s_goto 4) := snd_goto (off := -70) (by decide +kernel) (by decide)
  have h77 : Snd 1 RX11 cX11_rank 5 (some .int) (inM "rank") 77 (s_ild 1 78) := snd_iload_n (j := 1) (by decide +kernel) rfl
  have h78 : Snd 1 RX11 cX11_rank 5 (some .int) (inM "rank") 78 (s_iret) := snd_iret (by decide +kernel)
  exact fun pc => snd_ite (snd_ite (snd_ite (snd_ite (snd_ite (snd_leaf (k := 0) h0) (snd_ite (snd_leaf (k := 1) h1) (snd_leaf (k := 2) h2))) (snd_ite (snd_leaf (k := 3) h3) (snd_ite (snd_leaf (k := 4) h4) (snd_leaf (k := 5) h5)))) (snd_ite (snd_ite (snd_leaf (k := 6) h6) (snd_ite (snd_leaf (k := 9) h9) (snd_leaf (k := 12) h12))) (snd_ite (snd_leaf (k := 13) h13) (snd_ite (snd_leaf (k := 14) h14) (snd_leaf (k := 15) h15))))) (snd_ite (snd_ite (snd_ite (snd_leaf (k := 16) h16) (snd_ite (snd_leaf (k := 17) h17) (snd_leaf (k := 19) h19))) (snd_ite (snd_leaf (k := 21) h21) (snd_ite (snd_leaf (k := 22) h22) (snd_leaf (k := 25) h25)))) (snd_ite (snd_ite (snd_leaf (k := 28) h28) (snd_ite (snd_leaf (k := 29) h29) (snd_leaf (k := 30) h30))) (snd_ite (snd_ite (snd_leaf (k := 33) h33) (snd_leaf (k := 35) h35)) (snd_ite (snd_leaf (k := 36) h36) (snd_leaf (k := 37) h37)))))) (snd_ite (snd_ite (snd_ite (snd_ite (snd_leaf (k := 40) h40) (snd_ite (snd_leaf (k := 41) h41) (snd_leaf (k := 42) h42))) (snd_ite (snd_leaf (k := 45) h45) (snd_ite (snd_leaf (k := 46) h46) (snd_leaf (k := 49) h49)))) (snd_ite (snd_ite (snd_leaf (k := 50) h50) (snd_ite (snd_leaf (k := 51) h51) (snd_leaf (k := 52) h52))) (snd_ite (snd_leaf (k := 55) h55) (snd_ite (snd_leaf (k := 58) h58) (snd_leaf (k := 59) h59))))) (snd_ite (snd_ite (snd_ite (snd_leaf (k := 60) h60) (snd_ite (snd_leaf (k := 63) h63) (snd_leaf (k := 64) h64))) (snd_ite (snd_leaf (k := 65) h65) (snd_ite (snd_leaf (k := 66) h66) (snd_leaf (k := 67) h67)))) (snd_ite (snd_ite (snd_leaf (k := 68) h68) (snd_ite (snd_leaf (k := 69) h69) (snd_leaf (k := 70) h70))) (snd_ite (snd_ite (snd_leaf (k := 71) h71) (snd_leaf (k := 74) h74)) (snd_ite (snd_leaf (k := 77) h77) (snd_leaf (k := 78) h78))))))

def kX11_layRank : Nat → Stq := fun pc => if pc < 59 then (if pc < 28 then (if pc < 16 then (if pc < 7 then (if pc < 2 then (if pc < 1 then (if pc = 0 then s_ild 1 1 else s_bad) else (if pc = 1 then s_ist 2 2 else s_bad)) else (if pc < 3 then (if pc = 2 then s_ald 0 3 else s_bad) else (if pc < 6 then (if pc = 3 then s_invv 10 0 pX11_many 6 else s_bad) else (if pc = 6 then s_ist 3 7 else s_bad)))) else (if pc < 9 then (if pc < 8 then (if pc = 7 then s_ild 3 8 else s_bad) else (if pc = 8 then s_push (.int 1) 9 else s_bad)) else (if pc < 12 then (if pc = 9 then s_iclt 52 12 else s_bad) else (if pc < 13 then (if pc = 12 then s_ald 0 13 else s_bad) else (if pc = 13 then s_getf 10 12 16 else s_bad))))) else (if pc < 23 then (if pc < 18 then (if pc < 17 then (if pc = 16 then s_ild 3 17 else s_bad) else (if pc = 17 then s_ild 2 18 else s_bad)) else (if pc < 19 then (if pc = 18 then s_ald 0 19 else s_bad) else (if pc < 22 then (if pc = 19 then s_invv 10 0 pX11_many 22 else s_bad) else (if pc = 22 then s_push (.int 1) 23 else s_bad)))) else (if pc < 25 then (if pc < 24 then (if pc = 23 then s_iadd 24 else s_bad) else (if pc = 24 then s_ild 3 25 else s_bad)) else (if pc < 26 then (if pc = 25 then s_isub 26 else s_bad) else (if pc < 27 then (if pc = 26 then s_irem 27 else s_bad) else (if pc = 27 then s_iast 28 else s_bad)))))) else (if pc < 40 then (if pc < 35 then (if pc < 30 then (if pc < 29 then (if pc = 28 then s_ild 2 29 else s_bad) else (if pc = 29 then s_ald 0 30 else s_bad)) else (if pc < 33 then (if pc = 30 then s_invv 10 0 pX11_many 33 else s_bad) else (if pc < 34 then (if pc = 33 then s_push (.int 1) 34 else s_bad) else (if pc = 34 then s_iadd 35 else s_bad)))) else (if pc < 37 then (if pc < 36 then (if pc = 35 then s_ild 3 36 else s_bad) else (if pc = 36 then s_isub 37 else s_bad)) else (if pc < 38 then (if pc = 37 then s_idiv 38 else s_bad) else (if pc < 39 then (if pc = 38 then s_ist 2 39 else s_bad) else (if pc = 39 then s_ald 0 40 else s_bad))))) else (if pc < 49 then (if pc < 44 then (if pc < 43 then (if pc = 40 then s_getf 10 13 43 else s_bad) else (if pc = 43 then s_ild 3 44 else s_bad)) else (if pc < 45 then (if pc = 44 then s_push (.int 0) 45 else s_bad) else (if pc < 46 then (if pc = 45 then s_zast 46 else s_bad) else (if pc = 46 then s_inc 3 (-1) 49 else s_bad)))) else (if pc < 54 then (if pc < 52 then (if pc = 49 then s_goto 7 else s_bad) else (if pc < 53 then (if pc = 52 then s_push (.int 1) 53 else s_bad) else (if pc = 53 then s_ist 3 54 else s_bad))) else (if pc < 55 then (if pc = 54 then s_frg 5 (s_frg 4 (s_ild 3 55)) else s_bad) else (if pc < 56 then (if pc = 55 then s_ald 0 56 else s_bad) else (if pc = 56 then s_invv 10 0 pX11_many 59 else s_bad))))))) else (if pc < 97 then (if pc < 77 then (if pc < 68 then (if pc < 63 then (if pc < 62 then (if pc = 59 then s_icgt 136 62 else s_bad) else (if pc = 62 then s_ald 0 63 else s_bad)) else (if pc < 66 then (if pc = 63 then s_getf 10 12 66 else s_bad) else (if pc < 67 then (if pc = 66 then s_ild 3 67 else s_bad) else (if pc = 67 then s_iald 68 else s_bad)))) else (if pc < 71 then (if pc < 70 then (if pc = 68 then s_ist 4 70 else s_bad) else (if pc = 70 then s_push (.int 1) 71 else s_bad)) else (if pc < 73 then (if pc = 71 then s_ist 5 73 else s_bad) else (if pc < 74 then (if pc = 73 then s_ald 0 74 else s_bad) else (if pc = 74 then s_getf 10 13 77 else s_bad))))) else (if pc < 88 then (if pc < 80 then (if pc < 79 then (if pc = 77 then s_ild 5 79 else s_bad) else (if pc = 79 then s_zald 80 else s_bad)) else (if pc < 83 then (if pc = 80 then s_ifne 88 83 else s_bad) else (if pc < 85 then (if pc = 83 then s_ild 4 85 else s_bad) else (if pc = 85 then s_ifle 114 88 else s_bad)))) else (if pc < 91 then (if pc < 90 then (if pc = 88 then s_ild 4 90 else s_bad) else (if pc = 90 then s_ald 0 91 else s_bad)) else (if pc < 94 then (if pc = 91 then s_getf 10 13 94 else s_bad) else (if pc < 96 then (if pc = 94 then s_ild 5 96 else s_bad) else (if pc = 96 then s_zald 97 else s_bad)))))) else (if pc < 118 then (if pc < 106 then (if pc < 101 then (if pc < 100 then (if pc = 97 then s_ifeq 104 100 else s_bad) else (if pc = 100 then s_push (.int 0) 101 else s_bad)) else (if pc < 104 then (if pc = 101 then s_goto 105 else s_bad) else (if pc < 105 then (if pc = 104 then s_push (.int 1) 105 else s_bad) else (if pc = 105 then s_isub 106 else s_bad)))) else (if pc < 111 then (if pc < 108 then (if pc = 106 then s_ist 4 108 else s_bad) else (if pc = 108 then s_inc 5 1 111 else s_bad)) else (if pc < 114 then (if pc = 111 then s_goto 73 else s_bad) else (if pc < 115 then (if pc = 114 then s_ald 0 115 else s_bad) else (if pc = 115 then s_getf 10 13 118 else s_bad))))) else (if pc < 126 then (if pc < 121 then (if pc < 120 then (if pc = 118 then s_ild 5 120 else s_bad) else (if pc = 120 then s_push (.int 1) 121 else s_bad)) else (if pc < 122 then (if pc = 121 then s_zast 122 else s_bad) else (if pc < 123 then (if pc = 122 then s_ald 0 123 else s_bad) else (if pc = 123 then s_getf 10 12 126 else s_bad)))) else (if pc < 130 then (if pc < 127 then (if pc = 126 then s_ild 3 127 else s_bad) else (if pc < 129 then (if pc = 127 then s_ild 5 129 else s_bad) else (if pc = 129 then s_iast 130 else s_bad))) else (if pc < 133 then (if pc = 130 then s_inc 3 1 133 else s_bad) else (if pc < 136 then (if pc = 133 then s_goto 54 else s_bad) else (if pc = 136 then s_vret else s_bad)))))))
set_option maxRecDepth 20000 in
theorem sX11_layRank : ∀ pc, Snd 1 RX11 cX11_layRank 6 none (inM "layRank") pc (kX11_layRank pc) := by
  have h0 : Snd 1 RX11 cX11_layRank 6 none (inM "layRank") 0 (s_ild 1 1) := snd_iload_n (j := 1) (by decide +kernel) rfl
  have h1 : Snd 1 RX11 cX11_layRank 6 none (inM "layRank") 1 (s_ist 2 2) := snd_istore_n (j := 2) (by decide +kernel) rfl
  have h2 : Snd 1 RX11 cX11_layRank 6 none (inM "layRank") 2 (s_ald 0 3) := snd_aload_n (j := 0) (by decide +kernel) rfl
  have h3 : Snd 1 RX11 cX11_layRank 6 none (inM "layRank") 3 (s_invv 10 0 pX11_many 6) := snd_invv cI_10 oX11_many (by decide) (by decide) g_856 g_853 g_855 g_24 g_81 ⟨by decide, by decide, by decide +kernel⟩ (by decide +kernel)
  have h6 : Snd 1 RX11 cX11_layRank 6 none (inM "layRank") 6 (s_ist 3 7) := snd_istore_n (j := 3) (by decide +kernel) rfl
  have h7 : Snd 1 RX11 cX11_layRank 6 none (inM "layRank") 7 (s_ild 3 8) := snd_iload_n (j := 3) (by decide +kernel) rfl
  have h8 : Snd 1 RX11 cX11_layRank 6 none (inM "layRank") 8 (s_push (.int 1) 9) := snd_iconst (n := 1) (by decide +kernel) (by decide)
  have h9 : Snd 1 RX11 cX11_layRank 6 none (inM "layRank") 9 (s_iclt 52 12) := snd_iclt (off := 43) (by decide +kernel) (by decide)
  have h12 : Snd 1 RX11 cX11_layRank 6 none (inM "layRank") 12 (s_ald 0 13) := snd_aload_n (j := 0) (by decide +kernel) rfl
  have h13 : Snd 1 RX11 cX11_layRank 6 none (inM "layRank") 13 (s_getf 10 12 16) := snd_getf (T := TX11) (f := 12) cI_10 (by decide) g_781 (by decide +kernel)
  have h16 : Snd 1 RX11 cX11_layRank 6 none (inM "layRank") 16 (s_ild 3 17) := snd_iload_n (j := 3) (by decide +kernel) rfl
  have h17 : Snd 1 RX11 cX11_layRank 6 none (inM "layRank") 17 (s_ild 2 18) := snd_iload_n (j := 2) (by decide +kernel) rfl
  have h18 : Snd 1 RX11 cX11_layRank 6 none (inM "layRank") 18 (s_ald 0 19) := snd_aload_n (j := 0) (by decide +kernel) rfl
  have h19 : Snd 1 RX11 cX11_layRank 6 none (inM "layRank") 19 (s_invv 10 0 pX11_many 22) := snd_invv cI_10 oX11_many (by decide) (by decide) g_856 g_853 g_855 g_24 g_81 ⟨by decide, by decide, by decide +kernel⟩ (by decide +kernel)
  have h22 : Snd 1 RX11 cX11_layRank 6 none (inM "layRank") 22 (s_push (.int 1) 23) := snd_iconst (n := 1) (by decide +kernel) (by decide)
  have h23 : Snd 1 RX11 cX11_layRank 6 none (inM "layRank") 23 (s_iadd 24) := snd_iadd (by decide +kernel)
  have h24 : Snd 1 RX11 cX11_layRank 6 none (inM "layRank") 24 (s_ild 3 25) := snd_iload_n (j := 3) (by decide +kernel) rfl
  have h25 : Snd 1 RX11 cX11_layRank 6 none (inM "layRank") 25 (s_isub 26) := snd_isub (by decide +kernel)
  have h26 : Snd 1 RX11 cX11_layRank 6 none (inM "layRank") 26 (s_irem 27) := snd_irem (by decide +kernel)
  have h27 : Snd 1 RX11 cX11_layRank 6 none (inM "layRank") 27 (s_iast 28) := snd_iast (by decide +kernel)
  have h28 : Snd 1 RX11 cX11_layRank 6 none (inM "layRank") 28 (s_ild 2 29) := snd_iload_n (j := 2) (by decide +kernel) rfl
  have h29 : Snd 1 RX11 cX11_layRank 6 none (inM "layRank") 29 (s_ald 0 30) := snd_aload_n (j := 0) (by decide +kernel) rfl
  have h30 : Snd 1 RX11 cX11_layRank 6 none (inM "layRank") 30 (s_invv 10 0 pX11_many 33) := snd_invv cI_10 oX11_many (by decide) (by decide) g_856 g_853 g_855 g_24 g_81 ⟨by decide, by decide, by decide +kernel⟩ (by decide +kernel)
  have h33 : Snd 1 RX11 cX11_layRank 6 none (inM "layRank") 33 (s_push (.int 1) 34) := snd_iconst (n := 1) (by decide +kernel) (by decide)
  have h34 : Snd 1 RX11 cX11_layRank 6 none (inM "layRank") 34 (s_iadd 35) := snd_iadd (by decide +kernel)
  have h35 : Snd 1 RX11 cX11_layRank 6 none (inM "layRank") 35 (s_ild 3 36) := snd_iload_n (j := 3) (by decide +kernel) rfl
  have h36 : Snd 1 RX11 cX11_layRank 6 none (inM "layRank") 36 (s_isub 37) := snd_isub (by decide +kernel)
  have h37 : Snd 1 RX11 cX11_layRank 6 none (inM "layRank") 37 (s_idiv 38) := snd_idiv (by decide +kernel)
  have h38 : Snd 1 RX11 cX11_layRank 6 none (inM "layRank") 38 (s_ist 2 39) := snd_istore_n (j := 2) (by decide +kernel) rfl
  have h39 : Snd 1 RX11 cX11_layRank 6 none (inM "layRank") 39 (s_ald 0 40) := snd_aload_n (j := 0) (by decide +kernel) rfl
  have h40 : Snd 1 RX11 cX11_layRank 6 none (inM "layRank") 40 (s_getf 10 13 43) := snd_getf (T := TX11) (f := 13) cI_10 (by decide) g_782 (by decide +kernel)
  have h43 : Snd 1 RX11 cX11_layRank 6 none (inM "layRank") 43 (s_ild 3 44) := snd_iload_n (j := 3) (by decide +kernel) rfl
  have h44 : Snd 1 RX11 cX11_layRank 6 none (inM "layRank") 44 (s_push (.int 0) 45) := snd_iconst (n := 0) (by decide +kernel) (by decide)
  have h45 : Snd 1 RX11 cX11_layRank 6 none (inM "layRank") 45 (s_zast 46) := snd_zast (by decide +kernel)
  have h46 : Snd 1 RX11 cX11_layRank 6 none (inM "layRank") 46 (s_inc 3 (-1) 49) := snd_iinc (y := -1) (by decide +kernel) (by decide)
  have h49 : Snd 1 RX11 cX11_layRank 6 none (inM "layRank") 49 (s_goto 7) := snd_goto (off := -42) (by decide +kernel) (by decide)
  have h52 : Snd 1 RX11 cX11_layRank 6 none (inM "layRank") 52 (s_push (.int 1) 53) := snd_iconst (n := 1) (by decide +kernel) (by decide)
  have h53 : Snd 1 RX11 cX11_layRank 6 none (inM "layRank") 53 (s_ist 3 54) := snd_istore_n (j := 3) (by decide +kernel) rfl
  have h54 : Snd 1 RX11 cX11_layRank 6 none (inM "layRank") 54 (s_frg 5 (s_frg 4 (s_ild 3 55))) := snd_frg (snd_frg (snd_iload_n (j := 3) (by decide +kernel) rfl))
  have h55 : Snd 1 RX11 cX11_layRank 6 none (inM "layRank") 55 (s_ald 0 56) := snd_aload_n (j := 0) (by decide +kernel) rfl
  have h56 : Snd 1 RX11 cX11_layRank 6 none (inM "layRank") 56 (s_invv 10 0 pX11_many 59) := snd_invv cI_10 oX11_many (by decide) (by decide) g_856 g_853 g_855 g_24 g_81 ⟨by decide, by decide, by decide +kernel⟩ (by decide +kernel)
  have h59 : Snd 1 RX11 cX11_layRank 6 none (inM "layRank") 59 (s_icgt 136 62) := snd_icgt (off := 77) (by decide +kernel) (by decide)
  have h62 : Snd 1 RX11 cX11_layRank 6 none (inM "layRank") 62 (s_ald 0 63) := snd_aload_n (j := 0) (by decide +kernel) rfl
  have h63 : Snd 1 RX11 cX11_layRank 6 none (inM "layRank") 63 (s_getf 10 12 66) := snd_getf (T := TX11) (f := 12) cI_10 (by decide) g_781 (by decide +kernel)
  have h66 : Snd 1 RX11 cX11_layRank 6 none (inM "layRank") 66 (s_ild 3 67) := snd_iload_n (j := 3) (by decide +kernel) rfl
  have h67 : Snd 1 RX11 cX11_layRank 6 none (inM "layRank") 67 (s_iald 68) := snd_iald (by decide +kernel)
  have h68 : Snd 1 RX11 cX11_layRank 6 none (inM "layRank") 68 (s_ist 4 70) := snd_istore (by decide +kernel)
  have h70 : Snd 1 RX11 cX11_layRank 6 none (inM "layRank") 70 (s_push (.int 1) 71) := snd_iconst (n := 1) (by decide +kernel) (by decide)
  have h71 : Snd 1 RX11 cX11_layRank 6 none (inM "layRank") 71 (s_ist 5 73) := snd_istore (by decide +kernel)
  have h73 : Snd 1 RX11 cX11_layRank 6 none (inM "layRank") 73 (s_ald 0 74) := snd_aload_n (j := 0) (by decide +kernel) rfl
  have h74 : Snd 1 RX11 cX11_layRank 6 none (inM "layRank") 74 (s_getf 10 13 77) := snd_getf (T := TX11) (f := 13) cI_10 (by decide) g_782 (by decide +kernel)
  have h77 : Snd 1 RX11 cX11_layRank 6 none (inM "layRank") 77 (s_ild 5 79) := snd_iload (by decide +kernel)
  have h79 : Snd 1 RX11 cX11_layRank 6 none (inM "layRank") 79 (s_zald 80) := snd_zald (by decide +kernel)
  have h80 : Snd 1 RX11 cX11_layRank 6 none (inM "layRank") 80 (s_ifne 88 83) := snd_ifne (off := 8) (by decide +kernel) (by decide)
  have h83 : Snd 1 RX11 cX11_layRank 6 none (inM "layRank") 83 (s_ild 4 85) := snd_iload (by decide +kernel)
  have h85 : Snd 1 RX11 cX11_layRank 6 none (inM "layRank") 85 (s_ifle 114 88) := snd_ifle (off := 29) (by decide +kernel) (by decide)
  have h88 : Snd 1 RX11 cX11_layRank 6 none (inM "layRank") 88 (s_ild 4 90) := snd_iload (by decide +kernel)
  have h90 : Snd 1 RX11 cX11_layRank 6 none (inM "layRank") 90 (s_ald 0 91) := snd_aload_n (j := 0) (by decide +kernel) rfl
  have h91 : Snd 1 RX11 cX11_layRank 6 none (inM "layRank") 91 (s_getf 10 13 94) := snd_getf (T := TX11) (f := 13) cI_10 (by decide) g_782 (by decide +kernel)
  have h94 : Snd 1 RX11 cX11_layRank 6 none (inM "layRank") 94 (s_ild 5 96) := snd_iload (by decide +kernel)
  have h96 : Snd 1 RX11 cX11_layRank 6 none (inM "layRank") 96 (s_zald 97) := snd_zald (by decide +kernel)
  have h97 : Snd 1 RX11 cX11_layRank 6 none (inM "layRank") 97 (s_ifeq 104 100) := snd_ifeq (off := 7) (by decide +kernel) (by decide)
  have h100 : Snd 1 RX11 cX11_layRank 6 none (inM "layRank") 100 (s_push (.int 0) 101) := snd_iconst (n := 0) (by decide +kernel) (by decide)
  have h101 : Snd 1 RX11 cX11_layRank 6 none (inM "layRank") 101 (s_goto 105) := snd_goto (off := 4) (by decide +kernel) (by decide)
  have h104 : Snd 1 RX11 cX11_layRank 6 none (inM "layRank") 104 (s_push (.int 1) 105) := snd_iconst (n := 1) (by decide +kernel) (by decide)
  have h105 : Snd 1 RX11 cX11_layRank 6 none (inM "layRank") 105 (s_isub 106) := snd_isub (by decide +kernel)
  have h106 : Snd 1 RX11 cX11_layRank 6 none (inM "layRank") 106 (s_ist 4 108) := snd_istore (by decide +kernel)
  have h108 : Snd 1 RX11 cX11_layRank 6 none (inM "layRank") 108 (s_inc 5 1 111) := snd_iinc (y := 1) (by decide +kernel) (by decide)
  have h111 : Snd 1 RX11 cX11_layRank 6 none (inM "layRank") 111 (s_goto 73) := snd_goto (off := -38) (by decide +kernel) (by decide)
  have h114 : Snd 1 RX11 cX11_layRank 6 none (inM "layRank") 114 (s_ald 0 115) := snd_aload_n (j := 0) (by decide +kernel) rfl
  have h115 : Snd 1 RX11 cX11_layRank 6 none (inM "layRank") 115 (s_getf 10 13 118) := snd_getf (T := TX11) (f := 13) cI_10 (by decide) g_782 (by decide +kernel)
  have h118 : Snd 1 RX11 cX11_layRank 6 none (inM "layRank") 118 (s_ild 5 120) := snd_iload (by decide +kernel)
  have h120 : Snd 1 RX11 cX11_layRank 6 none (inM "layRank") 120 (s_push (.int 1) 121) := snd_iconst (n := 1) (by decide +kernel) (by decide)
  have h121 : Snd 1 RX11 cX11_layRank 6 none (inM "layRank") 121 (s_zast 122) := snd_zast (by decide +kernel)
  have h122 : Snd 1 RX11 cX11_layRank 6 none (inM "layRank") 122 (s_ald 0 123) := snd_aload_n (j := 0) (by decide +kernel) rfl
  have h123 : Snd 1 RX11 cX11_layRank 6 none (inM "layRank") 123 (s_getf 10 12 126) := snd_getf (T := TX11) (f := 12) cI_10 (by decide) g_781 (by decide +kernel)
  have h126 : Snd 1 RX11 cX11_layRank 6 none (inM "layRank") 126 (s_ild 3 127) := snd_iload_n (j := 3) (by decide +kernel) rfl
  have h127 : Snd 1 RX11 cX11_layRank 6 none (inM "layRank") 127 (s_ild 5 129) := snd_iload (by decide +kernel)
  have h129 : Snd 1 RX11 cX11_layRank 6 none (inM "layRank") 129 (s_iast 130) := snd_iast (by decide +kernel)
  have h130 : Snd 1 RX11 cX11_layRank 6 none (inM "layRank") 130 (s_inc 3 1 133) := snd_iinc (y := 1) (by decide +kernel) (by decide)
  have h133 : Snd 1 RX11 cX11_layRank 6 none (inM "layRank") 133 (s_goto 54) := snd_goto (off := -79) (by decide +kernel) (by decide)
  have h136 : Snd 1 RX11 cX11_layRank 6 none (inM "layRank") 136 (s_vret) := snd_vret (by decide +kernel)
  exact fun pc => snd_ite (snd_ite (snd_ite (snd_ite (snd_ite (snd_ite (snd_leaf (k := 0) h0) (snd_leaf (k := 1) h1)) (snd_ite (snd_leaf (k := 2) h2) (snd_ite (snd_leaf (k := 3) h3) (snd_leaf (k := 6) h6)))) (snd_ite (snd_ite (snd_leaf (k := 7) h7) (snd_leaf (k := 8) h8)) (snd_ite (snd_leaf (k := 9) h9) (snd_ite (snd_leaf (k := 12) h12) (snd_leaf (k := 13) h13))))) (snd_ite (snd_ite (snd_ite (snd_leaf (k := 16) h16) (snd_leaf (k := 17) h17)) (snd_ite (snd_leaf (k := 18) h18) (snd_ite (snd_leaf (k := 19) h19) (snd_leaf (k := 22) h22)))) (snd_ite (snd_ite (snd_leaf (k := 23) h23) (snd_leaf (k := 24) h24)) (snd_ite (snd_leaf (k := 25) h25) (snd_ite (snd_leaf (k := 26) h26) (snd_leaf (k := 27) h27)))))) (snd_ite (snd_ite (snd_ite (snd_ite (snd_leaf (k := 28) h28) (snd_leaf (k := 29) h29)) (snd_ite (snd_leaf (k := 30) h30) (snd_ite (snd_leaf (k := 33) h33) (snd_leaf (k := 34) h34)))) (snd_ite (snd_ite (snd_leaf (k := 35) h35) (snd_leaf (k := 36) h36)) (snd_ite (snd_leaf (k := 37) h37) (snd_ite (snd_leaf (k := 38) h38) (snd_leaf (k := 39) h39))))) (snd_ite (snd_ite (snd_ite (snd_leaf (k := 40) h40) (snd_leaf (k := 43) h43)) (snd_ite (snd_leaf (k := 44) h44) (snd_ite (snd_leaf (k := 45) h45) (snd_leaf (k := 46) h46)))) (snd_ite (snd_ite (snd_leaf (k := 49) h49) (snd_ite (snd_leaf (k := 52) h52) (snd_leaf (k := 53) h53))) (snd_ite (snd_leaf (k := 54) h54) (snd_ite (snd_leaf (k := 55) h55) (snd_leaf (k := 56) h56))))))) (snd_ite (snd_ite (snd_ite (snd_ite (snd_ite (snd_leaf (k := 59) h59) (snd_leaf (k := 62) h62)) (snd_ite (snd_leaf (k := 63) h63) (snd_ite (snd_leaf (k := 66) h66) (snd_leaf (k := 67) h67)))) (snd_ite (snd_ite (snd_leaf (k := 68) h68) (snd_leaf (k := 70) h70)) (snd_ite (snd_leaf (k := 71) h71) (snd_ite (snd_leaf (k := 73) h73) (snd_leaf (k := 74) h74))))) (snd_ite (snd_ite (snd_ite (snd_leaf (k := 77) h77) (snd_leaf (k := 79) h79)) (snd_ite (snd_leaf (k := 80) h80) (snd_ite (snd_leaf (k := 83) h83) (snd_leaf (k := 85) h85)))) (snd_ite (snd_ite (snd_leaf (k := 88) h88) (snd_leaf (k := 90) h90)) (snd_ite (snd_leaf (k := 91) h91) (snd_ite (snd_leaf (k := 94) h94) (snd_leaf (k := 96) h96)))))) (snd_ite (snd_ite (snd_ite (snd_ite (snd_leaf (k := 97) h97) (snd_leaf (k := 100) h100)) (snd_ite (snd_leaf (k := 101) h101) (snd_ite (snd_leaf (k := 104) h104) (snd_leaf (k := 105) h105)))) (snd_ite (snd_ite (snd_leaf (k := 106) h106) (snd_leaf (k := 108) h108)) (snd_ite (snd_leaf (k := 111) h111) (snd_ite (snd_leaf (k := 114) h114) (snd_leaf (k := 115) h115))))) (snd_ite (snd_ite (snd_ite (snd_leaf (k := 118) h118) (snd_leaf (k := 120) h120)) (snd_ite (snd_leaf (k := 121) h121) (snd_ite (snd_leaf (k := 122) h122) (snd_leaf (k := 123) h123)))) (snd_ite (snd_ite (snd_leaf (k := 126) h126) (snd_ite (snd_leaf (k := 127) h127) (snd_leaf (k := 129) h129))) (snd_ite (snd_leaf (k := 130) h130) (snd_ite (snd_leaf (k := 133) h133) (snd_leaf (k := 136) h136)))))))

def kX11_size : Nat → Stq := fun pc => if pc < 12 then (if pc < 4 then (if pc < 2 then (if pc < 1 then (if pc = 0 then s_push (.int 0) 1 else s_bad) else (if pc = 1 then s_ist 1 2 else s_bad)) else (if pc < 3 then (if pc = 2 then s_push (.int 1) 3 else s_bad) else (if pc = 3 then s_ist 2 4 else s_bad))) else (if pc < 7 then (if pc < 5 then (if pc = 4 then s_ild 2 5 else s_bad) else (if pc = 5 then s_push (.int 9) 7 else s_bad)) else (if pc < 10 then (if pc = 7 then s_icge 24 10 else s_bad) else (if pc < 11 then (if pc = 10 then s_ild 1 11 else s_bad) else (if pc = 11 then s_ild 0 12 else s_bad))))) else (if pc < 17 then (if pc < 14 then (if pc < 13 then (if pc = 12 then s_ild 2 13 else s_bad) else (if pc = 13 then s_ishr 14 else s_bad)) else (if pc < 15 then (if pc = 14 then s_push (.int 1) 15 else s_bad) else (if pc < 16 then (if pc = 15 then s_iand 16 else s_bad) else (if pc = 16 then s_iadd 17 else s_bad)))) else (if pc < 21 then (if pc < 18 then (if pc = 17 then s_ist 1 18 else s_bad) else (if pc = 18 then s_inc 2 1 21 else s_bad)) else (if pc < 24 then (if pc = 21 then s_goto 4 else s_bad) else (if pc < 25 then (if pc = 24 then s_ild 1 25 else s_bad) else (if pc = 25 then s_iret else s_bad)))))
set_option maxRecDepth 20000 in
theorem sX11_size : ∀ pc, Snd 0 RX11 cX11_size 3 (some .int) (inM "size") pc (kX11_size pc) := by
  have h0 : Snd 0 RX11 cX11_size 3 (some .int) (inM "size") 0 (s_push (.int 0) 1) := snd_iconst (n := 0) (by decide +kernel) (by decide)
  have h1 : Snd 0 RX11 cX11_size 3 (some .int) (inM "size") 1 (s_ist 1 2) := snd_istore_n (j := 1) (by decide +kernel) rfl
  have h2 : Snd 0 RX11 cX11_size 3 (some .int) (inM "size") 2 (s_push (.int 1) 3) := snd_iconst (n := 1) (by decide +kernel) (by decide)
  have h3 : Snd 0 RX11 cX11_size 3 (some .int) (inM "size") 3 (s_ist 2 4) := snd_istore_n (j := 2) (by decide +kernel) rfl
  have h4 : Snd 0 RX11 cX11_size 3 (some .int) (inM "size") 4 (s_ild 2 5) := snd_iload_n (j := 2) (by decide +kernel) rfl
  have h5 : Snd 0 RX11 cX11_size 3 (some .int) (inM "size") 5 (s_push (.int 9) 7) := snd_bipush (n := 9) (by decide +kernel) (by decide)
  have h7 : Snd 0 RX11 cX11_size 3 (some .int) (inM "size") 7 (s_icge 24 10) := snd_icge (off := 17) (by decide +kernel) (by decide)
  have h10 : Snd 0 RX11 cX11_size 3 (some .int) (inM "size") 10 (s_ild 1 11) := snd_iload_n (j := 1) (by decide +kernel) rfl
  have h11 : Snd 0 RX11 cX11_size 3 (some .int) (inM "size") 11 (s_ild 0 12) := snd_iload_n (j := 0) (by decide +kernel) rfl
  have h12 : Snd 0 RX11 cX11_size 3 (some .int) (inM "size") 12 (s_ild 2 13) := snd_iload_n (j := 2) (by decide +kernel) rfl
  have h13 : Snd 0 RX11 cX11_size 3 (some .int) (inM "size") 13 (s_ishr 14) := snd_ishr (by decide +kernel)
  have h14 : Snd 0 RX11 cX11_size 3 (some .int) (inM "size") 14 (s_push (.int 1) 15) := snd_iconst (n := 1) (by decide +kernel) (by decide)
  have h15 : Snd 0 RX11 cX11_size 3 (some .int) (inM "size") 15 (s_iand 16) := snd_iand (by decide +kernel)
  have h16 : Snd 0 RX11 cX11_size 3 (some .int) (inM "size") 16 (s_iadd 17) := snd_iadd (by decide +kernel)
  have h17 : Snd 0 RX11 cX11_size 3 (some .int) (inM "size") 17 (s_ist 1 18) := snd_istore_n (j := 1) (by decide +kernel) rfl
  have h18 : Snd 0 RX11 cX11_size 3 (some .int) (inM "size") 18 (s_inc 2 1 21) := snd_iinc (y := 1) (by decide +kernel) (by decide)
  have h21 : Snd 0 RX11 cX11_size 3 (some .int) (inM "size") 21 (s_goto 4) := snd_goto (off := -17) (by decide +kernel) (by decide)
  have h24 : Snd 0 RX11 cX11_size 3 (some .int) (inM "size") 24 (s_ild 1 25) := snd_iload_n (j := 1) (by decide +kernel) rfl
  have h25 : Snd 0 RX11 cX11_size 3 (some .int) (inM "size") 25 (s_iret) := snd_iret (by decide +kernel)
  exact fun pc => snd_ite (snd_ite (snd_ite (snd_ite (snd_leaf (k := 0) h0) (snd_leaf (k := 1) h1)) (snd_ite (snd_leaf (k := 2) h2) (snd_leaf (k := 3) h3))) (snd_ite (snd_ite (snd_leaf (k := 4) h4) (snd_leaf (k := 5) h5)) (snd_ite (snd_leaf (k := 7) h7) (snd_ite (snd_leaf (k := 10) h10) (snd_leaf (k := 11) h11))))) (snd_ite (snd_ite (snd_ite (snd_leaf (k := 12) h12) (snd_leaf (k := 13) h13)) (snd_ite (snd_leaf (k := 14) h14) (snd_ite (snd_leaf (k := 15) h15) (snd_leaf (k := 16) h16)))) (snd_ite (snd_ite (snd_leaf (k := 17) h17) (snd_leaf (k := 18) h18)) (snd_ite (snd_leaf (k := 21) h21) (snd_ite (snd_leaf (k := 24) h24) (snd_leaf (k := 25) h25)))))
end
section
/-! the reference: rows -/
def pX11_layRounds : Spc := fun As g Q => ∃ L iF aI aL, g = Mg L iF aI aL ∧ As = [.ref 32] ∧ ∀ f, (∀ p, p < 8 → f (p + 1) = nI (p + 1)) → Q none (Mg L iF (up1 aI 38 f) aL)
theorem oX11_layRounds : Ok 0 yX11_layRounds cX11_layRounds 2 none pX11_layRounds := by
  refine ok_all fun As g Q h => ?_
  obtain ⟨L, iF, aI, aL, rfl, rfl, hQ⟩ := h
  refine at_of (fun pc => pc == 2) 40 (fun k pc ls st g' => ∃ p f, pc = 2 ∧ ls = [.ref 32, .int (nI (p + 1))] ∧ st = [] ∧ g' = Mg L iF (up1 aI 38 f) aL ∧ k = 8 - p ∧ p ≤ 8 ∧ (∀ q, q < p → f (q + 1) = nI (q + 1))) (by decide) rfl sX11_layRounds (nl (n := 1) rfl rfl rfl) ?_ ?_
  · refine ⟨8, 0, aI 38, rfl, rfl, rfl, ?_, by omega, by omega, fun q h => absurd h (by omega)⟩
    show _ = (SH (true, L), iF, up1 aI 38 (aI 38), aL)
    have : up1 aI 38 (aI 38) = aI := by funext j; unfold up1; split <;> simp_all
    rw [this]
  · rintro k pc ls st g' ⟨p, f, rfl, rfl, rfl, rfl, rfl, hp, hf⟩
    refine br_c (fun h => ?_) (fun h => ?_)
    · have h : 9 ≤ p + 1 := (nI_leI (a := 9) (by omega) (by omega)).mp h
      exact hQ f (fun q hq => hf q (by omega))
    · have h : ¬ 9 ≤ p + 1 := fun q => h ((nI_leI (a := 9) (by omega) (by omega)).mpr q)
      refine And.intro (vp_in_nI (by omega) (by omega)) ?_
      refine ⟨8 - (p + 1), by omega, p + 1, up1 f (p + 1) (nI (p + 1)), rfl, ?_, rfl, ?_, rfl, by omega, ?_⟩
      · show [Value.ref 32, .int (nI (p + 1) + 1)] = _
        rw [nI_1]
      · show (SH (true, L), iF, up1 (up1 aI 38 f) 38 (up1 (up1 aI 38 f 38) (nI (p + 1)).toNatClampNeg (nI (p + 1))), aL) = _
        rw [up1_up1, up1_s, cl1 (by omega)]
      · intro q hq
        by_cases e : q = p
        · subst e; rw [up1_s]
        · rw [up1_n _ _ (by omega)]; exact hf q (by omega)
def pX11_ring : Spc := fun As g Q => ∃ L iF aI aL n m x, g = Mg L iF aI aL ∧ As = [.ref 32, .int (nI m)] ∧ 4 ≤ n ∧ n ≤ 8 ∧ m < 512 ∧ vis m n = true ∧ aI 33 0 = nI n ∧ MR n x (aI 38) ∧ ∀ f, MR n (chg n m x) f → Q none (Mg L iF (up1 aI 38 f) aL)
theorem bq_int0 {m q : Nat} (hm : m < 512) (hq : q < 32) : (nI m >>> (nI q &&& 31) &&& 1) = 0 ↔ bq m q = false := by
  rw [nx_shr hq (by omega), and1]
  have : nI (m / 2 ^ q % 2) = 0 ↔ m / 2 ^ q % 2 = 0 := nI_eq (b := 0) (by omega) (by omega)
  rw [this]
  unfold bq
  cases h : m / 2 ^ q % 2 == 1 with
  | true => rw [beq_iff_eq] at h; simp [h]
  | false => simp at h; simp; omega
theorem oX11_ring : Ok 1 yX11_ring cX11_ring 4 none pX11_ring := by
  refine ok_all fun As g Q h => ?_
  obtain ⟨L, iF, aI, aL, n, m, x, rfl, rfl, hn4, hn, hm, hv, hN, hR, hQ⟩ := h
  refine at_of (fun pc => pc == 2) 60 (fun k pc ls st g' => ∃ p f w, pc = 2 ∧ ls = [.ref 32, .int (nI m), .int (nI (p + 1)), w] ∧ st = [] ∧ g' = Mg L iF (up1 aI 38 f) aL ∧ k = 9 - p ∧ p ≤ n ∧ vis m p = true ∧ (∀ q, q < n → f (q + 1) = nI (dg x (if q < p then sg n m q else q) + 1))) (by decide) rfl sX11_ring (nl (n := 2) rfl rfl rfl) ?_ ?_
  · refine ⟨9, 0, aI 38, U_, rfl, rfl, rfl, ?_, by omega, by omega, rfl, fun q h => ?_⟩
    · show _ = (SH (true, L), iF, up1 aI 38 (aI 38), aL)
      have : up1 aI 38 (aI 38) = aI := by funext j; unfold up1; split <;> simp_all
      rw [this]
    · rw [if_neg (by omega)]; exact hR q h
  · rintro k pc ls st g' ⟨p, f, w, rfl, rfl, rfl, rfl, rfl, hp, hvp, hf⟩
    refine And.intro (vp_in_nI (n := 0) (N := 85) (by omega) (by omega)) ?_
    refine br_c (fun h => ?_) (fun h => ?_)
    · have h : aI 33 0 < nI (p + 1) := h
      rw [hN] at h
      have h : n < p + 1 := (nI_ltI (by omega) (by omega)).mp h
      refine hQ f (fun q hq => ?_)
      rw [hf q hq, if_pos (by omega), dg_chg hq]
    · have h : ¬ aI 33 0 < nI (p + 1) := h
      rw [hN] at h
      have h : ¬ n < p + 1 := fun q => h ((nI_ltI (by omega) (by omega)).mpr q)
      refine And.intro (fun hb => ?_) (fun hb => ?_)
      · have hb : bq m (p + 1) = true := by
          cases hc : bq m (p + 1) with
          | true => rfl
          | false => exact absurd ((bq_int0 hm (by omega)).mpr hc) hb
        refine ⟨9 - (p + 1), by omega, p + 1, f, U_, rfl, ?_, rfl, rfl, rfl, by omega, vis_stay hvp hb, fun q hq => ?_⟩
        · show [Value.ref 32, .int (nI m), .int (nI (p + 1) + 1), U_] = _
          rw [nI_1]
        · rw [hf q hq]
          by_cases e : q = p
          · subst e
            rw [if_neg (by omega), if_pos (by omega)]
            have e1 : sg n m q = q := by
              unfold sg
              rw [if_neg (by simp [swf, hb]), if_neg]
              rintro ⟨h1, h2⟩
              obtain ⟨z, rfl⟩ : ∃ z, q = z + 1 := ⟨q - 1, by omega⟩
              simp only [swf, Bool.and_eq_true, Bool.not_eq_true', Nat.add_sub_cancel] at h2
              rw [vis_apart z h2.1 h2.2.1] at hvp
              cases hvp
            rw [e1]
          · by_cases e2 : q < p
            · rw [if_pos e2, if_pos (by omega)]
            · rw [if_neg e2, if_neg (by omega)]
      · have hb : bq m (p + 1) = false := (bq_int0 hm (by omega)).mp hb
        have hpn : p + 1 < n := by
          rcases Nat.lt_or_ge (p + 1) n with q | q
          · exact q
          · have e : p + 1 = n := by omega
            have := vis_apart p hvp hb
            rw [e, hv] at this; cases this
        have hs : swf n m p = true := by simp [swf, hvp, hb]; omega
        have e2 : nI (p + 1) + 1 = nI (p + 2) := nI_add (p + 1) 1
        have i1 : vp_in (nI (p + 1)) 9 := vp_in_nI (by omega) (by omega)
        have i2 : vp_in (nI (p + 1) + 1) 9 := by rw [e2]; exact vp_in_nI (by omega) (by omega)
        refine And.intro i1 (And.intro i2 (And.intro i1 (And.intro i2 ?_)))
        refine ⟨9 - (p + 2), by omega, p + 2, up1 (up1 f (p + 1) (f (p + 2))) (p + 2) (f (p + 1)), .int (f (p + 1)), rfl, ?_, rfl, ?_, rfl, by omega, vis_go hvp hb, fun q hq => ?_⟩
        · show [Value.ref 32, .int (nI m), .int (nI (p + 1) + 1 + 1), .int (up1 aI 38 f 38 (nI (p + 1)).toNatClampNeg)] = _
          rw [cl1 (by omega), up1_s, e2, nI_1]
        · show (SH (true, L), iF, up1 (up1 (up1 aI 38 f) 38 (up1 (up1 aI 38 f 38) (nI (p + 1)).toNatClampNeg (up1 aI 38 f 38 (nI (p + 1) + 1).toNatClampNeg))) 38 (up1 (up1 (up1 aI 38 f) 38 (up1 (up1 aI 38 f 38) (nI (p + 1)).toNatClampNeg (up1 aI 38 f 38 (nI (p + 1) + 1).toNatClampNeg)) 38) (nI (p + 1) + 1).toNatClampNeg (up1 aI 38 f 38 (nI (p + 1)).toNatClampNeg)), aL) = _
          rw [e2, cl1 (by omega), cl1 (by omega), up1_up1, up1_up1, up1_s, up1_s]
        · have s1 : sg n m p = p + 1 := if_pos hs
          have s2 : sg n m (p + 1) = p := by
            have := sg_sg (n := n) (m := m) (p := p)
            rw [s1] at this; exact this
          by_cases c1 : q = p
          · subst c1
            rw [up1_n _ _ (by omega), up1_s, if_pos (by omega), s1, hf (q + 1) (by omega), if_neg (by omega)]
          · by_cases c2 : q = p + 1
            · subst c2
              rw [up1_s, if_pos (by omega), s2, hf p (by omega), if_neg (by omega)]
            · rw [up1_n _ _ (by omega), up1_n _ _ (by omega), hf q hq]
              by_cases c3 : q < p
              · rw [if_pos c3, if_pos (by omega)]
              · rw [if_neg c3, if_neg (by omega)]
def pX11_number : Spc := fun As g Q => ∃ L iF aI aL n x, g = Mg L iF aI aL ∧ As = [.ref 32] ∧ n ≤ 8 ∧ aI 33 0 = nI n ∧ MR n x (aI 38) ∧ Q (some (.int (nI (num n x)))) (Mg L iF aI aL)
theorem oX11_number : Ok 1 yX11_number cX11_number 3 (some .int) pX11_number := by
  refine ok_all fun As g Q h => ?_
  obtain ⟨L, iF, aI, aL, n, x, rfl, rfl, hn, hN, hR, hQ⟩ := h
  refine at_of (fun pc => pc == 4) 60 (fun k pc ls st g' => ∃ i, pc = 4 ∧ ls = [.ref 32, .int (nI (numTo x i)), .int (nI (i + 1))] ∧ st = [] ∧ g' = Mg L iF aI aL ∧ k = 9 - i ∧ i ≤ n) (by decide) rfl sX11_number (nl (n := 1) rfl rfl rfl) ?_ ?_
  · exact ⟨9, 0, rfl, rfl, rfl, rfl, by omega, by omega⟩
  · rintro k pc ls st g' ⟨i, rfl, rfl, rfl, rfl, rfl, hi⟩
    refine And.intro (vp_in_nI (n := 0) (N := 85) (by omega) (by omega)) ?_
    refine br_c (fun h => ?_) (fun h => ?_)
    · have h : aI 33 0 < nI (i + 1) := h
      rw [hN] at h
      have h : n < i + 1 := (nI_ltI (by omega) (by omega)).mp h
      have e : i = n := by omega
      subst e
      exact hQ
    · have h : ¬ aI 33 0 < nI (i + 1) := h
      rw [hN] at h
      have h : ¬ n < i + 1 := fun q => h ((nI_ltI (by omega) (by omega)).mpr q)
      refine And.intro (vp_in_nI (by omega) (by omega)) ?_
      refine ⟨9 - (i + 1), by omega, i + 1, rfl, ?_, rfl, rfl, rfl, by omega⟩
      show [Value.ref 32, .int (10 * nI (numTo x i) + aI 38 (nI (i + 1)).toNatClampNeg), .int (nI (i + 1) + 1)] = _
      rw [cl1 (by omega), hR i (by omega), show (10 : Int32) = nI 10 from rfl, nx_mul, nI_add, nI_1, Nat.mul_comm]
      rfl
end
section
/-! sums, permutations, ranks -/
def sm (f : Nat → Nat) : Nat → Nat
  | 0 => 0
  | n + 1 => sm f n + f n
theorem sm_congr {f g : Nat → Nat} : ∀ {n : Nat}, (∀ q, q < n → f q = g q) → sm f n = sm g n
  | 0, _ => rfl
  | n + 1, h => by
    show sm f n + f n = sm g n + g n
    rw [sm_congr (n := n) (fun q hq => h q (by omega)), h n (by omega)]
theorem sm_zero {f : Nat → Nat} : ∀ {n : Nat}, (∀ q, q < n → f q = 0) → sm f n = 0
  | 0, _ => rfl
  | n + 1, h => by
    show sm f n + f n = 0
    rw [sm_zero (n := n) (fun q hq => h q (by omega)), h n (by omega)]
theorem sm_up {f g : Nat → Nat} {a : Nat} (h : ∀ q, q ≠ a → f q = g q) : ∀ {n : Nat}, a < n → sm f n + g a = sm g n + f a
  | 0, ha => by omega
  | n + 1, ha => by
    show sm f n + f n + g a = sm g n + g n + f a
    by_cases e : a = n
    · subst e
      rw [sm_congr (n := a) (fun q hq => h q (by omega))]
      omega
    · have := sm_up h (n := n) (by omega)
      rw [h n (fun q => e q.symm)]
      omega
theorem sm_le {f g : Nat → Nat} : ∀ {n : Nat}, (∀ q, q < n → f q ≤ g q) → sm f n ≤ sm g n
  | 0, _ => Nat.le_refl 0
  | n + 1, h => by
    have h1 := sm_le (n := n) (fun q hq => h q (by omega))
    have h2 := h n (by omega)
    show sm f n + f n ≤ sm g n + g n
    omega
theorem sm_mono {f : Nat → Nat} {a b : Nat} (h : a ≤ b) : sm f a ≤ sm f b := by
  induction b with
  | zero => rw [Nat.le_zero.mp h]; exact Nat.le_refl _
  | succ b ih =>
    by_cases e : a = b + 1
    · rw [e]; exact Nat.le_refl _
    · have := ih (by omega)
      show sm f a ≤ sm f b + f b
      omega
theorem sm_perm : ∀ (n : Nat) (f : Nat → Nat), (∀ q, q < n → f q < n) → (∀ p q, p < n → q < n → f p = f q → p = q) → ∀ g : Nat → Nat, sm (fun q => g (f q)) n = sm g n
  | 0, _, _, _, _ => rfl
  | n + 1, f, hl, hi, g => by
    show sm (fun q => g (f q)) n + g (f n) = sm g n + g n
    by_cases ha : f n = n
    · have h1 : ∀ q, q < n → f q < n := fun q hq => by
        have := hl q (by omega)
        have h2 : f q ≠ n := fun e => by have := hi q n (by omega) (by omega) (by rw [e, ha]); omega
        omega
      rw [sm_perm n f h1 (fun p q hp hq => hi p q (by omega) (by omega)) g, ha]
    · have han : f n < n := by have := hl n (by omega); omega
      have h1 : ∀ q, q < n → (fun q => if f q = n then f n else f q) q < n := fun q hq => by
        show (if f q = n then f n else f q) < n
        split
        · exact han
        · have := hl q (by omega); omega
      have h2 : ∀ p q, p < n → q < n → (fun q => if f q = n then f n else f q) p = (fun q => if f q = n then f n else f q) q → p = q := by
        intro p q hp hq e
        have e : (if f p = n then f n else f p) = (if f q = n then f n else f q) := e
        split at e <;> split at e
        · rename_i a b
          exact hi p q (by omega) (by omega) (a.trans b.symm)
        · have := hi n q (by omega) (by omega) e
          omega
        · have := hi p n (by omega) (by omega) e
          omega
        · exact hi p q (by omega) (by omega) e
      have ih := sm_perm n _ h1 h2 (fun v => if v = f n then g n else g v)
      have e1 : sm (fun q => (fun v => if v = f n then g n else g v) ((fun q => if f q = n then f n else f q) q)) n = sm (fun q => g (f q)) n := by
        refine sm_congr fun q hq => ?_
        show (if (if f q = n then f n else f q) = f n then g n else g (if f q = n then f n else f q)) = g (f q)
        by_cases e : f q = n
        · rw [if_pos e, if_pos rfl, e]
        · rw [if_neg e, if_neg (fun e2 => by have := hi q n (by omega) (by omega) e2; omega)]
      rw [e1] at ih
      rw [ih]
      have := sm_up (f := fun v => if v = f n then g n else g v) (g := g) (a := f n) (fun q hq => if_neg hq) han
      rw [if_pos rfl] at this
      exact this
theorem sm_pos {f : Nat → Nat} : ∀ {n : Nat}, 0 < sm f n → ∃ q, q < n ∧ 0 < f q
  | 0, h => absurd h (Nat.lt_irrefl 0)
  | n + 1, h => by
    have h : 0 < sm f n + f n := h
    by_cases e : 0 < f n
    · exact ⟨n, by omega, e⟩
    · obtain ⟨q, h1, h2⟩ := sm_pos (n := n) (f := f) (by omega)
      exact ⟨q, by omega, h2⟩
theorem sm_one (a : Nat) {n : Nat} (h : a < n) : sm (fun v => if v = a then 1 else 0) n = 1 := by
  have := sm_up (f := fun v => if v = a then 1 else 0) (g := fun _ => 0) (a := a) (fun q hq => if_neg hq) h
  rw [if_pos rfl, sm_zero (f := fun _ => 0) (fun _ _ => rfl)] at this
  omega
/-- a row of n bells -/
def Pm (n x : Nat) : Prop := x < 8 ^ n ∧ (∀ p, p < n → dg x p < n) ∧ ∀ p q, p < n → q < n → dg x p = dg x q → p = q
theorem Pm.onto {n x v : Nat} (h : Pm n x) (hv : v < n) : ∃ p, p < n ∧ dg x p = v := by
  have h1 := sm_perm n (dg x) h.2.1 h.2.2 (fun w => if w = v then 1 else 0)
  rw [sm_one v hv] at h1
  obtain ⟨p, hp, h2⟩ := sm_pos (f := fun q => (fun w => if w = v then 1 else 0) (dg x q)) (n := n) (by rw [h1]; decide)
  refine ⟨p, hp, ?_⟩
  have h2 : 0 < if dg x p = v then 1 else 0 := h2
  split at h2
  · assumption
  · omega
/-- lesser bells behind -/
def lct (x i n : Nat) : Nat := sm (fun q => if i < q ∧ dg x q < dg x i then 1 else 0) n
def usd (x i v : Nat) : Bool := (List.range i).any (fun q => dg x q == v)
theorem usd_iff {x i v : Nat} : usd x i v = true ↔ ∃ q, q < i ∧ dg x q = v := by
  unfold usd
  rw [List.any_eq_true]
  constructor
  · rintro ⟨q, h1, h2⟩; exact ⟨q, List.mem_range.mp h1, beq_iff_eq.mp h2⟩
  · rintro ⟨q, h1, h2⟩; exact ⟨q, List.mem_range.mpr h1, beq_iff_eq.mpr h2⟩
/-- bells not yet used below v -/
def uct (x i v : Nat) : Nat := sm (fun v => if usd x i v = true then 0 else 1) v
theorem lct_uct {n x i : Nat} (h : Pm n x) (hi : i < n) : lct x i n = uct x i (dg x i) := by
  have h1 := sm_perm n (dg x) h.2.1 h.2.2 (fun v => if v < dg x i ∧ ¬ usd x (i + 1) v = true then 1 else 0)
  have e1 : lct x i n = sm (fun q => (fun v => if v < dg x i ∧ ¬ usd x (i + 1) v = true then 1 else 0) (dg x q)) n := by
    refine sm_congr fun q hq => ?_
    show (if i < q ∧ dg x q < dg x i then 1 else 0) = (if dg x q < dg x i ∧ ¬ usd x (i + 1) (dg x q) = true then 1 else 0)
    congr 1
    apply propext
    constructor
    · rintro ⟨a, b⟩
      refine ⟨b, fun hu => ?_⟩
      obtain ⟨r, hr, er⟩ := usd_iff.mp hu
      have := h.2.2 r q (by omega) hq er
      omega
    · rintro ⟨a, b⟩
      refine ⟨?_, a⟩
      rcases Nat.lt_or_ge i q with c | c
      · exact c
      · exact absurd (usd_iff.mpr ⟨q, by omega, rfl⟩) b
  rw [e1, h1]
  have hd := h.2.1 i hi
  unfold uct
  have key : ∀ m, dg x i ≤ m → sm (fun v => if v < dg x i ∧ ¬ usd x (i + 1) v = true then 1 else 0) m = sm (fun v => if usd x i v = true then 0 else 1) (dg x i) := by
    intro m
    induction m with
    | zero =>
      intro hm
      rw [Nat.le_zero.mp hm]; rfl
    | succ m ih =>
      intro hm
      by_cases e : dg x i = m + 1
      · rw [e]
        refine sm_congr fun v hv => ?_
        by_cases hu : usd x i v = true
        · have hu2 : usd x (i + 1) v = true := by
            obtain ⟨r, hr, er⟩ := usd_iff.mp hu
            exact usd_iff.mpr ⟨r, by omega, er⟩
          rw [if_pos hu, if_neg (fun z => z.2 hu2)]
        · have hz : ¬ usd x (i + 1) v = true := fun z => by
            obtain ⟨r, hr, er⟩ := usd_iff.mp z
            by_cases hri : r = i
            · subst hri; omega
            · exact hu (usd_iff.mpr ⟨r, by omega, er⟩)
          rw [if_neg hu, if_pos ⟨hv, hz⟩]
      · show sm _ m + (if m < dg x i ∧ _ then 1 else 0) = _
        rw [if_neg (fun z => by omega), Nat.add_zero]
        exact ih (by omega)
  exact key n (by omega)
theorem lct_lt {n x i : Nat} (hi : i < n) : lct x i n < n - i := by
  have key : ∀ m, sm (fun q => if i < q ∧ dg x q < dg x i then 1 else 0) m ≤ m - (i + 1) := by
    intro m
    induction m with
    | zero => exact Nat.le_of_eq (by show 0 = _; omega)
    | succ m ih =>
      show sm _ m + (if i < m ∧ _ then 1 else 0) ≤ _
      by_cases h : i < m
      · have : (if i < m ∧ dg x m < dg x i then 1 else 0) ≤ 1 := by split <;> omega
        omega
      · rw [if_neg (fun z => h z.1)]
        omega
  have := key n
  show sm _ n < _
  omega
def rkTo (n x : Nat) : Nat → Nat
  | 0 => 0
  | p + 1 => rkTo n x p * (n - p) + lct x p n
/-- how many rows go ahead of the row -/
def rk (n x : Nat) : Nat := rkTo n x n
def ffc (n : Nat) : Nat → Nat
  | 0 => 1
  | p + 1 => ffc n p * (n - p)
theorem rkTo_lt {n x : Nat} : ∀ {p : Nat}, p ≤ n → rkTo n x p < ffc n p
  | 0, _ => Nat.zero_lt_one
  | p + 1, h => by
    have h1 := rkTo_lt (n := n) (x := x) (p := p) (by omega)
    have h2 := lct_lt (x := x) (show p < n by omega)
    show rkTo n x p * (n - p) + lct x p n < ffc n p * (n - p)
    have h3 : (rkTo n x p + 1) * (n - p) ≤ ffc n p * (n - p) := Nat.mul_le_mul_right _ h1
    rw [Nat.add_mul, Nat.one_mul] at h3
    omega
theorem ffc_fct : ∀ n, n ≤ 8 → ffc n n = fct n := by decide +kernel
theorem rk_lt {n x : Nat} (hn : n ≤ 8) : rk n x < fct n := by rw [← ffc_fct n hn]; exact rkTo_lt (Nat.le_refl n)
theorem fct_le : ∀ n, n ≤ 8 → fct n ≤ 40320 := by decide +kernel
theorem uct_lt {x i v w : Nat} (hv : usd x i v = false) (h : v < w) : uct x i v < uct x i w := by
  have h1 : uct x i (v + 1) = uct x i v + 1 := by
    show sm _ v + (if usd x i v = true then 0 else 1) = _
    rw [hv]; rfl
  have h2 : uct x i (v + 1) ≤ uct x i w := sm_mono h
  omega
theorem usd_self {n x i : Nat} (h : Pm n x) (hi : i < n) : usd x i (dg x i) = false := by
  cases hu : usd x i (dg x i) with
  | false => rfl
  | true =>
    obtain ⟨r, hr, er⟩ := usd_iff.mp hu
    have := h.2.2 r i (by omega) hi er
    omega
theorem usd_congr {x y i : Nat} (h : ∀ q, q < i → dg x q = dg y q) (v : Nat) : usd x i v = usd y i v := by
  cases hu : usd y i v with
  | true =>
    obtain ⟨r, hr, er⟩ := usd_iff.mp hu
    exact usd_iff.mpr ⟨r, hr, by rw [h r hr]; exact er⟩
  | false =>
    cases hx : usd x i v with
    | false => rfl
    | true =>
      obtain ⟨r, hr, er⟩ := usd_iff.mp hx
      have : usd y i v = true := usd_iff.mpr ⟨r, hr, by rw [← h r hr]; exact er⟩
      rw [hu] at this; cases this
theorem uct_congr {x y i : Nat} (h : ∀ q, q < i → dg x q = dg y q) (v : Nat) : uct x i v = uct y i v := sm_congr fun w _ => by rw [usd_congr h w]
/-- the first place at which two rows differ decides both orders -/
theorem lex {n x y i : Nat} (hx : Pm n x) (hy : Pm n y) (hi : i < n) (he : ∀ q, q < i → dg x q = dg y q) (hl : dg x i < dg y i) : rk n x < rk n y ∧ num n x < num n y := by
  have h1 : lct x i n < lct y i n := by
    rw [lct_uct hx hi, lct_uct hy hi, ← uct_congr he]
    exact uct_lt (usd_self hx hi) hl
  have pre : ∀ j, j ≤ i → rkTo n x j = rkTo n y j ∧ numTo x j = numTo y j := by
    intro j
    induction j with
    | zero => intro _; exact ⟨rfl, rfl⟩
    | succ j ih =>
      intro hj
      obtain ⟨a, b⟩ := ih (by omega)
      have e : lct x j n = lct y j n := by
        rw [lct_uct hx (by omega), lct_uct hy (by omega), ← he j (by omega)]
        exact uct_congr (fun q hq => he q (by omega)) _
      refine ⟨?_, ?_⟩
      · show rkTo n x j * (n - j) + lct x j n = rkTo n y j * (n - j) + lct y j n
        rw [a, e]
      · show numTo x j * 10 + (dg x j + 1) = numTo y j * 10 + (dg y j + 1)
        rw [b, he j (by omega)]
  obtain ⟨p1, p2⟩ := pre i (Nat.le_refl i)
  have post : ∀ j, i + 1 + j ≤ n → rkTo n x (i + 1 + j) < rkTo n y (i + 1 + j) ∧ numTo x (i + 1 + j) < numTo y (i + 1 + j) := by
    intro j
    induction j with
    | zero =>
      intro _
      refine ⟨?_, ?_⟩
      · show rkTo n x i * (n - i) + lct x i n < rkTo n y i * (n - i) + lct y i n
        rw [p1]; omega
      · show numTo x i * 10 + (dg x i + 1) < numTo y i * 10 + (dg y i + 1)
        rw [p2]; omega
    | succ j ih =>
      intro hj
      obtain ⟨a, b⟩ := ih (by omega)
      have c1 := lct_lt (x := x) (show i + 1 + j < n by omega)
      have c2 := hx.2.1 (i + 1 + j) (by omega)
      have c3 := dg_lt x (i + 1 + j)
      refine ⟨?_, ?_⟩
      · show rkTo n x (i + 1 + j) * (n - (i + 1 + j)) + lct x (i + 1 + j) n < rkTo n y (i + 1 + j) * (n - (i + 1 + j)) + lct y (i + 1 + j) n
        have h3 : (rkTo n x (i + 1 + j) + 1) * (n - (i + 1 + j)) ≤ rkTo n y (i + 1 + j) * (n - (i + 1 + j)) := Nat.mul_le_mul_right _ a
        rw [Nat.add_mul, Nat.one_mul] at h3
        omega
      · show numTo x (i + 1 + j) * 10 + (dg x (i + 1 + j) + 1) < numTo y (i + 1 + j) * 10 + (dg y (i + 1 + j) + 1)
        omega
  have := post (n - (i + 1)) (by omega)
  rw [show i + 1 + (n - (i + 1)) = n by omega] at this
  exact this
theorem first_diff {x y : Nat} : ∀ n, (∀ p, p < n → dg x p = dg y p) ∨ ∃ i, i < n ∧ (∀ q, q < i → dg x q = dg y q) ∧ dg x i ≠ dg y i
  | 0 => Or.inl fun p h => absurd h (by omega)
  | n + 1 => by
    rcases first_diff (x := x) (y := y) n with h | ⟨i, h1, h2, h3⟩
    · by_cases e : dg x n = dg y n
      · left
        intro p hp
        by_cases hpn : p = n
        · rw [hpn]; exact e
        · exact h p (by omega)
      · exact Or.inr ⟨n, by omega, h, e⟩
    · exact Or.inr ⟨i, by omega, h2, h3⟩
theorem rk_cases {n x y : Nat} (hx : Pm n x) (hy : Pm n y) : x = y ∨ (rk n x < rk n y ∧ num n x < num n y) ∨ (rk n y < rk n x ∧ num n y < num n x) := by
  rcases first_diff (x := x) (y := y) n with h | ⟨i, h1, h2, h3⟩
  · exact Or.inl (dg_ext hx.1 hy.1 h)
  · rcases Nat.lt_or_gt_of_ne h3 with h | h
    · exact Or.inr (Or.inl (lex hx hy h1 h2 h))
    · exact Or.inr (Or.inr (lex hy hx h1 (fun q hq => (h2 q hq).symm) h))
theorem rk_inj {n x y : Nat} (hx : Pm n x) (hy : Pm n y) (h : rk n x = rk n y) : x = y := by
  rcases rk_cases hx hy with e | e | e
  · exact e
  · omega
  · omega
theorem num_inj {n x y : Nat} (hx : Pm n x) (hy : Pm n y) (h : num n x = num n y) : x = y := by
  rcases rk_cases hx hy with e | e | e
  · exact e
  · omega
  · omega
theorem rk_num {n x y : Nat} (hx : Pm n x) (hy : Pm n y) : rk n x < rk n y ↔ num n x < num n y := by
  rcases rk_cases hx hy with e | e | e
  · subst e; omega
  · omega
  · omega
theorem dg_rds {n p : Nat} (hn : n ≤ 8) (hp : p < n) : dg (rds n) p = p := dg_pq (f := fun p => p) (fun q hq => by show q < 8; omega) hp
theorem Pm_rds {n : Nat} (hn : n ≤ 8) : Pm n (rds n) := by
  refine ⟨pq_lt (fun q hq => by show q < 8; omega), fun p hp => by rw [dg_rds hn hp]; exact hp, fun p q hp hq h => ?_⟩
  rw [dg_rds hn hp, dg_rds hn hq] at h
  exact h
theorem rk_rds {n : Nat} (hn : n ≤ 8) : rk n (rds n) = 0 := by
  have key : ∀ p, p ≤ n → rkTo n (rds n) p = 0 := by
    intro p
    induction p with
    | zero => intro _; rfl
    | succ p ih =>
      intro hp
      show rkTo n (rds n) p * (n - p) + lct (rds n) p n = 0
      rw [ih (by omega), Nat.zero_mul, Nat.zero_add]
      refine sm_zero fun q hq => ?_
      rw [dg_rds hn hq, dg_rds hn (show p < n by omega)]
      exact if_neg (fun z => by omega)
  exact key n (Nat.le_refl n)
theorem rk_zero {n x : Nat} (hn : n ≤ 8) (hx : Pm n x) : rk n x = 0 ↔ x = rds n := by
  constructor
  · intro h; exact rk_inj hx (Pm_rds hn) (by rw [h, rk_rds hn])
  · rintro rfl; exact rk_rds hn
theorem Pm_chg {n m x : Nat} (hx : Pm n x) : Pm n (chg n m x) := by
  refine ⟨chg_lt _ _ _, fun p hp => by rw [dg_chg hp]; exact hx.2.1 _ (sg_lt hp), fun p q hp hq h => ?_⟩
  rw [dg_chg hp, dg_chg hq] at h
  have := hx.2.2 _ _ (sg_lt hp) (sg_lt hq) h
  rw [← sg_sg (n := n) (m := m) (p := p), this, sg_sg]
end
section
/-! the reference: ranks -/
def pX11_rank : Spc := fun As g Q => ∃ L iF aI aL n x, g = Mg L iF aI aL ∧ As = [.ref 32] ∧ n ≤ 8 ∧ aI 33 0 = nI n ∧ MR n x (aI 38) ∧ Q (some (.int (nI (rk n x)))) (Mg L iF aI aL)
theorem ffc_le : ∀ n, n ≤ 8 → ∀ p, p ≤ n → ffc n p ≤ 40320 := by decide +kernel
theorem rkTo_le {n x p : Nat} (hn : n ≤ 8) (hp : p ≤ n) : rkTo n x p < 40320 := Nat.lt_of_lt_of_le (rkTo_lt hp) (ffc_le n hn p hp)
theorem oX11_rank : Ok 1 yX11_rank cX11_rank 5 (some .int) pX11_rank := by
  refine ok_all fun As g Q h => ?_
  obtain ⟨L, iF, aI, aL, n, x, rfl, rfl, hn, hN, hR, hQ⟩ := h
  refine at_of (fun pc => pc == 4 || pc == 19) 60 (fun k pc ls st g' => (∃ p w w', pc = 4 ∧ ls = [.ref 32, .int (nI (rkTo n x p)), .int (nI (p + 1)), w, w'] ∧ st = [] ∧ g' = Mg L iF aI aL ∧ k = 20 * (9 - p) ∧ p ≤ n)
      ∨ (∃ p q, pc = 19 ∧ ls = [.ref 32, .int (nI (rkTo n x p)), .int (nI (p + 1)), .int (nI (lct x p q)), .int (nI (q + 1))] ∧ st = [] ∧ g' = Mg L iF aI aL ∧ k = 20 * (9 - p) - 1 - q ∧ p < q ∧ q ≤ n)) (by decide) rfl sX11_rank (nl (n := 1) rfl rfl rfl) ?_ ?_
  · exact ⟨180, Or.inl ⟨0, U_, U_, rfl, rfl, rfl, rfl, rfl, by omega⟩⟩
  · rintro k pc ls st g' (⟨p, w, w', rfl, rfl, rfl, rfl, rfl, hp⟩ | ⟨p, q, rfl, rfl, rfl, rfl, rfl, hpq, hq⟩)
    · refine And.intro (vp_in_nI (n := 0) (N := 85) (by omega) (by omega)) ?_
      refine br_c (fun h => ?_) (fun h => ?_)
      · have h : aI 33 0 < nI (p + 1) := h
        rw [hN] at h
        have h : n < p + 1 := (nI_ltI (by omega) (by omega)).mp h
        have e : p = n := by omega
        subst e
        exact hQ
      · have h : ¬ aI 33 0 < nI (p + 1) := h
        rw [hN] at h
        have h : ¬ n < p + 1 := fun q => h ((nI_ltI (by omega) (by omega)).mpr q)
        refine ⟨20 * (9 - p) - 1 - (p + 1), by omega, Or.inr ⟨p, p + 1, rfl, ?_, rfl, rfl, rfl, by omega, by omega⟩⟩
        show [Value.ref 32, .int (nI (rkTo n x p)), .int (nI (p + 1)), .int 0, .int (nI (p + 1) + 1)] = _
        have e : lct x p (p + 1) = 0 := sm_zero fun q hq => if_neg (fun z => by omega)
        rw [e, nI_1]
        rfl
    · refine And.intro (vp_in_nI (n := 0) (N := 85) (by omega) (by omega)) ?_
      refine br_c (fun h => ?_) (fun h => ?_)
      · have h : aI 33 0 < nI (q + 1) := h
        rw [hN] at h
        have h : n < q + 1 := (nI_ltI (by omega) (by omega)).mp h
        have e : q = n := by omega
        subst e
        refine And.intro (vp_in_nI (n := 0) (N := 85) (by omega) (by omega)) ?_
        refine ⟨20 * (9 - (p + 1)), by omega, Or.inl ⟨p + 1, .int (nI (lct x p q)), .int (nI (q + 1)), rfl, ?_, rfl, rfl, rfl, by omega⟩⟩
        show [Value.ref 32, .int (nI (rkTo q x p) * (aI 33 0 + 1 - nI (p + 1)) + nI (lct x p q)), .int (nI (p + 1) + 1), .int (nI (lct x p q)), .int (nI (q + 1))] = _
        rw [hN, nI_1, nx_sub (by omega), nx_mul, nI_add, nI_1, show q + 1 - (p + 1) = q - p by omega]
        rfl
      · have h : ¬ aI 33 0 < nI (q + 1) := h
        rw [hN] at h
        have h : ¬ n < q + 1 := fun z => h ((nI_ltI (by omega) (by omega)).mpr z)
        refine And.intro (vp_in_nI (by omega) (by omega)) (And.intro (vp_in_nI (by omega) (by omega)) ?_)
        have e1 : aI 38 (nI (p + 1)).toNatClampNeg = nI (dg x p + 1) := by rw [cl1 (by omega)]; exact hR p (by omega)
        have e2 : aI 38 (nI (q + 1)).toNatClampNeg = nI (dg x q + 1) := by rw [cl1 (by omega)]; exact hR q (by omega)
        have d1 := dg_lt x p
        have d2 := dg_lt x q
        refine br_c (fun hc => ?_) (fun hc => ?_)
        · have hc : aI 38 (nI (p + 1)).toNatClampNeg ≤ aI 38 (nI (q + 1)).toNatClampNeg := hc
          rw [e1, e2] at hc
          have hc : dg x p + 1 ≤ dg x q + 1 := (nI_leI (by omega) (by omega)).mp hc
          refine ⟨20 * (9 - p) - 1 - (q + 1), by omega, Or.inr ⟨p, q + 1, rfl, ?_, rfl, rfl, rfl, by omega, by omega⟩⟩
          show [Value.ref 32, .int (nI (rkTo n x p)), .int (nI (p + 1)), .int (nI (lct x p q) + 0), .int (nI (q + 1) + 1)] = _
          have e : lct x p (q + 1) = lct x p q := by
            show sm _ q + (if p < q ∧ dg x q < dg x p then 1 else 0) = _
            rw [if_neg (fun z => by omega)]
            rfl
          rw [e, nI_1, show (0 : Int32) = nI 0 from rfl, nI_add]
          rfl
        · have hc : ¬ aI 38 (nI (p + 1)).toNatClampNeg ≤ aI 38 (nI (q + 1)).toNatClampNeg := hc
          rw [e1, e2] at hc
          have hc : ¬ dg x p + 1 ≤ dg x q + 1 := fun z => hc ((nI_leI (by omega) (by omega)).mpr z)
          refine ⟨20 * (9 - p) - 1 - (q + 1), by omega, Or.inr ⟨p, q + 1, rfl, ?_, rfl, rfl, rfl, by omega, by omega⟩⟩
          show [Value.ref 32, .int (nI (rkTo n x p)), .int (nI (p + 1)), .int (nI (lct x p q) + 1), .int (nI (q + 1) + 1)] = _
          have e : lct x p (q + 1) = lct x p q + 1 := by
            show sm _ q + (if p < q ∧ dg x q < dg x p then 1 else 0) = _
            rw [if_pos ⟨by omega, by omega⟩]
            rfl
          rw [e, nI_1, nI_1]
theorem uct_le {n x i v : Nat} (h : Pm n x) (hi : i < n) (hv : v ≤ dg x i) : uct x i v ≤ lct x i n := by
  rw [lct_uct h hi]
  exact sm_mono hv
def pX11_layRank : Spc := fun As g Q => ∃ L iF aI aL n x, g = Mg L iF aI aL ∧ As = [.ref 32, .int (nI (rk n x))] ∧ 4 ≤ n ∧ n ≤ 8 ∧ aI 33 0 = nI n ∧ Pm n x ∧ ∀ f u, MR n x f → Q none (Mg L iF (up1 (up1 aI 38 f) 39 u) aL)
theorem up1_id {α : Type} (f : Nat → α) (k : Nat) : up1 f k (f k) = f := by funext j; unfold up1; split <;> simp_all
theorem oX11_layRank : Ok 1 yX11_layRank cX11_layRank 6 none pX11_layRank := by
  refine ok_all fun As g Q h => ?_
  obtain ⟨L, iF, aI, aL, n, x, rfl, rfl, hn4, hn, hN, hx, hQ⟩ := h
  have i0 : vp_in 0 85 := vp_in_nI (n := 0) (N := 85) (by omega) (by omega)
  refine at_of (fun pc => pc == 7 || pc == 54 || pc == 73) 80 (fun k pc ls st g' => (∃ j f u, pc = 7 ∧ ls = [.ref 32, .int (nI (rk n x)), .int (nI (rkTo n x j)), .int (nI j), U_, U_] ∧ st = [] ∧ g' = Mg L iF (up1 (up1 aI 38 f) 39 u) aL ∧ k = 2000 + j ∧ j ≤ n ∧ (∀ q, j ≤ q → q < n → f (q + 1) = nI (lct x q n) ∧ u (q + 1) = 0))
      ∨ (∃ i f u w w' r, pc = 54 ∧ ls = [.ref 32, .int (nI (rk n x)), .int r, .int (nI (i + 1)), w, w'] ∧ st = [] ∧ g' = Mg L iF (up1 (up1 aI 38 f) 39 u) aL ∧ k = 100 * (9 - i) ∧ i ≤ n ∧ (∀ q, q < n → f (q + 1) = if q < i then nI (dg x q + 1) else nI (lct x q n)) ∧ (∀ v, v < n → u (v + 1) = if usd x i v = true then 1 else 0))
      ∨ (∃ i v f u r, pc = 73 ∧ ls = [.ref 32, .int (nI (rk n x)), .int r, .int (nI (i + 1)), .int (nI (lct x i n - uct x i v)), .int (nI (v + 1))] ∧ st = [] ∧ g' = Mg L iF (up1 (up1 aI 38 f) 39 u) aL ∧ k = 100 * (9 - i) - 1 - v ∧ i < n ∧ v ≤ dg x i ∧ (∀ q, q < n → f (q + 1) = if q < i then nI (dg x q + 1) else nI (lct x q n)) ∧ (∀ v, v < n → u (v + 1) = if usd x i v = true then 1 else 0))) (by decide) rfl sX11_layRank (nl (n := 2) rfl rfl rfl) ?_ ?_
  · refine And.intro i0 ?_
    refine ⟨2000 + n, Or.inl ⟨n, aI 38, aI 39, rfl, ?_, rfl, ?_, rfl, by omega, fun q h1 h2 => by omega⟩⟩
    · show [Value.ref 32, .int (nI (rk n x)), .int (nI (rk n x)), .int (aI 33 0), U_, U_] = _
      rw [hN]; rfl
    · show (SH (true, L), iF, aI, aL) = (SH (true, L), iF, up1 (up1 aI 38 (aI 38)) 39 (aI 39), aL)
      have e : aI 39 = up1 aI 38 (aI 38) 39 := by rw [up1_id]
      rw [e, up1_id, up1_id]
  · rintro k pc ls st g' (⟨j, f, u, rfl, rfl, rfl, rfl, rfl, hj, hf⟩ | ⟨i, f, u, w, w', r, rfl, rfl, rfl, rfl, rfl, hi, hf, hu⟩ | ⟨i, v, f, u, r, rfl, rfl, rfl, rfl, rfl, hi, hv, hf, hu⟩)
    · refine br_c (fun h => ?_) (fun h => ?_)
      · have h : j < 1 := (nI_ltI (b := 1) (by omega) (by omega)).mp h
        have e : j = 0 := by omega
        subst e
        refine ⟨900, by omega, Or.inr (Or.inl ⟨0, f, u, U_, U_, nI 0, rfl, rfl, rfl, rfl, rfl, by omega, fun q hq => ?_, fun v hv => ?_⟩)⟩
        · rw [if_neg (by omega)]; exact (hf q (by omega) hq).1
        · rw [(hf v (by omega) hv).2]; rfl
      · have h : ¬ j < 1 := fun q => h ((nI_ltI (b := 1) (by omega) (by omega)).mpr q)
        obtain ⟨j, rfl⟩ : ∃ z, j = z + 1 := ⟨j - 1, by omega⟩
        have hd : (aI 33 0 + 1 - nI (j + 1) : Int32) = nI (n - j) := by rw [hN, nI_1, nx_sub (by omega), show n + 1 - (j + 1) = n - j by omega]
        have hne : ¬ nI (n - j) = 0 := fun e => by have := (nI_eq (b := 0) (by omega) (by omega)).mp e; omega
        have hb := rkTo_le (x := x) hn hj
        have hl := lct_lt (x := x) (show j < n by omega)
        have e0 : rkTo n x (j + 1) = rkTo n x j * (n - j) + lct x j n := rfl
        have e1 : rkTo n x (j + 1) % (n - j) = lct x j n := by rw [e0, Nat.mul_add_mod_self_right, Nat.mod_eq_of_lt hl]
        have e2 : rkTo n x (j + 1) / (n - j) = rkTo n x j := by rw [e0, Nat.mul_comm, Nat.mul_add_div (by omega), Nat.div_eq_of_lt hl, Nat.add_zero]
        refine And.intro i0 (And.intro (by rw [show (¬ (Mg L iF (up1 (up1 aI 38 f) 39 u) aL).2.2.1 33 (Int32.toNatClampNeg 0) + 1 - nI (j + 1) = 0) = (¬ (aI 33 0 + 1 - nI (j + 1) : Int32) = 0) from rfl, hd]; exact hne) ?_)
        refine And.intro (vp_in_nI (by omega) (by omega)) (And.intro i0 (And.intro (by rw [show (¬ (gA' (Mg L iF (up1 (up1 aI 38 f) 39 u) aL) 38 (nI (j + 1)).toNatClampNeg _).2.2.1 33 (Int32.toNatClampNeg 0) + 1 - nI (j + 1) = 0) = (¬ (aI 33 0 + 1 - nI (j + 1) : Int32) = 0) from rfl, hd]; exact hne) ?_))
        refine And.intro (Or.inl rfl) (And.intro (vp_in_nI (by omega) (by omega)) ?_)
        refine ⟨2000 + j, by omega, Or.inl ⟨j, up1 f (j + 1) (nI (lct x j n)), up1 u (j + 1) 0, rfl, ?_, rfl, ?_, rfl, by omega, fun q h1 h2 => ?_⟩⟩
        · show [Value.ref 32, .int (nI (rk n x)), .int (nI (rkTo n x (j + 1)) / (aI 33 0 + 1 - nI (j + 1))), .int (nI (j + 1) + (-1)), U_, U_] = _
          rw [hd, pk_div (by omega) (by omega) (by omega), e2, pk_m1]
        · show (SH (true, L), iF, up1 (up1 (up1 (up1 aI 38 f) 39 u) 38 (up1 (up1 (up1 aI 38 f) 39 u 38) (nI (j + 1)).toNatClampNeg (nI (rkTo n x (j + 1)) - nI (rkTo n x (j + 1)) / (aI 33 0 + 1 - nI (j + 1)) * (aI 33 0 + 1 - nI (j + 1))))) 39 (up1 (up1 (up1 (up1 aI 38 f) 39 u) 38 (up1 (up1 (up1 aI 38 f) 39 u 38) (nI (j + 1)).toNatClampNeg (nI (rkTo n x (j + 1)) - nI (rkTo n x (j + 1)) / (aI 33 0 + 1 - nI (j + 1)) * (aI 33 0 + 1 - nI (j + 1)))) 39) (nI (j + 1)).toNatClampNeg 0), aL) = _
          rw [hd, pk_rem (by omega) (by omega) (by omega), e1, cl1 (by omega)]
          congr 3
          funext a
          unfold up1
          by_cases h39 : a = 39
          · subst h39; simp
          · by_cases h38 : a = 38
            · subst h38; simp
            · simp [h39, h38]
        · by_cases e : q = j
          · subst e; rw [up1_s, up1_s]; exact ⟨rfl, rfl⟩
          · rw [up1_n _ _ (by omega), up1_n _ _ (by omega)]; exact hf q (by omega) h2
    · refine And.intro i0 ?_
      refine br_c (fun h => ?_) (fun h => ?_)
      · have h : aI 33 0 < nI (i + 1) := h
        rw [hN] at h
        have h : n < i + 1 := (nI_ltI (by omega) (by omega)).mp h
        refine hQ f u (fun q hq => ?_)
        rw [hf q hq, if_pos (by omega)]
      · have h : ¬ aI 33 0 < nI (i + 1) := h
        rw [hN] at h
        have h : ¬ n < i + 1 := fun q => h ((nI_ltI (by omega) (by omega)).mpr q)
        refine And.intro (vp_in_nI (by omega) (by omega)) ?_
        refine ⟨100 * (9 - i) - 1, by omega, Or.inr (Or.inr ⟨i, 0, f, u, r, rfl, ?_, rfl, rfl, rfl, by omega, by omega, hf, hu⟩)⟩
        show [Value.ref 32, .int (nI (rk n x)), .int r, .int (nI (i + 1)), .int (f (nI (i + 1)).toNatClampNeg), .int 1] = _
        rw [cl1 (by omega), hf i (by omega), if_neg (by omega)]
        rfl
    · have hd := hx.2.1 i hi
      have hul := uct_le hx hi hv
      have hll := lct_lt (x := x) hi
      have iv : vp_in (nI (v + 1)) 9 := vp_in_nI (by omega) (by omega)
      have eu : u (nI (v + 1)).toNatClampNeg = if usd x i v = true then 1 else 0 := by rw [cl1 (by omega)]; exact hu v (by omega)
      have us1 : uct x i (v + 1) = uct x i v + (if usd x i v = true then 0 else 1) := rfl
      refine And.intro iv (And.intro (fun h1 => ?_) (fun h1 => ?_))
      · have h1 : ¬ u (nI (v + 1)).toNatClampNeg = 0 := h1
        have hus : usd x i v = true := by
          cases hc : usd x i v with
          | true => rfl
          | false => rw [eu, hc] at h1; exact absurd rfl h1
        have hvd : v ≠ dg x i := fun e => by rw [e, usd_self hx hi] at hus; cases hus
        refine And.intro iv (br_f h1 ?_)
        refine ⟨100 * (9 - i) - 1 - (v + 1), by omega, Or.inr (Or.inr ⟨i, v + 1, f, u, r, rfl, ?_, rfl, rfl, rfl, hi, by omega, hf, hu⟩)⟩
        show [Value.ref 32, .int (nI (rk n x)), .int r, .int (nI (i + 1)), .int (nI (lct x i n - uct x i v) - nI 0), .int (nI (v + 1) + 1)] = _
        rw [us1, if_pos hus, nx_sub (by omega), nI_1]
        rfl
      · have h1 : u (nI (v + 1)).toNatClampNeg = 0 := h1
        have hus : usd x i v = false := by
          cases hc : usd x i v with
          | false => rfl
          | true => rw [eu, hc] at h1; exact absurd h1 (by decide)
        refine br_c (fun h2 => ?_) (fun h2 => ?_)
        · have h2 : lct x i n - uct x i v ≤ 0 := (nI_leI (b := 0) (by omega) (by omega)).mp h2
          have hvd : v = dg x i := by
            rcases Nat.lt_or_ge v (dg x i) with h | h
            · have := uct_lt hus h
              rw [lct_uct hx hi] at h2
              omega
            · omega
          refine And.intro (Or.inr rfl) (And.intro iv (And.intro (vp_in_nI (by omega) (by omega)) ?_))
          refine ⟨100 * (9 - (i + 1)), by omega, Or.inr (Or.inl ⟨i + 1, up1 f (i + 1) (nI (v + 1)), up1 u (v + 1) 1, .int (nI (lct x i n - uct x i v)), .int (nI (v + 1)), r, rfl, ?_, rfl, ?_, rfl, by omega, fun q hq => ?_, fun w hw => ?_⟩)⟩
          · show [Value.ref 32, .int (nI (rk n x)), .int r, .int (nI (i + 1) + 1), .int (nI (lct x i n - uct x i v)), .int (nI (v + 1))] = _
            rw [nI_1]
          · show (SH (true, L), iF, up1 (up1 (up1 (up1 aI 38 f) 39 u) 39 (up1 (up1 (up1 aI 38 f) 39 u 39) (nI (v + 1)).toNatClampNeg 1)) 38 (up1 (up1 (up1 (up1 aI 38 f) 39 u) 39 (up1 (up1 (up1 aI 38 f) 39 u 39) (nI (v + 1)).toNatClampNeg 1) 38) (nI (i + 1)).toNatClampNeg (nI (v + 1))), aL) = _
            rw [cl1 (by omega), cl1 (by omega)]
            congr 3
            funext a
            unfold up1
            by_cases h39 : a = 39
            · subst h39; simp
            · by_cases h38 : a = 38
              · subst h38; simp
              · simp [h39, h38]
          · by_cases e : q = i
            · subst e; rw [up1_s, if_pos (by omega), hvd]
            · rw [up1_n _ _ (by omega), hf q hq]
              by_cases e2 : q < i
              · rw [if_pos e2, if_pos (by omega)]
              · rw [if_neg e2, if_neg (by omega)]
          · have e3 : usd x (i + 1) w = true ↔ (usd x i w = true ∨ w = v) := by
              rw [usd_iff, usd_iff]
              constructor
              · rintro ⟨q, h3, h4⟩
                by_cases e : q = i
                · right; rw [← h4, e, hvd]
                · left; exact ⟨q, by omega, h4⟩
              · rintro (⟨q, h3, h4⟩ | h3)
                · exact ⟨q, by omega, h4⟩
                · exact ⟨i, by omega, by rw [h3, hvd]⟩
            by_cases e : w = v
            · subst e; rw [up1_s, if_pos (e3.mpr (Or.inr rfl))]
            · rw [up1_n _ _ (by omega), hu w hw]
              by_cases e4 : usd x i w = true
              · rw [if_pos e4, if_pos (e3.mpr (Or.inl e4))]
              · rw [if_neg e4, if_neg (fun z => (e3.mp z).elim e4 e)]
        · have h2 : ¬ lct x i n - uct x i v ≤ 0 := fun z => h2 ((nI_leI (b := 0) (by omega) (by omega)).mpr z)
          have hvd : v ≠ dg x i := fun e => by rw [e, ← lct_uct hx hi] at h2; omega
          refine And.intro iv (br_t h1 ?_)
          refine ⟨100 * (9 - i) - 1 - (v + 1), by omega, Or.inr (Or.inr ⟨i, v + 1, f, u, r, rfl, ?_, rfl, rfl, rfl, hi, by omega, hf, hu⟩)⟩
          show [Value.ref 32, .int (nI (rk n x)), .int r, .int (nI (i + 1)), .int (nI (lct x i n - uct x i v) - nI 1), .int (nI (v + 1) + 1)] = _
          rw [us1, if_neg (by rw [hus]; simp), nx_sub (by omega), nI_1, show lct x i n - uct x i v - 1 = lct x i n - (uct x i v + 1) by omega]
/-! how many places are in a set -/
def pct (m : Nat) : Nat → Nat
  | 0 => 0
  | p + 1 => pct m p + m / 2 ^ (p + 1) % 2
def pX11_size : Spc := fun As g Q => ∃ m, m < 512 ∧ As = [.int (nI m)] ∧ Q (some (.int (nI (pct m 8)))) g
theorem oX11_size : Ok 0 yX11_size cX11_size 3 (some .int) pX11_size := by
  refine ok_all fun As g Q h => ?_
  obtain ⟨m, hm, rfl, hQ⟩ := h
  refine at_of (fun pc => pc == 4) 40 (fun k pc ls st g' => ∃ p, pc = 4 ∧ ls = [.int (nI m), .int (nI (pct m p)), .int (nI (p + 1))] ∧ st = [] ∧ g' = g ∧ k = 8 - p ∧ p ≤ 8) (by decide) rfl sX11_size (nl (n := 1) rfl rfl rfl) ?_ ?_
  · exact ⟨8, 0, rfl, rfl, rfl, rfl, by omega, by omega⟩
  · rintro k pc ls st g' ⟨p, rfl, rfl, rfl, rfl, rfl, hp⟩
    refine br_c (fun h => ?_) (fun h => ?_)
    · have h : 9 ≤ p + 1 := (nI_leI (a := 9) (by omega) (by omega)).mp h
      have e : p = 8 := by omega
      subst e
      exact hQ
    · have h : ¬ 9 ≤ p + 1 := fun q => h ((nI_leI (a := 9) (by omega) (by omega)).mpr q)
      refine ⟨8 - (p + 1), by omega, p + 1, rfl, ?_, rfl, rfl, rfl, by omega⟩
      show [Value.int (nI m), .int (nI (pct m p) + (nI m >>> (nI (p + 1) &&& 31) &&& 1)), .int (nI (p + 1) + 1)] = _
      rw [nx_shr (by omega) (by omega), and1, nI_add, nI_1]
      rfl
/-- Integer.bitCount of a set of places -/
theorem bcI_pct : ∀ m, m < 512 → m % 2 = 0 → bcI (nI m) = nI (pct m 8) := by decide +kernel
end
section
/-! what is told: the setting, its leads and rows, as plain mathematics -/
theorem ok_weak {d : Nat} {y : MethodName} {cc : ByteArray} {nL : Nat} {ret : Option FieldType} {sp sp' : Spc} (h : ∀ As g Q, sp' As g Q → sp As g Q) (o : Ok d y cc nL ret sp) : Ok d y cc nL ret sp' := fun l D cy bs ad As g Q hs => o l D cy bs ad As g Q (h As g Q hs)
/-- bells, changes of the method, bob, single, letters of the touch -/
abbrev Stg : Type := Nat × List Nat × Nat × Nat × List Nat
abbrev sN (S : Stg) : Nat := S.1
abbrev sC (S : Stg) : List Nat := S.2.1
abbrev sB (S : Stg) : Nat := S.2.2.1
abbrev sS (S : Stg) : Nat := S.2.2.2.1
abbrev sL (S : Stg) : List Nat := S.2.2.2.2
/-- a change of n bells -/
def VM (n m : Nat) : Prop := m < 512 ∧ m % 2 = 0 ∧ vis m n = true
def VS (S : Stg) : Prop := (4 ≤ sN S ∧ sN S ≤ 8) ∧ ((sC S).length ≤ 40 ∧ ∀ m ∈ sC S, VM (sN S) m) ∧ VM (sN S) (sB S) ∧ VM (sN S) (sS S) ∧ (sL S).length ≤ 40 ∧ ∀ l ∈ sL S, l ≤ 2
/-- the setting in one array -/
def RS (f : Nat → Int32) (S : Stg) : Prop := f 0 = nI (sN S) ∧ f 1 = nI (sC S).length ∧ (∀ i, i < (sC S).length → f (2 + i) = nI ((sC S).getD i 0)) ∧ f 42 = nI (sB S) ∧ f 43 = nI (sS S) ∧ f 44 = nI (sL S).length ∧ ∀ i, i < (sL S).length → f (45 + i) = nI ((sL S).getD i 0)
/-- the k-th change of a lead of a letter -/
def chOf (S : Stg) (l k : Nat) : Nat := if 0 < l ∧ k + 1 = (sC S).length then (if l = 1 then sB S else sS S) else (sC S).getD k 0
def rgTo (S : Stg) (l x : Nat) : Nat → Nat
  | 0 => x
  | k + 1 => chg (sN S) (chOf S l k) (rgTo S l x k)
/-- the row at the end of a lead -/
def led (S : Stg) (l x : Nat) : Nat := rgTo S l x (sC S).length
/-- the rows of the touch -/
def trw (S : Stg) : Nat → Nat
  | 0 => rds (sN S)
  | i + 1 => chg (sN S) (chOf S ((sL S).getD (i / (sC S).length) 0) (i % (sC S).length)) (trw S i)
def tln (S : Stg) : Nat := (sL S).length * (sC S).length
theorem getD_mem {l : List Nat} {i : Nat} (h : i < l.length) : l.getD i 0 ∈ l := by
  rw [List.getD_eq_getElem?_getD, List.getElem?_eq_getElem h]
  exact List.getElem_mem h
theorem chOf_VM {S : Stg} (h : VS S) {l k : Nat} (hk : k < (sC S).length) : VM (sN S) (chOf S l k) := by
  unfold chOf
  split
  · split
    · exact h.2.2.1
    · exact h.2.2.2.1
  · exact h.2.1.2 _ (getD_mem hk)
theorem rgTo_Pm {S : Stg} {l x : Nat} (hx : Pm (sN S) x) : ∀ k, Pm (sN S) (rgTo S l x k)
  | 0 => hx
  | k + 1 => Pm_chg (rgTo_Pm hx k)
theorem trw_Pm {S : Stg} (h : VS S) : ∀ i, Pm (sN S) (trw S i)
  | 0 => Pm_rds h.1.2
  | i + 1 => Pm_chg (trw_Pm h i)
theorem Pm.lt24 {n x : Nat} (h : Pm n x) (hn : n ≤ 8) : x < 2 ^ 24 := Nat.lt_of_lt_of_le h.1 (p824 hn)
/-! the reference's k-th change of a lead -/
def qX11_changeOf : Spc := fun As g Q => ∃ L iF aI aL S l k, g = Mg L iF aI aL ∧ As = [.ref 32, .int (nI l), .int (nI k)] ∧ RS (aI 33) S ∧ VS S ∧ l ≤ 2 ∧ k < (sC S).length ∧ Q (some (.int (nI (chOf S l k)))) g
theorem rX11_changeOf : Ok 0 yX11_changeOf cX11_changeOf 3 (some .int) qX11_changeOf := by
  refine ok_weak (fun As g Q h => ?_) oX11_changeOf
  obtain ⟨L, iF, aI, aL, S, l, k, rfl, rfl, hR, hS, hl, hk, hQ⟩ := h
  have hc := hS.2.1.1
  have h2 : chOf S l k = (sC S).getD k 0 → vp_in (2 + nI k) 85 ∧ Q (some (.int (aI 33 (2 + nI k).toNatClampNeg))) (Mg L iF aI aL) := by
    intro e
    rw [e] at hQ
    rw [show (2 : Int32) = nI 2 from rfl, nI_add]
    refine ⟨vp_in_nI (by omega) (by omega), ?_⟩
    rw [cl1 (by omega), hR.2.2.1 k hk]
    exact hQ
  refine br_c (fun h => ?_) (fun h => ?_)
  · have h : l ≤ 0 := (nI_leI (b := 0) (by omega) (by omega)).mp h
    exact h2 (if_neg (fun z => by omega))
  · have h : ¬ l ≤ 0 := fun q => h ((nI_leI (b := 0) (by omega) (by omega)).mpr q)
    refine And.intro (vp_in_nI (n := 1) (N := 85) (by omega) (by omega)) ?_
    have e1 : aI 33 1 - 1 = nI ((sC S).length - 1) := by rw [hR.2.1, show (1 : Int32) = nI 1 from rfl, nx_sub (by omega)]
    refine And.intro (fun hc => ?_) (fun hc => ?_)
    · have hc : ¬ nI k = aI 33 1 - 1 := hc
      rw [e1] at hc
      exact h2 (if_neg (fun z => hc (by rw [← z.2]; rfl)))
    · have hc : nI k = aI 33 1 - 1 := hc
      rw [e1] at hc
      have hk1 : k = (sC S).length - 1 := (nI_eq (by omega) (by omega)).mp hc
      have e2 : chOf S l k = if l = 1 then sB S else sS S := if_pos ⟨by omega, by omega⟩
      rw [e2] at hQ
      rcases (show l = 1 ∨ l = 2 by omega) with e | e
      · subst e
        rw [if_pos rfl, ← hR.2.2.2.1] at hQ
        exact And.intro (vp_in_nI (n := 42) (N := 85) (by omega) (by omega)) hQ
      · subst e
        rw [if_neg (by omega), ← hR.2.2.2.2.1] at hQ
        exact And.intro (vp_in_nI (n := 43) (N := 85) (by omega) (by omega)) hQ
end
section
def kX11_ringLead : Nat → Stq := fun pc => if pc < 12 then (if pc < 4 then (if pc < 2 then (if pc < 1 then (if pc = 0 then s_push (.int 0) 1 else s_bad) else (if pc = 1 then s_ist 2 2 else s_bad)) else (if pc < 3 then (if pc = 2 then s_ild 2 3 else s_bad) else (if pc = 3 then s_ald 0 4 else s_bad))) else (if pc < 8 then (if pc < 7 then (if pc = 4 then s_getf 10 0 7 else s_bad) else (if pc = 7 then s_push (.int 1) 8 else s_bad)) else (if pc < 9 then (if pc = 8 then s_iald 9 else s_bad) else (if pc = 9 then s_icge 28 12 else s_bad)))) else (if pc < 16 then (if pc < 14 then (if pc < 13 then (if pc = 12 then s_ald 0 13 else s_bad) else (if pc = 13 then s_ald 0 14 else s_bad)) else (if pc < 15 then (if pc = 14 then s_ild 1 15 else s_bad) else (if pc = 15 then s_ild 2 16 else s_bad))) else (if pc < 22 then (if pc < 19 then (if pc = 16 then s_invv 10 2 qX11_changeOf 19 else s_bad) else (if pc = 19 then s_invv 10 1 pX11_ring 22 else s_bad)) else (if pc < 25 then (if pc = 22 then s_inc 2 1 25 else s_bad) else (if pc < 28 then (if pc = 25 then s_goto 2 else s_bad) else (if pc = 28 then s_vret else s_bad)))))
set_option maxRecDepth 20000 in
theorem sX11_ringLead : ∀ pc, Snd 2 RX11 cX11_ringLead 3 none (inM "ringLead") pc (kX11_ringLead pc) := by
  have h0 : Snd 2 RX11 cX11_ringLead 3 none (inM "ringLead") 0 (s_push (.int 0) 1) := snd_iconst (n := 0) (by decide +kernel) (by decide)
  have h1 : Snd 2 RX11 cX11_ringLead 3 none (inM "ringLead") 1 (s_ist 2 2) := snd_istore_n (j := 2) (by decide +kernel) rfl
  have h2 : Snd 2 RX11 cX11_ringLead 3 none (inM "ringLead") 2 (s_ild 2 3) := snd_iload_n (j := 2) (by decide +kernel) rfl
  have h3 : Snd 2 RX11 cX11_ringLead 3 none (inM "ringLead") 3 (s_ald 0 4) := snd_aload_n (j := 0) (by decide +kernel) rfl
  have h4 : Snd 2 RX11 cX11_ringLead 3 none (inM "ringLead") 4 (s_getf 10 0 7) := snd_getf (T := TX11) (f := 0) cI_10 (by decide) g_769 (by decide +kernel)
  have h7 : Snd 2 RX11 cX11_ringLead 3 none (inM "ringLead") 7 (s_push (.int 1) 8) := snd_iconst (n := 1) (by decide +kernel) (by decide)
  have h8 : Snd 2 RX11 cX11_ringLead 3 none (inM "ringLead") 8 (s_iald 9) := snd_iald (by decide +kernel)
  have h9 : Snd 2 RX11 cX11_ringLead 3 none (inM "ringLead") 9 (s_icge 28 12) := snd_icge (off := 19) (by decide +kernel) (by decide)
  have h12 : Snd 2 RX11 cX11_ringLead 3 none (inM "ringLead") 12 (s_ald 0 13) := snd_aload_n (j := 0) (by decide +kernel) rfl
  have h13 : Snd 2 RX11 cX11_ringLead 3 none (inM "ringLead") 13 (s_ald 0 14) := snd_aload_n (j := 0) (by decide +kernel) rfl
  have h14 : Snd 2 RX11 cX11_ringLead 3 none (inM "ringLead") 14 (s_ild 1 15) := snd_iload_n (j := 1) (by decide +kernel) rfl
  have h15 : Snd 2 RX11 cX11_ringLead 3 none (inM "ringLead") 15 (s_ild 2 16) := snd_iload_n (j := 2) (by decide +kernel) rfl
  have h16 : Snd 2 RX11 cX11_ringLead 3 none (inM "ringLead") 16 (s_invv 10 2 qX11_changeOf 19) := snd_invv cI_10 rX11_changeOf (by decide) (by decide) g_970 g_967 g_969 g_43 g_81 ⟨by decide, by decide, by decide +kernel⟩ (by decide +kernel)
  have h19 : Snd 2 RX11 cX11_ringLead 3 none (inM "ringLead") 19 (s_invv 10 1 pX11_ring 22) := snd_invv cI_10 oX11_ring (by decide) (by decide) g_974 g_971 g_973 g_44 g_81 ⟨by decide, by decide, by decide +kernel⟩ (by decide +kernel)
  have h22 : Snd 2 RX11 cX11_ringLead 3 none (inM "ringLead") 22 (s_inc 2 1 25) := snd_iinc (y := 1) (by decide +kernel) (by decide)
  have h25 : Snd 2 RX11 cX11_ringLead 3 none (inM "ringLead") 25 (s_goto 2) := snd_goto (off := -23) (by decide +kernel) (by decide)
  have h28 : Snd 2 RX11 cX11_ringLead 3 none (inM "ringLead") 28 (s_vret) := snd_vret (by decide +kernel)
  exact fun pc => snd_ite (snd_ite (snd_ite (snd_ite (snd_leaf (k := 0) h0) (snd_leaf (k := 1) h1)) (snd_ite (snd_leaf (k := 2) h2) (snd_leaf (k := 3) h3))) (snd_ite (snd_ite (snd_leaf (k := 4) h4) (snd_leaf (k := 7) h7)) (snd_ite (snd_leaf (k := 8) h8) (snd_leaf (k := 9) h9)))) (snd_ite (snd_ite (snd_ite (snd_leaf (k := 12) h12) (snd_leaf (k := 13) h13)) (snd_ite (snd_leaf (k := 14) h14) (snd_leaf (k := 15) h15))) (snd_ite (snd_ite (snd_leaf (k := 16) h16) (snd_leaf (k := 19) h19)) (snd_ite (snd_leaf (k := 22) h22) (snd_ite (snd_leaf (k := 25) h25) (snd_leaf (k := 28) h28)))))

def kX11_isFalse : Nat → Stq := fun pc => if pc < 19 then (if pc < 6 then (if pc < 3 then (if pc < 1 then (if pc = 0 then s_push (.int 0) 1 else s_bad) else (if pc < 2 then (if pc = 1 then s_ist 2 2 else s_bad) else (if pc = 2 then s_push (.int 1) 3 else s_bad))) else (if pc < 4 then (if pc = 3 then s_ist 3 4 else s_bad) else (if pc < 5 then (if pc = 4 then s_ild 3 5 else s_bad) else (if pc = 5 then s_ild 1 6 else s_bad)))) else (if pc < 13 then (if pc < 9 then (if pc = 6 then s_icge 40 9 else s_bad) else (if pc < 10 then (if pc = 9 then s_ild 2 10 else s_bad) else (if pc = 10 then s_ifne 40 13 else s_bad))) else (if pc < 17 then (if pc < 14 then (if pc = 13 then s_ald 0 14 else s_bad) else (if pc = 14 then s_getf 10 14 17 else s_bad)) else (if pc < 18 then (if pc = 17 then s_ild 3 18 else s_bad) else (if pc = 18 then s_iald 19 else s_bad))))) else (if pc < 29 then (if pc < 24 then (if pc < 20 then (if pc = 19 then s_ald 0 20 else s_bad) else (if pc < 23 then (if pc = 20 then s_getf 10 14 23 else s_bad) else (if pc = 23 then s_ild 1 24 else s_bad))) else (if pc < 25 then (if pc = 24 then s_iald 25 else s_bad) else (if pc < 28 then (if pc = 25 then s_icne 32 28 else s_bad) else (if pc = 28 then s_push (.int 1) 29 else s_bad)))) else (if pc < 34 then (if pc < 32 then (if pc = 29 then s_goto 33 else s_bad) else (if pc < 33 then (if pc = 32 then s_push (.int 0) 33 else s_bad) else (if pc = 33 then s_ist 2 34 else s_bad))) else (if pc < 40 then (if pc < 37 then (if pc = 34 then s_inc 3 1 37 else s_bad) else (if pc = 37 then s_goto 4 else s_bad)) else (if pc < 41 then (if pc = 40 then s_ild 2 41 else s_bad) else (if pc = 41 then s_zret else s_bad)))))
set_option maxRecDepth 20000 in
theorem sX11_isFalse : ∀ pc, Snd 0 RX11 cX11_isFalse 4 (some .boolean) (inM "isFalse") pc (kX11_isFalse pc) := by
  have h0 : Snd 0 RX11 cX11_isFalse 4 (some .boolean) (inM "isFalse") 0 (s_push (.int 0) 1) := snd_iconst (n := 0) (by decide +kernel) (by decide)
  have h1 : Snd 0 RX11 cX11_isFalse 4 (some .boolean) (inM "isFalse") 1 (s_ist 2 2) := snd_istore_n (j := 2) (by decide +kernel) rfl
  have h2 : Snd 0 RX11 cX11_isFalse 4 (some .boolean) (inM "isFalse") 2 (s_push (.int 1) 3) := snd_iconst (n := 1) (by decide +kernel) (by decide)
  have h3 : Snd 0 RX11 cX11_isFalse 4 (some .boolean) (inM "isFalse") 3 (s_ist 3 4) := snd_istore_n (j := 3) (by decide +kernel) rfl
  have h4 : Snd 0 RX11 cX11_isFalse 4 (some .boolean) (inM "isFalse") 4 (s_ild 3 5) := snd_iload_n (j := 3) (by decide +kernel) rfl
  have h5 : Snd 0 RX11 cX11_isFalse 4 (some .boolean) (inM "isFalse") 5 (s_ild 1 6) := snd_iload_n (j := 1) (by decide +kernel) rfl
  have h6 : Snd 0 RX11 cX11_isFalse 4 (some .boolean) (inM "isFalse") 6 (s_icge 40 9) := snd_icge (off := 34) (by decide +kernel) (by decide)
  have h9 : Snd 0 RX11 cX11_isFalse 4 (some .boolean) (inM "isFalse") 9 (s_ild 2 10) := snd_iload_n (j := 2) (by decide +kernel) rfl
  have h10 : Snd 0 RX11 cX11_isFalse 4 (some .boolean) (inM "isFalse") 10 (s_ifne 40 13) := snd_ifne (off := 30) (by decide +kernel) (by decide)
  have h13 : Snd 0 RX11 cX11_isFalse 4 (some .boolean) (inM "isFalse") 13 (s_ald 0 14) := snd_aload_n (j := 0) (by decide +kernel) rfl
  have h14 : Snd 0 RX11 cX11_isFalse 4 (some .boolean) (inM "isFalse") 14 (s_getf 10 14 17) := snd_getf (T := TX11) (f := 14) cI_10 (by decide) g_783 (by decide +kernel)
  have h17 : Snd 0 RX11 cX11_isFalse 4 (some .boolean) (inM "isFalse") 17 (s_ild 3 18) := snd_iload_n (j := 3) (by decide +kernel) rfl
  have h18 : Snd 0 RX11 cX11_isFalse 4 (some .boolean) (inM "isFalse") 18 (s_iald 19) := snd_iald (by decide +kernel)
  have h19 : Snd 0 RX11 cX11_isFalse 4 (some .boolean) (inM "isFalse") 19 (s_ald 0 20) := snd_aload_n (j := 0) (by decide +kernel) rfl
  have h20 : Snd 0 RX11 cX11_isFalse 4 (some .boolean) (inM "isFalse") 20 (s_getf 10 14 23) := snd_getf (T := TX11) (f := 14) cI_10 (by decide) g_783 (by decide +kernel)
  have h23 : Snd 0 RX11 cX11_isFalse 4 (some .boolean) (inM "isFalse") 23 (s_ild 1 24) := snd_iload_n (j := 1) (by decide +kernel) rfl
  have h24 : Snd 0 RX11 cX11_isFalse 4 (some .boolean) (inM "isFalse") 24 (s_iald 25) := snd_iald (by decide +kernel)
  have h25 : Snd 0 RX11 cX11_isFalse 4 (some .boolean) (inM "isFalse") 25 (s_icne 32 28) := snd_icne (off := 7) (by decide +kernel) (by decide)
  have h28 : Snd 0 RX11 cX11_isFalse 4 (some .boolean) (inM "isFalse") 28 (s_push (.int 1) 29) := snd_iconst (n := 1) (by decide +kernel) (by decide)
  have h29 : Snd 0 RX11 cX11_isFalse 4 (some .boolean) (inM "isFalse") 29 (s_goto 33) := snd_goto (off := 4) (by decide +kernel) (by decide)
  have h32 : Snd 0 RX11 cX11_isFalse 4 (some .boolean) (inM "isFalse") 32 (s_push (.int 0) 33) := snd_iconst (n := 0) (by decide +kernel) (by decide)
  have h33 : Snd 0 RX11 cX11_isFalse 4 (some .boolean) (inM "isFalse") 33 (s_ist 2 34) := snd_istore_n (j := 2) (by decide +kernel) rfl
  have h34 : Snd 0 RX11 cX11_isFalse 4 (some .boolean) (inM "isFalse") 34 (s_inc 3 1 37) := snd_iinc (y := 1) (by decide +kernel) (by decide)
  have h37 : Snd 0 RX11 cX11_isFalse 4 (some .boolean) (inM "isFalse") 37 (s_goto 4) := snd_goto (off := -33) (by decide +kernel) (by decide)
  have h40 : Snd 0 RX11 cX11_isFalse 4 (some .boolean) (inM "isFalse") 40 (s_ild 2 41) := snd_iload_n (j := 2) (by decide +kernel) rfl
  have h41 : Snd 0 RX11 cX11_isFalse 4 (some .boolean) (inM "isFalse") 41 (s_zret) := snd_zret (by decide +kernel)
  exact fun pc => snd_ite (snd_ite (snd_ite (snd_ite (snd_leaf (k := 0) h0) (snd_ite (snd_leaf (k := 1) h1) (snd_leaf (k := 2) h2))) (snd_ite (snd_leaf (k := 3) h3) (snd_ite (snd_leaf (k := 4) h4) (snd_leaf (k := 5) h5)))) (snd_ite (snd_ite (snd_leaf (k := 6) h6) (snd_ite (snd_leaf (k := 9) h9) (snd_leaf (k := 10) h10))) (snd_ite (snd_ite (snd_leaf (k := 13) h13) (snd_leaf (k := 14) h14)) (snd_ite (snd_leaf (k := 17) h17) (snd_leaf (k := 18) h18))))) (snd_ite (snd_ite (snd_ite (snd_leaf (k := 19) h19) (snd_ite (snd_leaf (k := 20) h20) (snd_leaf (k := 23) h23))) (snd_ite (snd_leaf (k := 24) h24) (snd_ite (snd_leaf (k := 25) h25) (snd_leaf (k := 28) h28)))) (snd_ite (snd_ite (snd_leaf (k := 29) h29) (snd_ite (snd_leaf (k := 32) h32) (snd_leaf (k := 33) h33))) (snd_ite (snd_ite (snd_leaf (k := 34) h34) (snd_leaf (k := 37) h37)) (snd_ite (snd_leaf (k := 40) h40) (snd_leaf (k := 41) h41)))))

def kX11_comesRound : Nat → Stq := fun pc => if pc < 14 then (if pc < 4 then (if pc < 2 then (if pc < 1 then (if pc = 0 then s_push (.int 1) 1 else s_bad) else (if pc = 1 then s_ist 1 2 else s_bad)) else (if pc < 3 then (if pc = 2 then s_ild 1 3 else s_bad) else (if pc = 3 then s_ald 0 4 else s_bad))) else (if pc < 10 then (if pc < 7 then (if pc = 4 then s_getf 10 15 7 else s_bad) else (if pc = 7 then s_icge 27 10 else s_bad)) else (if pc < 11 then (if pc = 10 then s_ald 0 11 else s_bad) else (if pc = 11 then s_getf 10 14 14 else s_bad)))) else (if pc < 20 then (if pc < 16 then (if pc < 15 then (if pc = 14 then s_ild 1 15 else s_bad) else (if pc = 15 then s_iald 16 else s_bad)) else (if pc < 19 then (if pc = 16 then s_ifne 21 19 else s_bad) else (if pc = 19 then s_ild 1 20 else s_bad))) else (if pc < 24 then (if pc < 21 then (if pc = 20 then s_iret else s_bad) else (if pc = 21 then s_inc 1 1 24 else s_bad)) else (if pc < 27 then (if pc = 24 then s_goto 2 else s_bad) else (if pc < 29 then (if pc = 27 then s_push (.int (-6)) 29 else s_bad) else (if pc = 29 then s_iret else s_bad)))))
set_option maxRecDepth 20000 in
theorem sX11_comesRound : ∀ pc, Snd 0 RX11 cX11_comesRound 2 (some .int) (inM "comesRound") pc (kX11_comesRound pc) := by
  have h0 : Snd 0 RX11 cX11_comesRound 2 (some .int) (inM "comesRound") 0 (s_push (.int 1) 1) := snd_iconst (n := 1) (by decide +kernel) (by decide)
  have h1 : Snd 0 RX11 cX11_comesRound 2 (some .int) (inM "comesRound") 1 (s_ist 1 2) := snd_istore_n (j := 1) (by decide +kernel) rfl
  have h2 : Snd 0 RX11 cX11_comesRound 2 (some .int) (inM "comesRound") 2 (s_ild 1 3) := snd_iload_n (j := 1) (by decide +kernel) rfl
  have h3 : Snd 0 RX11 cX11_comesRound 2 (some .int) (inM "comesRound") 3 (s_ald 0 4) := snd_aload_n (j := 0) (by decide +kernel) rfl
  have h4 : Snd 0 RX11 cX11_comesRound 2 (some .int) (inM "comesRound") 4 (s_getf 10 15 7) := snd_getf (T := TX11) (f := 15) cI_10 (by decide) g_784 (by decide +kernel)
  have h7 : Snd 0 RX11 cX11_comesRound 2 (some .int) (inM "comesRound") 7 (s_icge 27 10) := snd_icge (off := 20) (by decide +kernel) (by decide)
  have h10 : Snd 0 RX11 cX11_comesRound 2 (some .int) (inM "comesRound") 10 (s_ald 0 11) := snd_aload_n (j := 0) (by decide +kernel) rfl
  have h11 : Snd 0 RX11 cX11_comesRound 2 (some .int) (inM "comesRound") 11 (s_getf 10 14 14) := snd_getf (T := TX11) (f := 14) cI_10 (by decide) g_783 (by decide +kernel)
  have h14 : Snd 0 RX11 cX11_comesRound 2 (some .int) (inM "comesRound") 14 (s_ild 1 15) := snd_iload_n (j := 1) (by decide +kernel) rfl
  have h15 : Snd 0 RX11 cX11_comesRound 2 (some .int) (inM "comesRound") 15 (s_iald 16) := snd_iald (by decide +kernel)
  have h16 : Snd 0 RX11 cX11_comesRound 2 (some .int) (inM "comesRound") 16 (s_ifne 21 19) := snd_ifne (off := 5) (by decide +kernel) (by decide)
  have h19 : Snd 0 RX11 cX11_comesRound 2 (some .int) (inM "comesRound") 19 (s_ild 1 20) := snd_iload_n (j := 1) (by decide +kernel) rfl
  have h20 : Snd 0 RX11 cX11_comesRound 2 (some .int) (inM "comesRound") 20 (s_iret) := snd_iret (by decide +kernel)
  have h21 : Snd 0 RX11 cX11_comesRound 2 (some .int) (inM "comesRound") 21 (s_inc 1 1 24) := snd_iinc (y := 1) (by decide +kernel) (by decide)
  have h24 : Snd 0 RX11 cX11_comesRound 2 (some .int) (inM "comesRound") 24 (s_goto 2) := snd_goto (off := -22) (by decide +kernel) (by decide)
  have h27 : Snd 0 RX11 cX11_comesRound 2 (some .int) (inM "comesRound") 27 (s_push (.int (-6)) 29) := snd_bipush (n := -6) (by decide +kernel) (by decide)
  have h29 : Snd 0 RX11 cX11_comesRound 2 (some .int) (inM "comesRound") 29 (s_iret) := snd_iret (by decide +kernel)
  exact fun pc => snd_ite (snd_ite (snd_ite (snd_ite (snd_leaf (k := 0) h0) (snd_leaf (k := 1) h1)) (snd_ite (snd_leaf (k := 2) h2) (snd_leaf (k := 3) h3))) (snd_ite (snd_ite (snd_leaf (k := 4) h4) (snd_leaf (k := 7) h7)) (snd_ite (snd_leaf (k := 10) h10) (snd_leaf (k := 11) h11)))) (snd_ite (snd_ite (snd_ite (snd_leaf (k := 14) h14) (snd_leaf (k := 15) h15)) (snd_ite (snd_leaf (k := 16) h16) (snd_leaf (k := 19) h19))) (snd_ite (snd_ite (snd_leaf (k := 20) h20) (snd_leaf (k := 21) h21)) (snd_ite (snd_leaf (k := 24) h24) (snd_ite (snd_leaf (k := 27) h27) (snd_leaf (k := 29) h29)))))
end
section
def pX11_ringLead : Spc := fun As g Q => ∃ L iF aI aL S l x, g = Mg L iF aI aL ∧ As = [.ref 32, .int (nI l)] ∧ RS (aI 33) S ∧ VS S ∧ l ≤ 2 ∧ MR (sN S) x (aI 38) ∧ ∀ f, MR (sN S) (led S l x) f → Q none (Mg L iF (up1 aI 38 f) aL)
theorem oX11_ringLead : Ok 2 yX11_ringLead cX11_ringLead 3 none pX11_ringLead := by
  refine ok_all fun As g Q h => ?_
  obtain ⟨L, iF, aI, aL, S, l, x, rfl, rfl, hR, hS, hl, hx, hQ⟩ := h
  have hc := hS.2.1.1
  refine at_of (fun pc => pc == 2) 60 (fun k pc ls st g' => ∃ j f, pc = 2 ∧ ls = [.ref 32, .int (nI l), .int (nI j)] ∧ st = [] ∧ g' = Mg L iF (up1 aI 38 f) aL ∧ k = 41 - j ∧ j ≤ (sC S).length ∧ MR (sN S) (rgTo S l x j) f) (by decide) rfl sX11_ringLead (nl (n := 2) rfl rfl rfl) ?_ ?_
  · refine ⟨41, 0, aI 38, rfl, rfl, rfl, ?_, rfl, by omega, hx⟩
    show (SH (true, L), iF, aI, aL) = (SH (true, L), iF, up1 aI 38 (aI 38), aL)
    rw [up1_id]
  · rintro k pc ls st g' ⟨j, f, rfl, rfl, rfl, rfl, rfl, hj, hf⟩
    refine And.intro (vp_in_nI (n := 1) (N := 85) (by omega) (by omega)) ?_
    refine br_c (fun h => ?_) (fun h => ?_)
    · have h : aI 33 1 ≤ nI j := h
      rw [hR.2.1] at h
      have h : (sC S).length ≤ j := (nI_leI (by omega) (by omega)).mp h
      have e : j = (sC S).length := by omega
      subst e
      exact hQ f hf
    · have h : ¬ aI 33 1 ≤ nI j := h
      rw [hR.2.1] at h
      have h : ¬ (sC S).length ≤ j := fun q => h ((nI_leI (by omega) (by omega)).mpr q)
      have hv := chOf_VM hS (l := l) (k := j) (by omega)
      refine ⟨L, iF, up1 aI 38 f, aL, S, l, j, rfl, rfl, hR, hS, hl, by omega, ?_⟩
      refine ⟨L, iF, up1 aI 38 f, aL, sN S, chOf S l j, rgTo S l x j, rfl, rfl, hS.1.1, hS.1.2, hv.1, hv.2.2, hR.1, hf, fun f2 hf2 => ?_⟩
      refine ⟨41 - (j + 1), by omega, j + 1, f2, rfl, ?_, rfl, ?_, rfl, by omega, hf2⟩
      · show [Value.ref 32, .int (nI l), .int (nI j + 1)] = _
        rw [nI_1]
      · show (SH (true, L), iF, up1 (up1 aI 38 f) 38 f2, aL) = _
        rw [up1_up1]
/-! rows of the touch that are as an earlier one -/
def isF (R : Nat → Nat) (i : Nat) : Bool := (List.range i).any (fun j => decide (1 ≤ j) && R j == R i)
theorem isF_iff {R : Nat → Nat} {i : Nat} : isF R i = true ↔ ∃ j, 1 ≤ j ∧ j < i ∧ R j = R i := by
  unfold isF
  rw [List.any_eq_true]
  constructor
  · rintro ⟨j, h1, h2⟩
    simp only [Bool.and_eq_true, decide_eq_true_eq, beq_iff_eq] at h2
    exact ⟨j, h2.1, List.mem_range.mp h1, h2.2⟩
  · rintro ⟨j, h1, h2, h3⟩
    exact ⟨j, List.mem_range.mpr h2, by simp [h1, h3]⟩
/-- the reference's rows: ranks -/
def RK (n T : Nat) (R : Nat → Nat) (f : Nat → Int32) : Prop := ∀ i, i ≤ T → f i = nI (rk n (R i))
theorem rkI_eq {n x y : Nat} (hn : n ≤ 8) (hx : Pm n x) (hy : Pm n y) : nI (rk n x) = nI (rk n y) ↔ x = y := by
  have h1 := rk_lt (x := x) hn
  have h2 := rk_lt (x := y) hn
  have h3 := fct_le n hn
  constructor
  · intro h; exact rk_inj hx hy ((nI_eq (by omega) (by omega)).mp h)
  · rintro rfl; rfl
def b01 (b : Bool) : Int32 := cond b 1 0
theorem b01_or (b : Bool) : b01 b = 0 ∨ b01 b = 1 := by cases b <;> simp [b01]
def pX11_isFalse : Spc := fun As g Q => ∃ L iF aI aL n T R i, g = Mg L iF aI aL ∧ As = [.ref 32, .int (nI i)] ∧ n ≤ 8 ∧ (∀ j, Pm n (R j)) ∧ RK n T R (aI 40) ∧ T ≤ 1600 ∧ i ≤ T ∧ Q (some (.int (b01 (isF R i)))) g
theorem oX11_isFalse : Ok 0 yX11_isFalse cX11_isFalse 4 (some .boolean) pX11_isFalse := by
  refine ok_all fun As g Q h => ?_
  obtain ⟨L, iF, aI, aL, n, T, R, i, rfl, rfl, hn, hP, hR, hT, hi, hQ⟩ := h
  refine at_of (fun pc => pc == 4) 60 (fun k pc ls st g' => ∃ j b, pc = 4 ∧ ls = [.ref 32, .int (nI i), .int (b01 b), .int (nI (j + 1))] ∧ st = [] ∧ g' = Mg L iF aI aL ∧ k = 2000 - j ∧ j ≤ 1600 ∧ (b = true ↔ ∃ q, 1 ≤ q ∧ q < j + 1 ∧ q < i ∧ R q = R i)) (by decide) rfl sX11_isFalse (nl (n := 2) rfl rfl rfl) ?_ ?_
  · refine ⟨2000, 0, false, rfl, rfl, rfl, rfl, rfl, by omega, ?_⟩
    constructor
    · intro h; cases h
    · rintro ⟨q, h1, h2, -⟩; omega
  · rintro k pc ls st g' ⟨j, b, rfl, rfl, rfl, rfl, rfl, hj, hb⟩
    refine br_c (fun h => ?_) (fun h => ?_)
    · have h : i ≤ j + 1 := (nI_leI (by omega) (by omega)).mp h
      have e : b = isF R i := by
        cases hc : isF R i with
        | true =>
          obtain ⟨q, h1, h2, h3⟩ := isF_iff.mp hc
          exact hb.mpr ⟨q, h1, by omega, h2, h3⟩
        | false =>
          cases hb2 : b with
          | false => rfl
          | true =>
            obtain ⟨q, h1, h2, h3, h4⟩ := hb.mp hb2
            rw [isF_iff.mpr ⟨q, h1, h3, h4⟩] at hc; cases hc
      subst e
      exact And.intro (b01_or _) hQ
    · have h : ¬ i ≤ j + 1 := fun q => h ((nI_leI (by omega) (by omega)).mpr q)
      refine And.intro (fun h1 => ?_) (fun h1 => ?_)
      · have hbt : b = true := by
          cases b with
          | true => rfl
          | false => exact absurd rfl h1
        obtain ⟨q, a1, a2, a3, a4⟩ := hb.mp hbt
        have e : b = isF R i := by rw [hbt, isF_iff.mpr ⟨q, a1, a3, a4⟩]
        subst e
        exact And.intro (b01_or _) hQ
      · have hbf : b = false := by
          cases b with
          | false => rfl
          | true => exact absurd h1 (by decide)
        refine And.intro (vp_in_nI (by omega) (by omega)) (And.intro (vp_in_nI (by omega) (by omega)) ?_)
        have e1 : aI 40 (nI (j + 1)).toNatClampNeg = nI (rk n (R (j + 1))) := by rw [cl1 (by omega)]; exact hR (j + 1) (by omega)
        have e2 : aI 40 (nI i).toNatClampNeg = nI (rk n (R i)) := by rw [cl1 (by omega)]; exact hR i (by omega)
        refine And.intro (fun h2 => ?_) (fun h2 => ?_)
        · have h2 : ¬ aI 40 (nI (j + 1)).toNatClampNeg = aI 40 (nI i).toNatClampNeg := h2
          rw [e1, e2, rkI_eq hn (hP _) (hP _)] at h2
          refine ⟨2000 - (j + 1), by omega, j + 1, false, rfl, ?_, rfl, rfl, rfl, by omega, ?_⟩
          · show [Value.ref 32, .int (nI i), .int 0, .int (nI (j + 1) + 1)] = _
            rw [nI_1]; rfl
          · constructor
            · intro z; cases z
            · rintro ⟨q, a1, a2, a3, a4⟩
              by_cases e : q = j + 1
              · subst e; exact absurd a4 h2
              · have := hb.mpr ⟨q, a1, by omega, a3, a4⟩
                rw [hbf] at this; cases this
        · have h2 : aI 40 (nI (j + 1)).toNatClampNeg = aI 40 (nI i).toNatClampNeg := h2
          rw [e1, e2, rkI_eq hn (hP _) (hP _)] at h2
          refine ⟨2000 - (j + 1), by omega, j + 1, true, rfl, ?_, rfl, rfl, rfl, by omega, ?_⟩
          · show [Value.ref 32, .int (nI i), .int 1, .int (nI (j + 1) + 1)] = _
            rw [nI_1]; rfl
          · exact ⟨fun _ => ⟨j + 1, by omega, by omega, by omega, h2⟩, fun _ => rfl⟩
/-- the first of 'k' numbers from i on of which P holds, or NONE -/
def fstI (P : Nat → Bool) (i : Nat) : Nat → Int32
  | 0 => -6
  | k + 1 => if P i = true then nI i else fstI P (i + 1) k
def pX11_comesRound : Spc := fun As g Q => ∃ L iF aI aL n T R, g = Mg L iF aI aL ∧ As = [.ref 32] ∧ n ≤ 8 ∧ (∀ j, Pm n (R j)) ∧ RK n T R (aI 40) ∧ T ≤ 1600 ∧ iF 32 15 = nI (T + 1) ∧ Q (some (.int (fstI (fun i => R i == rds n) 1 T))) g
theorem oX11_comesRound : Ok 0 yX11_comesRound cX11_comesRound 2 (some .int) pX11_comesRound := by
  refine ok_all fun As g Q h => ?_
  obtain ⟨L, iF, aI, aL, n, T, R, rfl, rfl, hn, hP, hR, hT, hM, hQ⟩ := h
  refine at_of (fun pc => pc == 2) 60 (fun k pc ls st g' => ∃ j, pc = 2 ∧ ls = [.ref 32, .int (nI (j + 1))] ∧ st = [] ∧ g' = Mg L iF aI aL ∧ k = 2000 - j ∧ j ≤ T ∧ fstI (fun i => R i == rds n) 1 T = fstI (fun i => R i == rds n) (j + 1) (T - j)) (by decide) rfl sX11_comesRound (nl (n := 1) rfl rfl rfl) ?_ ?_
  · exact ⟨2000, 0, rfl, rfl, rfl, rfl, rfl, by omega, rfl⟩
  · rintro k pc ls st g' ⟨j, rfl, rfl, rfl, rfl, rfl, hj, he⟩
    refine br_c (fun h => ?_) (fun h => ?_)
    · have h : iF 32 15 ≤ nI (j + 1) := h
      rw [hM] at h
      have h : T + 1 ≤ j + 1 := (nI_leI (by omega) (by omega)).mp h
      rw [he, show T - j = 0 by omega] at hQ
      exact hQ
    · have h : ¬ iF 32 15 ≤ nI (j + 1) := h
      rw [hM] at h
      have h : ¬ T + 1 ≤ j + 1 := fun q => h ((nI_leI (by omega) (by omega)).mpr q)
      have e0 : T - j = (T - (j + 1)) + 1 := by omega
      rw [e0] at he
      have he : fstI (fun i => R i == rds n) 1 T = if (R (j + 1) == rds n) = true then nI (j + 1) else fstI (fun i => R i == rds n) (j + 1 + 1) (T - (j + 1)) := he
      refine And.intro (vp_in_nI (by omega) (by omega)) ?_
      have e1 : aI 40 (nI (j + 1)).toNatClampNeg = nI (rk n (R (j + 1))) := by rw [cl1 (by omega)]; exact hR (j + 1) (by omega)
      have e2 : nI (rk n (R (j + 1))) = 0 ↔ R (j + 1) = rds n := by
        have := rkI_eq hn (hP (j + 1)) (Pm_rds hn)
        rw [rk_rds hn] at this
        exact this
      refine And.intro (fun h2 => ?_) (fun h2 => ?_)
      · have h2 : ¬ aI 40 (nI (j + 1)).toNatClampNeg = 0 := h2
        rw [e1, e2] at h2
        rw [if_neg (by simpa using h2)] at he
        refine ⟨2000 - (j + 1), by omega, j + 1, rfl, ?_, rfl, rfl, rfl, by omega, he⟩
        show [Value.ref 32, .int (nI (j + 1) + 1)] = _
        rw [nI_1]
      · have h2 : aI 40 (nI (j + 1)).toNatClampNeg = 0 := h2
        rw [e1, e2] at h2
        rw [if_pos (by simpa using h2)] at he
        rw [he] at hQ
        exact hQ
end
section
/-- a row is liked -/
def lik (n x : Nat) : Bool := (decide (dg x (n - 2) = dg x (n - 3) + 1) && decide (dg x (n - 1) = dg x (n - 2) + 1)) || (decide (dg x (n - 3) = dg x (n - 2) + 1) && decide (dg x (n - 2) = dg x (n - 1) + 1))
theorem subI_eq {a b c d : Nat} (ha : a < 100) (hb : b < 100) (hc : c < 100) (hd : d < 100) : (nI a - nI b = nI c - nI d) ↔ a + d = c + b := by
  have e : ∀ x y : Nat, x < 100 → y < 100 → (nI x - nI y).toInt = (x : Int) - y := fun x y hx hy => pk_sub_toInt (by omega) (by omega)
  rw [← Int32.toInt_inj, e a b ha hb, e c d hc hd]
  omega
theorem subI_1 {a b : Nat} (ha : a < 100) (hb : b < 100) : (nI a - nI b = 1) ↔ a = b + 1 := by
  have := subI_eq (a := a) (b := b) (c := 1) (d := 0) ha hb (by omega) (by omega)
  rw [show (nI 1 - nI 0 : Int32) = 1 from by decide] at this
  rw [this]; omega
theorem subI_m1 {a b : Nat} (ha : a < 100) (hb : b < 100) : (nI a - nI b = -1) ↔ b = a + 1 := by
  have := subI_eq (a := a) (b := b) (c := 0) (d := 1) ha hb (by omega) (by omega)
  rw [show (nI 0 - nI 1 : Int32) = -1 from by decide] at this
  rw [this]; omega
def qX11_isLiked : Spc := fun As g Q => ∃ L iF aI aL n x, g = Mg L iF aI aL ∧ As = [.ref 32] ∧ 4 ≤ n ∧ n ≤ 8 ∧ aI 33 0 = nI n ∧ MR n x (aI 38) ∧ Q (some (.int (b01 (lik n x)))) g
theorem rX11_isLiked : Ok 1 yX11_isLiked cX11_isLiked 4 (some .boolean) qX11_isLiked := by
  refine ok_weak (fun As g Q h => ?_) oX11_isLiked
  obtain ⟨L, iF, aI, aL, n, x, rfl, rfl, hn4, hn, hN, hR, hQ⟩ := h
  have i0 : vp_in 0 85 := vp_in_nI (n := 0) (N := 85) (by omega) (by omega)
  have e2 : aI 33 0 - 2 = nI (n - 2) := by rw [hN, show (2 : Int32) = nI 2 from rfl, nx_sub (by omega)]
  have e1 : aI 33 0 - 1 = nI (n - 1) := by rw [hN, show (1 : Int32) = nI 1 from rfl, nx_sub (by omega)]
  have ra : aI 38 (aI 33 0 - 2).toNatClampNeg = nI (dg x (n - 3) + 1) := by rw [e2, cl1 (by omega), show n - 2 = n - 3 + 1 by omega]; exact hR _ (by omega)
  have rb : aI 38 (aI 33 0 - 1).toNatClampNeg = nI (dg x (n - 2) + 1) := by rw [e1, cl1 (by omega), show n - 1 = n - 2 + 1 by omega]; exact hR _ (by omega)
  have rc : aI 38 (aI 33 0).toNatClampNeg = nI (dg x (n - 1) + 1) := by rw [hN, cl1 (by omega)]; have := hR (n - 1) (by omega); rw [show n - 1 + 1 = n by omega] at this; exact this
  have d1 := dg_lt x (n - 3)
  have d2 := dg_lt x (n - 2)
  have d3 := dg_lt x (n - 1)
  refine And.intro i0 (And.intro ?_ (And.intro i0 (And.intro ?_ (And.intro i0 (And.intro ?_ ?_)))))
  · show vp_in (aI 33 0 - 2) 9
    rw [e2]; exact vp_in_nI (by omega) (by omega)
  · show vp_in (aI 33 0 - 1) 9
    rw [e1]; exact vp_in_nI (by omega) (by omega)
  · show vp_in (aI 33 0) 9
    rw [hN]; exact vp_in_nI (by omega) (by omega)
  have no : lik n x = false → ((0 : Int32) = 0 ∨ (0 : Int32) = 1) ∧ Q (some (.int 0)) (Mg L iF aI aL) := by
    intro e; rw [e] at hQ; exact ⟨Or.inl rfl, hQ⟩
  have yes : lik n x = true → ((1 : Int32) = 0 ∨ (1 : Int32) = 1) ∧ Q (some (.int 1)) (Mg L iF aI aL) := by
    intro e; rw [e] at hQ; exact ⟨Or.inr rfl, hQ⟩
  refine And.intro (fun h => ?_) (fun h => ?_)
  · have h : ¬ aI 38 (aI 33 0 - 1).toNatClampNeg - aI 38 (aI 33 0 - 2).toNatClampNeg = aI 38 (aI 33 0).toNatClampNeg - aI 38 (aI 33 0 - 1).toNatClampNeg := h
    rw [ra, rb, rc, subI_eq (by omega) (by omega) (by omega) (by omega)] at h
    refine no ?_
    unfold lik
    simp
    omega
  · have h : aI 38 (aI 33 0 - 1).toNatClampNeg - aI 38 (aI 33 0 - 2).toNatClampNeg = aI 38 (aI 33 0).toNatClampNeg - aI 38 (aI 33 0 - 1).toNatClampNeg := h
    rw [ra, rb, rc, subI_eq (by omega) (by omega) (by omega) (by omega)] at h
    refine br_c (fun h1 => ?_) (fun h1 => ?_)
    · have h1 : aI 38 (aI 33 0 - 1).toNatClampNeg - aI 38 (aI 33 0 - 2).toNatClampNeg = 1 := h1
      rw [ra, rb, subI_1 (by omega) (by omega)] at h1
      refine yes ?_
      unfold lik
      simp
      omega
    · have h1 : ¬ aI 38 (aI 33 0 - 1).toNatClampNeg - aI 38 (aI 33 0 - 2).toNatClampNeg = 1 := h1
      rw [ra, rb, subI_1 (by omega) (by omega)] at h1
      refine And.intro (fun h2 => ?_) (fun h2 => ?_)
      · have h2 : ¬ aI 38 (aI 33 0 - 1).toNatClampNeg - aI 38 (aI 33 0 - 2).toNatClampNeg = -1 := h2
        rw [ra, rb, subI_m1 (by omega) (by omega)] at h2
        refine no ?_
        unfold lik
        simp
        omega
      · have h2 : aI 38 (aI 33 0 - 1).toNatClampNeg - aI 38 (aI 33 0 - 2).toNatClampNeg = -1 := h2
        rw [ra, rb, subI_m1 (by omega) (by omega)] at h2
        refine yes ?_
        unfold lik
        simp
        omega
end
section
def kX11_layTouch : Nat → Stq := fun pc => if pc < 42 then (if pc < 19 then (if pc < 10 then (if pc < 5 then (if pc < 1 then (if pc = 0 then s_ald 0 1 else s_bad) else (if pc < 4 then (if pc = 1 then s_invv 10 0 pX11_layRounds 4 else s_bad) else (if pc = 4 then s_ald 0 5 else s_bad))) else (if pc < 8 then (if pc = 5 then s_getf 10 14 8 else s_bad) else (if pc < 9 then (if pc = 8 then s_push (.int 0) 9 else s_bad) else (if pc = 9 then s_push (.int 0) 10 else s_bad)))) else (if pc < 13 then (if pc < 11 then (if pc = 10 then s_iast 11 else s_bad) else (if pc < 12 then (if pc = 11 then s_ald 0 12 else s_bad) else (if pc = 12 then s_push (.int 1) 13 else s_bad))) else (if pc < 17 then (if pc < 16 then (if pc = 13 then s_puti 10 15 16 else s_bad) else (if pc = 16 then s_push (.int 0) 17 else s_bad)) else (if pc < 18 then (if pc = 17 then s_ist 1 18 else s_bad) else (if pc = 18 then s_frg 2 (s_ild 1 19) else s_bad))))) else (if pc < 31 then (if pc < 25 then (if pc < 20 then (if pc = 19 then s_ald 0 20 else s_bad) else (if pc < 23 then (if pc = 20 then s_getf 10 0 23 else s_bad) else (if pc = 23 then s_push (.int 44) 25 else s_bad))) else (if pc < 29 then (if pc < 26 then (if pc = 25 then s_iald 26 else s_bad) else (if pc = 26 then s_icge 94 29 else s_bad)) else (if pc < 30 then (if pc = 29 then s_push (.int 0) 30 else s_bad) else (if pc = 30 then s_ist 2 31 else s_bad)))) else (if pc < 36 then (if pc < 32 then (if pc = 31 then s_ild 2 32 else s_bad) else (if pc < 33 then (if pc = 32 then s_ald 0 33 else s_bad) else (if pc = 33 then s_getf 10 0 36 else s_bad))) else (if pc < 38 then (if pc < 37 then (if pc = 36 then s_push (.int 1) 37 else s_bad) else (if pc = 37 then s_iald 38 else s_bad)) else (if pc < 41 then (if pc = 38 then s_icge 88 41 else s_bad) else (if pc = 41 then s_ald 0 42 else s_bad)))))) else (if pc < 67 then (if pc < 52 then (if pc < 47 then (if pc < 43 then (if pc = 42 then s_ald 0 43 else s_bad) else (if pc < 44 then (if pc = 43 then s_ald 0 44 else s_bad) else (if pc = 44 then s_getf 10 0 47 else s_bad))) else (if pc < 50 then (if pc < 49 then (if pc = 47 then s_push (.int 45) 49 else s_bad) else (if pc = 49 then s_ild 1 50 else s_bad)) else (if pc < 51 then (if pc = 50 then s_iadd 51 else s_bad) else (if pc = 51 then s_iald 52 else s_bad)))) else (if pc < 59 then (if pc < 53 then (if pc = 52 then s_ild 2 53 else s_bad) else (if pc < 56 then (if pc = 53 then s_invv 10 2 qX11_changeOf 56 else s_bad) else (if pc = 56 then s_invv 10 1 pX11_ring 59 else s_bad))) else (if pc < 63 then (if pc < 60 then (if pc = 59 then s_ald 0 60 else s_bad) else (if pc = 60 then s_getf 10 14 63 else s_bad)) else (if pc < 64 then (if pc = 63 then s_ald 0 64 else s_bad) else (if pc = 64 then s_getf 10 15 67 else s_bad))))) else (if pc < 78 then (if pc < 72 then (if pc < 68 then (if pc = 67 then s_ald 0 68 else s_bad) else (if pc < 71 then (if pc = 68 then s_invv 10 0 pX11_rank 71 else s_bad) else (if pc = 71 then s_iast 72 else s_bad))) else (if pc < 74 then (if pc < 73 then (if pc = 72 then s_ald 0 73 else s_bad) else (if pc = 73 then s_dup 74 else s_bad)) else (if pc < 77 then (if pc = 74 then s_getf 10 15 77 else s_bad) else (if pc = 77 then s_push (.int 1) 78 else s_bad)))) else (if pc < 85 then (if pc < 79 then (if pc = 78 then s_iadd 79 else s_bad) else (if pc < 82 then (if pc = 79 then s_puti 10 15 82 else s_bad) else (if pc = 82 then s_inc 2 1 85 else s_bad))) else (if pc < 91 then (if pc < 88 then (if pc = 85 then s_goto 31 else s_bad) else (if pc = 88 then s_inc 1 1 91 else s_bad)) else (if pc < 94 then (if pc = 91 then s_goto 18 else s_bad) else (if pc = 94 then s_vret else s_bad))))))
set_option maxRecDepth 20000 in
theorem sX11_layTouch : ∀ pc, Snd 2 RX11 cX11_layTouch 3 none (inM "layTouch") pc (kX11_layTouch pc) := by
  have h0 : Snd 2 RX11 cX11_layTouch 3 none (inM "layTouch") 0 (s_ald 0 1) := snd_aload_n (j := 0) (by decide +kernel) rfl
  have h1 : Snd 2 RX11 cX11_layTouch 3 none (inM "layTouch") 1 (s_invv 10 0 pX11_layRounds 4) := snd_invv cI_10 oX11_layRounds (by decide) (by decide) g_966 g_963 g_965 g_42 g_81 ⟨by decide, by decide, by decide +kernel⟩ (by decide +kernel)
  have h4 : Snd 2 RX11 cX11_layTouch 3 none (inM "layTouch") 4 (s_ald 0 5) := snd_aload_n (j := 0) (by decide +kernel) rfl
  have h5 : Snd 2 RX11 cX11_layTouch 3 none (inM "layTouch") 5 (s_getf 10 14 8) := snd_getf (T := TX11) (f := 14) cI_10 (by decide) g_783 (by decide +kernel)
  have h8 : Snd 2 RX11 cX11_layTouch 3 none (inM "layTouch") 8 (s_push (.int 0) 9) := snd_iconst (n := 0) (by decide +kernel) (by decide)
  have h9 : Snd 2 RX11 cX11_layTouch 3 none (inM "layTouch") 9 (s_push (.int 0) 10) := snd_iconst (n := 0) (by decide +kernel) (by decide)
  have h10 : Snd 2 RX11 cX11_layTouch 3 none (inM "layTouch") 10 (s_iast 11) := snd_iast (by decide +kernel)
  have h11 : Snd 2 RX11 cX11_layTouch 3 none (inM "layTouch") 11 (s_ald 0 12) := snd_aload_n (j := 0) (by decide +kernel) rfl
  have h12 : Snd 2 RX11 cX11_layTouch 3 none (inM "layTouch") 12 (s_push (.int 1) 13) := snd_iconst (n := 1) (by decide +kernel) (by decide)
  have h13 : Snd 2 RX11 cX11_layTouch 3 none (inM "layTouch") 13 (s_puti 10 15 16) := snd_puti (T := TX11) (f := 15) cI_10 (by decide) g_784 (by decide) (by decide +kernel) (by decide +kernel)
  have h16 : Snd 2 RX11 cX11_layTouch 3 none (inM "layTouch") 16 (s_push (.int 0) 17) := snd_iconst (n := 0) (by decide +kernel) (by decide)
  have h17 : Snd 2 RX11 cX11_layTouch 3 none (inM "layTouch") 17 (s_ist 1 18) := snd_istore_n (j := 1) (by decide +kernel) rfl
  have h18 : Snd 2 RX11 cX11_layTouch 3 none (inM "layTouch") 18 (s_frg 2 (s_ild 1 19)) := snd_frg (snd_iload_n (j := 1) (by decide +kernel) rfl)
  have h19 : Snd 2 RX11 cX11_layTouch 3 none (inM "layTouch") 19 (s_ald 0 20) := snd_aload_n (j := 0) (by decide +kernel) rfl
  have h20 : Snd 2 RX11 cX11_layTouch 3 none (inM "layTouch") 20 (s_getf 10 0 23) := snd_getf (T := TX11) (f := 0) cI_10 (by decide) g_769 (by decide +kernel)
  have h23 : Snd 2 RX11 cX11_layTouch 3 none (inM "layTouch") 23 (s_push (.int 44) 25) := snd_bipush (n := 44) (by decide +kernel) (by decide)
  have h25 : Snd 2 RX11 cX11_layTouch 3 none (inM "layTouch") 25 (s_iald 26) := snd_iald (by decide +kernel)
  have h26 : Snd 2 RX11 cX11_layTouch 3 none (inM "layTouch") 26 (s_icge 94 29) := snd_icge (off := 68) (by decide +kernel) (by decide)
  have h29 : Snd 2 RX11 cX11_layTouch 3 none (inM "layTouch") 29 (s_push (.int 0) 30) := snd_iconst (n := 0) (by decide +kernel) (by decide)
  have h30 : Snd 2 RX11 cX11_layTouch 3 none (inM "layTouch") 30 (s_ist 2 31) := snd_istore_n (j := 2) (by decide +kernel) rfl
  have h31 : Snd 2 RX11 cX11_layTouch 3 none (inM "layTouch") 31 (s_ild 2 32) := snd_iload_n (j := 2) (by decide +kernel) rfl
  have h32 : Snd 2 RX11 cX11_layTouch 3 none (inM "layTouch") 32 (s_ald 0 33) := snd_aload_n (j := 0) (by decide +kernel) rfl
  have h33 : Snd 2 RX11 cX11_layTouch 3 none (inM "layTouch") 33 (s_getf 10 0 36) := snd_getf (T := TX11) (f := 0) cI_10 (by decide) g_769 (by decide +kernel)
  have h36 : Snd 2 RX11 cX11_layTouch 3 none (inM "layTouch") 36 (s_push (.int 1) 37) := snd_iconst (n := 1) (by decide +kernel) (by decide)
  have h37 : Snd 2 RX11 cX11_layTouch 3 none (inM "layTouch") 37 (s_iald 38) := snd_iald (by decide +kernel)
  have h38 : Snd 2 RX11 cX11_layTouch 3 none (inM "layTouch") 38 (s_icge 88 41) := snd_icge (off := 50) (by decide +kernel) (by decide)
  have h41 : Snd 2 RX11 cX11_layTouch 3 none (inM "layTouch") 41 (s_ald 0 42) := snd_aload_n (j := 0) (by decide +kernel) rfl
  have h42 : Snd 2 RX11 cX11_layTouch 3 none (inM "layTouch") 42 (s_ald 0 43) := snd_aload_n (j := 0) (by decide +kernel) rfl
  have h43 : Snd 2 RX11 cX11_layTouch 3 none (inM "layTouch") 43 (s_ald 0 44) := snd_aload_n (j := 0) (by decide +kernel) rfl
  have h44 : Snd 2 RX11 cX11_layTouch 3 none (inM "layTouch") 44 (s_getf 10 0 47) := snd_getf (T := TX11) (f := 0) cI_10 (by decide) g_769 (by decide +kernel)
  have h47 : Snd 2 RX11 cX11_layTouch 3 none (inM "layTouch") 47 (s_push (.int 45) 49) := snd_bipush (n := 45) (by decide +kernel) (by decide)
  have h49 : Snd 2 RX11 cX11_layTouch 3 none (inM "layTouch") 49 (s_ild 1 50) := snd_iload_n (j := 1) (by decide +kernel) rfl
  have h50 : Snd 2 RX11 cX11_layTouch 3 none (inM "layTouch") 50 (s_iadd 51) := snd_iadd (by decide +kernel)
  have h51 : Snd 2 RX11 cX11_layTouch 3 none (inM "layTouch") 51 (s_iald 52) := snd_iald (by decide +kernel)
  have h52 : Snd 2 RX11 cX11_layTouch 3 none (inM "layTouch") 52 (s_ild 2 53) := snd_iload_n (j := 2) (by decide +kernel) rfl
  have h53 : Snd 2 RX11 cX11_layTouch 3 none (inM "layTouch") 53 (s_invv 10 2 qX11_changeOf 56) := snd_invv cI_10 rX11_changeOf (by decide) (by decide) g_970 g_967 g_969 g_43 g_81 ⟨by decide, by decide, by decide +kernel⟩ (by decide +kernel)
  have h56 : Snd 2 RX11 cX11_layTouch 3 none (inM "layTouch") 56 (s_invv 10 1 pX11_ring 59) := snd_invv cI_10 oX11_ring (by decide) (by decide) g_974 g_971 g_973 g_44 g_81 ⟨by decide, by decide, by decide +kernel⟩ (by decide +kernel)
  have h59 : Snd 2 RX11 cX11_layTouch 3 none (inM "layTouch") 59 (s_ald 0 60) := snd_aload_n (j := 0) (by decide +kernel) rfl
  have h60 : Snd 2 RX11 cX11_layTouch 3 none (inM "layTouch") 60 (s_getf 10 14 63) := snd_getf (T := TX11) (f := 14) cI_10 (by decide) g_783 (by decide +kernel)
  have h63 : Snd 2 RX11 cX11_layTouch 3 none (inM "layTouch") 63 (s_ald 0 64) := snd_aload_n (j := 0) (by decide +kernel) rfl
  have h64 : Snd 2 RX11 cX11_layTouch 3 none (inM "layTouch") 64 (s_getf 10 15 67) := snd_getf (T := TX11) (f := 15) cI_10 (by decide) g_784 (by decide +kernel)
  have h67 : Snd 2 RX11 cX11_layTouch 3 none (inM "layTouch") 67 (s_ald 0 68) := snd_aload_n (j := 0) (by decide +kernel) rfl
  have h68 : Snd 2 RX11 cX11_layTouch 3 none (inM "layTouch") 68 (s_invv 10 0 pX11_rank 71) := snd_invv cI_10 oX11_rank (by decide) (by decide) g_978 g_975 g_977 g_45 g_81 ⟨by decide, by decide, by decide +kernel⟩ (by decide +kernel)
  have h71 : Snd 2 RX11 cX11_layTouch 3 none (inM "layTouch") 71 (s_iast 72) := snd_iast (by decide +kernel)
  have h72 : Snd 2 RX11 cX11_layTouch 3 none (inM "layTouch") 72 (s_ald 0 73) := snd_aload_n (j := 0) (by decide +kernel) rfl
  have h73 : Snd 2 RX11 cX11_layTouch 3 none (inM "layTouch") 73 (s_dup 74) := snd_dup (by decide +kernel)
  have h74 : Snd 2 RX11 cX11_layTouch 3 none (inM "layTouch") 74 (s_getf 10 15 77) := snd_getf (T := TX11) (f := 15) cI_10 (by decide) g_784 (by decide +kernel)
  have h77 : Snd 2 RX11 cX11_layTouch 3 none (inM "layTouch") 77 (s_push (.int 1) 78) := snd_iconst (n := 1) (by decide +kernel) (by decide)
  have h78 : Snd 2 RX11 cX11_layTouch 3 none (inM "layTouch") 78 (s_iadd 79) := snd_iadd (by decide +kernel)
  have h79 : Snd 2 RX11 cX11_layTouch 3 none (inM "layTouch") 79 (s_puti 10 15 82) := snd_puti (T := TX11) (f := 15) cI_10 (by decide) g_784 (by decide) (by decide +kernel) (by decide +kernel)
  have h82 : Snd 2 RX11 cX11_layTouch 3 none (inM "layTouch") 82 (s_inc 2 1 85) := snd_iinc (y := 1) (by decide +kernel) (by decide)
  have h85 : Snd 2 RX11 cX11_layTouch 3 none (inM "layTouch") 85 (s_goto 31) := snd_goto (off := -54) (by decide +kernel) (by decide)
  have h88 : Snd 2 RX11 cX11_layTouch 3 none (inM "layTouch") 88 (s_inc 1 1 91) := snd_iinc (y := 1) (by decide +kernel) (by decide)
  have h91 : Snd 2 RX11 cX11_layTouch 3 none (inM "layTouch") 91 (s_goto 18) := snd_goto (off := -73) (by decide +kernel) (by decide)
  have h94 : Snd 2 RX11 cX11_layTouch 3 none (inM "layTouch") 94 (s_vret) := snd_vret (by decide +kernel)
  exact fun pc => snd_ite (snd_ite (snd_ite (snd_ite (snd_ite (snd_leaf (k := 0) h0) (snd_ite (snd_leaf (k := 1) h1) (snd_leaf (k := 4) h4))) (snd_ite (snd_leaf (k := 5) h5) (snd_ite (snd_leaf (k := 8) h8) (snd_leaf (k := 9) h9)))) (snd_ite (snd_ite (snd_leaf (k := 10) h10) (snd_ite (snd_leaf (k := 11) h11) (snd_leaf (k := 12) h12))) (snd_ite (snd_ite (snd_leaf (k := 13) h13) (snd_leaf (k := 16) h16)) (snd_ite (snd_leaf (k := 17) h17) (snd_leaf (k := 18) h18))))) (snd_ite (snd_ite (snd_ite (snd_leaf (k := 19) h19) (snd_ite (snd_leaf (k := 20) h20) (snd_leaf (k := 23) h23))) (snd_ite (snd_ite (snd_leaf (k := 25) h25) (snd_leaf (k := 26) h26)) (snd_ite (snd_leaf (k := 29) h29) (snd_leaf (k := 30) h30)))) (snd_ite (snd_ite (snd_leaf (k := 31) h31) (snd_ite (snd_leaf (k := 32) h32) (snd_leaf (k := 33) h33))) (snd_ite (snd_ite (snd_leaf (k := 36) h36) (snd_leaf (k := 37) h37)) (snd_ite (snd_leaf (k := 38) h38) (snd_leaf (k := 41) h41)))))) (snd_ite (snd_ite (snd_ite (snd_ite (snd_leaf (k := 42) h42) (snd_ite (snd_leaf (k := 43) h43) (snd_leaf (k := 44) h44))) (snd_ite (snd_ite (snd_leaf (k := 47) h47) (snd_leaf (k := 49) h49)) (snd_ite (snd_leaf (k := 50) h50) (snd_leaf (k := 51) h51)))) (snd_ite (snd_ite (snd_leaf (k := 52) h52) (snd_ite (snd_leaf (k := 53) h53) (snd_leaf (k := 56) h56))) (snd_ite (snd_ite (snd_leaf (k := 59) h59) (snd_leaf (k := 60) h60)) (snd_ite (snd_leaf (k := 63) h63) (snd_leaf (k := 64) h64))))) (snd_ite (snd_ite (snd_ite (snd_leaf (k := 67) h67) (snd_ite (snd_leaf (k := 68) h68) (snd_leaf (k := 71) h71))) (snd_ite (snd_ite (snd_leaf (k := 72) h72) (snd_leaf (k := 73) h73)) (snd_ite (snd_leaf (k := 74) h74) (snd_leaf (k := 77) h77)))) (snd_ite (snd_ite (snd_leaf (k := 78) h78) (snd_ite (snd_leaf (k := 79) h79) (snd_leaf (k := 82) h82))) (snd_ite (snd_ite (snd_leaf (k := 85) h85) (snd_leaf (k := 88) h88)) (snd_ite (snd_leaf (k := 91) h91) (snd_leaf (k := 94) h94))))))

def kX11_falseMany : Nat → Stq := fun pc => if pc < 15 then (if pc < 5 then (if pc < 2 then (if pc < 1 then (if pc = 0 then s_push (.int 0) 1 else s_bad) else (if pc = 1 then s_ist 1 2 else s_bad)) else (if pc < 3 then (if pc = 2 then s_push (.int 1) 3 else s_bad) else (if pc < 4 then (if pc = 3 then s_ist 2 4 else s_bad) else (if pc = 4 then s_ild 2 5 else s_bad)))) else (if pc < 12 then (if pc < 6 then (if pc = 5 then s_ald 0 6 else s_bad) else (if pc < 9 then (if pc = 6 then s_getf 10 15 9 else s_bad) else (if pc = 9 then s_icge 34 12 else s_bad))) else (if pc < 13 then (if pc = 12 then s_ild 1 13 else s_bad) else (if pc < 14 then (if pc = 13 then s_ald 0 14 else s_bad) else (if pc = 14 then s_ild 2 15 else s_bad))))) else (if pc < 26 then (if pc < 21 then (if pc < 18 then (if pc = 15 then s_invv 10 1 pX11_isFalse 18 else s_bad) else (if pc = 18 then s_ifeq 25 21 else s_bad)) else (if pc < 22 then (if pc = 21 then s_push (.int 1) 22 else s_bad) else (if pc < 25 then (if pc = 22 then s_goto 26 else s_bad) else (if pc = 25 then s_push (.int 0) 26 else s_bad)))) else (if pc < 31 then (if pc < 27 then (if pc = 26 then s_iadd 27 else s_bad) else (if pc < 28 then (if pc = 27 then s_ist 1 28 else s_bad) else (if pc = 28 then s_inc 2 1 31 else s_bad))) else (if pc < 34 then (if pc = 31 then s_goto 4 else s_bad) else (if pc < 35 then (if pc = 34 then s_ild 1 35 else s_bad) else (if pc = 35 then s_iret else s_bad)))))
set_option maxRecDepth 20000 in
theorem sX11_falseMany : ∀ pc, Snd 1 RX11 cX11_falseMany 3 (some .int) (inM "falseMany") pc (kX11_falseMany pc) := by
  have h0 : Snd 1 RX11 cX11_falseMany 3 (some .int) (inM "falseMany") 0 (s_push (.int 0) 1) := snd_iconst (n := 0) (by decide +kernel) (by decide)
  have h1 : Snd 1 RX11 cX11_falseMany 3 (some .int) (inM "falseMany") 1 (s_ist 1 2) := snd_istore_n (j := 1) (by decide +kernel) rfl
  have h2 : Snd 1 RX11 cX11_falseMany 3 (some .int) (inM "falseMany") 2 (s_push (.int 1) 3) := snd_iconst (n := 1) (by decide +kernel) (by decide)
  have h3 : Snd 1 RX11 cX11_falseMany 3 (some .int) (inM "falseMany") 3 (s_ist 2 4) := snd_istore_n (j := 2) (by decide +kernel) rfl
  have h4 : Snd 1 RX11 cX11_falseMany 3 (some .int) (inM "falseMany") 4 (s_ild 2 5) := snd_iload_n (j := 2) (by decide +kernel) rfl
  have h5 : Snd 1 RX11 cX11_falseMany 3 (some .int) (inM "falseMany") 5 (s_ald 0 6) := snd_aload_n (j := 0) (by decide +kernel) rfl
  have h6 : Snd 1 RX11 cX11_falseMany 3 (some .int) (inM "falseMany") 6 (s_getf 10 15 9) := snd_getf (T := TX11) (f := 15) cI_10 (by decide) g_784 (by decide +kernel)
  have h9 : Snd 1 RX11 cX11_falseMany 3 (some .int) (inM "falseMany") 9 (s_icge 34 12) := snd_icge (off := 25) (by decide +kernel) (by decide)
  have h12 : Snd 1 RX11 cX11_falseMany 3 (some .int) (inM "falseMany") 12 (s_ild 1 13) := snd_iload_n (j := 1) (by decide +kernel) rfl
  have h13 : Snd 1 RX11 cX11_falseMany 3 (some .int) (inM "falseMany") 13 (s_ald 0 14) := snd_aload_n (j := 0) (by decide +kernel) rfl
  have h14 : Snd 1 RX11 cX11_falseMany 3 (some .int) (inM "falseMany") 14 (s_ild 2 15) := snd_iload_n (j := 2) (by decide +kernel) rfl
  have h15 : Snd 1 RX11 cX11_falseMany 3 (some .int) (inM "falseMany") 15 (s_invv 10 1 pX11_isFalse 18) := snd_invv cI_10 oX11_isFalse (by decide) (by decide) g_998 g_995 g_997 g_49 g_81 ⟨by decide, by decide, by decide +kernel⟩ (by decide +kernel)
  have h18 : Snd 1 RX11 cX11_falseMany 3 (some .int) (inM "falseMany") 18 (s_ifeq 25 21) := snd_ifeq (off := 7) (by decide +kernel) (by decide)
  have h21 : Snd 1 RX11 cX11_falseMany 3 (some .int) (inM "falseMany") 21 (s_push (.int 1) 22) := snd_iconst (n := 1) (by decide +kernel) (by decide)
  have h22 : Snd 1 RX11 cX11_falseMany 3 (some .int) (inM "falseMany") 22 (s_goto 26) := snd_goto (off := 4) (by decide +kernel) (by decide)
  have h25 : Snd 1 RX11 cX11_falseMany 3 (some .int) (inM "falseMany") 25 (s_push (.int 0) 26) := snd_iconst (n := 0) (by decide +kernel) (by decide)
  have h26 : Snd 1 RX11 cX11_falseMany 3 (some .int) (inM "falseMany") 26 (s_iadd 27) := snd_iadd (by decide +kernel)
  have h27 : Snd 1 RX11 cX11_falseMany 3 (some .int) (inM "falseMany") 27 (s_ist 1 28) := snd_istore_n (j := 1) (by decide +kernel) rfl
  have h28 : Snd 1 RX11 cX11_falseMany 3 (some .int) (inM "falseMany") 28 (s_inc 2 1 31) := snd_iinc (y := 1) (by decide +kernel) (by decide)
  have h31 : Snd 1 RX11 cX11_falseMany 3 (some .int) (inM "falseMany") 31 (s_goto 4) := snd_goto (off := -27) (by decide +kernel) (by decide)
  have h34 : Snd 1 RX11 cX11_falseMany 3 (some .int) (inM "falseMany") 34 (s_ild 1 35) := snd_iload_n (j := 1) (by decide +kernel) rfl
  have h35 : Snd 1 RX11 cX11_falseMany 3 (some .int) (inM "falseMany") 35 (s_iret) := snd_iret (by decide +kernel)
  exact fun pc => snd_ite (snd_ite (snd_ite (snd_ite (snd_leaf (k := 0) h0) (snd_leaf (k := 1) h1)) (snd_ite (snd_leaf (k := 2) h2) (snd_ite (snd_leaf (k := 3) h3) (snd_leaf (k := 4) h4)))) (snd_ite (snd_ite (snd_leaf (k := 5) h5) (snd_ite (snd_leaf (k := 6) h6) (snd_leaf (k := 9) h9))) (snd_ite (snd_leaf (k := 12) h12) (snd_ite (snd_leaf (k := 13) h13) (snd_leaf (k := 14) h14))))) (snd_ite (snd_ite (snd_ite (snd_leaf (k := 15) h15) (snd_leaf (k := 18) h18)) (snd_ite (snd_leaf (k := 21) h21) (snd_ite (snd_leaf (k := 22) h22) (snd_leaf (k := 25) h25)))) (snd_ite (snd_ite (snd_leaf (k := 26) h26) (snd_ite (snd_leaf (k := 27) h27) (snd_leaf (k := 28) h28))) (snd_ite (snd_leaf (k := 31) h31) (snd_ite (snd_leaf (k := 34) h34) (snd_leaf (k := 35) h35)))))

def kX11_firstFalse : Nat → Stq := fun pc => if pc < 12 then (if pc < 4 then (if pc < 2 then (if pc < 1 then (if pc = 0 then s_push (.int 1) 1 else s_bad) else (if pc = 1 then s_ist 1 2 else s_bad)) else (if pc < 3 then (if pc = 2 then s_ild 1 3 else s_bad) else (if pc = 3 then s_ald 0 4 else s_bad))) else (if pc < 10 then (if pc < 7 then (if pc = 4 then s_getf 10 15 7 else s_bad) else (if pc = 7 then s_icge 26 10 else s_bad)) else (if pc < 11 then (if pc = 10 then s_ald 0 11 else s_bad) else (if pc = 11 then s_ild 1 12 else s_bad)))) else (if pc < 20 then (if pc < 18 then (if pc < 15 then (if pc = 12 then s_invv 10 1 pX11_isFalse 15 else s_bad) else (if pc = 15 then s_ifeq 20 18 else s_bad)) else (if pc < 19 then (if pc = 18 then s_ild 1 19 else s_bad) else (if pc = 19 then s_iret else s_bad))) else (if pc < 26 then (if pc < 23 then (if pc = 20 then s_inc 1 1 23 else s_bad) else (if pc = 23 then s_goto 2 else s_bad)) else (if pc < 28 then (if pc = 26 then s_push (.int (-6)) 28 else s_bad) else (if pc = 28 then s_iret else s_bad))))
set_option maxRecDepth 20000 in
theorem sX11_firstFalse : ∀ pc, Snd 1 RX11 cX11_firstFalse 2 (some .int) (inM "firstFalse") pc (kX11_firstFalse pc) := by
  have h0 : Snd 1 RX11 cX11_firstFalse 2 (some .int) (inM "firstFalse") 0 (s_push (.int 1) 1) := snd_iconst (n := 1) (by decide +kernel) (by decide)
  have h1 : Snd 1 RX11 cX11_firstFalse 2 (some .int) (inM "firstFalse") 1 (s_ist 1 2) := snd_istore_n (j := 1) (by decide +kernel) rfl
  have h2 : Snd 1 RX11 cX11_firstFalse 2 (some .int) (inM "firstFalse") 2 (s_ild 1 3) := snd_iload_n (j := 1) (by decide +kernel) rfl
  have h3 : Snd 1 RX11 cX11_firstFalse 2 (some .int) (inM "firstFalse") 3 (s_ald 0 4) := snd_aload_n (j := 0) (by decide +kernel) rfl
  have h4 : Snd 1 RX11 cX11_firstFalse 2 (some .int) (inM "firstFalse") 4 (s_getf 10 15 7) := snd_getf (T := TX11) (f := 15) cI_10 (by decide) g_784 (by decide +kernel)
  have h7 : Snd 1 RX11 cX11_firstFalse 2 (some .int) (inM "firstFalse") 7 (s_icge 26 10) := snd_icge (off := 19) (by decide +kernel) (by decide)
  have h10 : Snd 1 RX11 cX11_firstFalse 2 (some .int) (inM "firstFalse") 10 (s_ald 0 11) := snd_aload_n (j := 0) (by decide +kernel) rfl
  have h11 : Snd 1 RX11 cX11_firstFalse 2 (some .int) (inM "firstFalse") 11 (s_ild 1 12) := snd_iload_n (j := 1) (by decide +kernel) rfl
  have h12 : Snd 1 RX11 cX11_firstFalse 2 (some .int) (inM "firstFalse") 12 (s_invv 10 1 pX11_isFalse 15) := snd_invv cI_10 oX11_isFalse (by decide) (by decide) g_998 g_995 g_997 g_49 g_81 ⟨by decide, by decide, by decide +kernel⟩ (by decide +kernel)
  have h15 : Snd 1 RX11 cX11_firstFalse 2 (some .int) (inM "firstFalse") 15 (s_ifeq 20 18) := snd_ifeq (off := 5) (by decide +kernel) (by decide)
  have h18 : Snd 1 RX11 cX11_firstFalse 2 (some .int) (inM "firstFalse") 18 (s_ild 1 19) := snd_iload_n (j := 1) (by decide +kernel) rfl
  have h19 : Snd 1 RX11 cX11_firstFalse 2 (some .int) (inM "firstFalse") 19 (s_iret) := snd_iret (by decide +kernel)
  have h20 : Snd 1 RX11 cX11_firstFalse 2 (some .int) (inM "firstFalse") 20 (s_inc 1 1 23) := snd_iinc (y := 1) (by decide +kernel) (by decide)
  have h23 : Snd 1 RX11 cX11_firstFalse 2 (some .int) (inM "firstFalse") 23 (s_goto 2) := snd_goto (off := -21) (by decide +kernel) (by decide)
  have h26 : Snd 1 RX11 cX11_firstFalse 2 (some .int) (inM "firstFalse") 26 (s_push (.int (-6)) 28) := snd_bipush (n := -6) (by decide +kernel) (by decide)
  have h28 : Snd 1 RX11 cX11_firstFalse 2 (some .int) (inM "firstFalse") 28 (s_iret) := snd_iret (by decide +kernel)
  exact fun pc => snd_ite (snd_ite (snd_ite (snd_ite (snd_leaf (k := 0) h0) (snd_leaf (k := 1) h1)) (snd_ite (snd_leaf (k := 2) h2) (snd_leaf (k := 3) h3))) (snd_ite (snd_ite (snd_leaf (k := 4) h4) (snd_leaf (k := 7) h7)) (snd_ite (snd_leaf (k := 10) h10) (snd_leaf (k := 11) h11)))) (snd_ite (snd_ite (snd_ite (snd_leaf (k := 12) h12) (snd_leaf (k := 15) h15)) (snd_ite (snd_leaf (k := 18) h18) (snd_leaf (k := 19) h19))) (snd_ite (snd_ite (snd_leaf (k := 20) h20) (snd_leaf (k := 23) h23)) (snd_ite (snd_leaf (k := 26) h26) (snd_leaf (k := 28) h28))))

def kX11_likedMany : Nat → Stq := fun pc => if pc < 19 then (if pc < 6 then (if pc < 3 then (if pc < 1 then (if pc = 0 then s_push (.int 0) 1 else s_bad) else (if pc < 2 then (if pc = 1 then s_ist 1 2 else s_bad) else (if pc = 2 then s_push (.int 1) 3 else s_bad))) else (if pc < 4 then (if pc = 3 then s_ist 2 4 else s_bad) else (if pc < 5 then (if pc = 4 then s_ild 2 5 else s_bad) else (if pc = 5 then s_ald 0 6 else s_bad)))) else (if pc < 13 then (if pc < 9 then (if pc = 6 then s_getf 10 15 9 else s_bad) else (if pc < 12 then (if pc = 9 then s_icge 43 12 else s_bad) else (if pc = 12 then s_ald 0 13 else s_bad))) else (if pc < 17 then (if pc < 14 then (if pc = 13 then s_ald 0 14 else s_bad) else (if pc = 14 then s_getf 10 14 17 else s_bad)) else (if pc < 18 then (if pc = 17 then s_ild 2 18 else s_bad) else (if pc = 18 then s_iald 19 else s_bad))))) else (if pc < 34 then (if pc < 24 then (if pc < 22 then (if pc = 19 then s_invv 10 1 pX11_layRank 22 else s_bad) else (if pc < 23 then (if pc = 22 then s_ild 1 23 else s_bad) else (if pc = 23 then s_ald 0 24 else s_bad))) else (if pc < 30 then (if pc < 27 then (if pc = 24 then s_invv 10 0 qX11_isLiked 27 else s_bad) else (if pc = 27 then s_ifeq 34 30 else s_bad)) else (if pc < 31 then (if pc = 30 then s_push (.int 1) 31 else s_bad) else (if pc = 31 then s_goto 35 else s_bad)))) else (if pc < 37 then (if pc < 35 then (if pc = 34 then s_push (.int 0) 35 else s_bad) else (if pc < 36 then (if pc = 35 then s_iadd 36 else s_bad) else (if pc = 36 then s_ist 1 37 else s_bad))) else (if pc < 43 then (if pc < 40 then (if pc = 37 then s_inc 2 1 40 else s_bad) else (if pc = 40 then s_goto 4 else s_bad)) else (if pc < 44 then (if pc = 43 then s_ild 1 44 else s_bad) else (if pc = 44 then s_iret else s_bad)))))
set_option maxRecDepth 20000 in
theorem sX11_likedMany : ∀ pc, Snd 2 RX11 cX11_likedMany 3 (some .int) (inM "likedMany") pc (kX11_likedMany pc) := by
  have h0 : Snd 2 RX11 cX11_likedMany 3 (some .int) (inM "likedMany") 0 (s_push (.int 0) 1) := snd_iconst (n := 0) (by decide +kernel) (by decide)
  have h1 : Snd 2 RX11 cX11_likedMany 3 (some .int) (inM "likedMany") 1 (s_ist 1 2) := snd_istore_n (j := 1) (by decide +kernel) rfl
  have h2 : Snd 2 RX11 cX11_likedMany 3 (some .int) (inM "likedMany") 2 (s_push (.int 1) 3) := snd_iconst (n := 1) (by decide +kernel) (by decide)
  have h3 : Snd 2 RX11 cX11_likedMany 3 (some .int) (inM "likedMany") 3 (s_ist 2 4) := snd_istore_n (j := 2) (by decide +kernel) rfl
  have h4 : Snd 2 RX11 cX11_likedMany 3 (some .int) (inM "likedMany") 4 (s_ild 2 5) := snd_iload_n (j := 2) (by decide +kernel) rfl
  have h5 : Snd 2 RX11 cX11_likedMany 3 (some .int) (inM "likedMany") 5 (s_ald 0 6) := snd_aload_n (j := 0) (by decide +kernel) rfl
  have h6 : Snd 2 RX11 cX11_likedMany 3 (some .int) (inM "likedMany") 6 (s_getf 10 15 9) := snd_getf (T := TX11) (f := 15) cI_10 (by decide) g_784 (by decide +kernel)
  have h9 : Snd 2 RX11 cX11_likedMany 3 (some .int) (inM "likedMany") 9 (s_icge 43 12) := snd_icge (off := 34) (by decide +kernel) (by decide)
  have h12 : Snd 2 RX11 cX11_likedMany 3 (some .int) (inM "likedMany") 12 (s_ald 0 13) := snd_aload_n (j := 0) (by decide +kernel) rfl
  have h13 : Snd 2 RX11 cX11_likedMany 3 (some .int) (inM "likedMany") 13 (s_ald 0 14) := snd_aload_n (j := 0) (by decide +kernel) rfl
  have h14 : Snd 2 RX11 cX11_likedMany 3 (some .int) (inM "likedMany") 14 (s_getf 10 14 17) := snd_getf (T := TX11) (f := 14) cI_10 (by decide) g_783 (by decide +kernel)
  have h17 : Snd 2 RX11 cX11_likedMany 3 (some .int) (inM "likedMany") 17 (s_ild 2 18) := snd_iload_n (j := 2) (by decide +kernel) rfl
  have h18 : Snd 2 RX11 cX11_likedMany 3 (some .int) (inM "likedMany") 18 (s_iald 19) := snd_iald (by decide +kernel)
  have h19 : Snd 2 RX11 cX11_likedMany 3 (some .int) (inM "likedMany") 19 (s_invv 10 1 pX11_layRank 22) := snd_invv cI_10 oX11_layRank (by decide) (by decide) g_982 g_979 g_981 g_46 g_81 ⟨by decide, by decide, by decide +kernel⟩ (by decide +kernel)
  have h22 : Snd 2 RX11 cX11_likedMany 3 (some .int) (inM "likedMany") 22 (s_ild 1 23) := snd_iload_n (j := 1) (by decide +kernel) rfl
  have h23 : Snd 2 RX11 cX11_likedMany 3 (some .int) (inM "likedMany") 23 (s_ald 0 24) := snd_aload_n (j := 0) (by decide +kernel) rfl
  have h24 : Snd 2 RX11 cX11_likedMany 3 (some .int) (inM "likedMany") 24 (s_invv 10 0 qX11_isLiked 27) := snd_invv cI_10 rX11_isLiked (by decide) (by decide) g_1014 g_1011 g_1013 g_53 g_81 ⟨by decide, by decide, by decide +kernel⟩ (by decide +kernel)
  have h27 : Snd 2 RX11 cX11_likedMany 3 (some .int) (inM "likedMany") 27 (s_ifeq 34 30) := snd_ifeq (off := 7) (by decide +kernel) (by decide)
  have h30 : Snd 2 RX11 cX11_likedMany 3 (some .int) (inM "likedMany") 30 (s_push (.int 1) 31) := snd_iconst (n := 1) (by decide +kernel) (by decide)
  have h31 : Snd 2 RX11 cX11_likedMany 3 (some .int) (inM "likedMany") 31 (s_goto 35) := snd_goto (off := 4) (by decide +kernel) (by decide)
  have h34 : Snd 2 RX11 cX11_likedMany 3 (some .int) (inM "likedMany") 34 (s_push (.int 0) 35) := snd_iconst (n := 0) (by decide +kernel) (by decide)
  have h35 : Snd 2 RX11 cX11_likedMany 3 (some .int) (inM "likedMany") 35 (s_iadd 36) := snd_iadd (by decide +kernel)
  have h36 : Snd 2 RX11 cX11_likedMany 3 (some .int) (inM "likedMany") 36 (s_ist 1 37) := snd_istore_n (j := 1) (by decide +kernel) rfl
  have h37 : Snd 2 RX11 cX11_likedMany 3 (some .int) (inM "likedMany") 37 (s_inc 2 1 40) := snd_iinc (y := 1) (by decide +kernel) (by decide)
  have h40 : Snd 2 RX11 cX11_likedMany 3 (some .int) (inM "likedMany") 40 (s_goto 4) := snd_goto (off := -36) (by decide +kernel) (by decide)
  have h43 : Snd 2 RX11 cX11_likedMany 3 (some .int) (inM "likedMany") 43 (s_ild 1 44) := snd_iload_n (j := 1) (by decide +kernel) rfl
  have h44 : Snd 2 RX11 cX11_likedMany 3 (some .int) (inM "likedMany") 44 (s_iret) := snd_iret (by decide +kernel)
  exact fun pc => snd_ite (snd_ite (snd_ite (snd_ite (snd_leaf (k := 0) h0) (snd_ite (snd_leaf (k := 1) h1) (snd_leaf (k := 2) h2))) (snd_ite (snd_leaf (k := 3) h3) (snd_ite (snd_leaf (k := 4) h4) (snd_leaf (k := 5) h5)))) (snd_ite (snd_ite (snd_leaf (k := 6) h6) (snd_ite (snd_leaf (k := 9) h9) (snd_leaf (k := 12) h12))) (snd_ite (snd_ite (snd_leaf (k := 13) h13) (snd_leaf (k := 14) h14)) (snd_ite (snd_leaf (k := 17) h17) (snd_leaf (k := 18) h18))))) (snd_ite (snd_ite (snd_ite (snd_leaf (k := 19) h19) (snd_ite (snd_leaf (k := 22) h22) (snd_leaf (k := 23) h23))) (snd_ite (snd_ite (snd_leaf (k := 24) h24) (snd_leaf (k := 27) h27)) (snd_ite (snd_leaf (k := 30) h30) (snd_leaf (k := 31) h31)))) (snd_ite (snd_ite (snd_leaf (k := 34) h34) (snd_ite (snd_leaf (k := 35) h35) (snd_leaf (k := 36) h36))) (snd_ite (snd_ite (snd_leaf (k := 37) h37) (snd_leaf (k := 40) h40)) (snd_ite (snd_leaf (k := 43) h43) (snd_leaf (k := 44) h44)))))

def kX11_placeIn : Nat → Stq := fun pc => if pc < 13 then (if pc < 6 then (if pc < 2 then (if pc < 1 then (if pc = 0 then s_ald 0 1 else s_bad) else (if pc = 1 then s_ald 0 2 else s_bad)) else (if pc < 5 then (if pc = 2 then s_getf 10 14 5 else s_bad) else (if pc = 5 then s_ild 1 6 else s_bad))) else (if pc < 10 then (if pc < 7 then (if pc = 6 then s_iald 7 else s_bad) else (if pc = 7 then s_invv 10 1 pX11_layRank 10 else s_bad)) else (if pc < 11 then (if pc = 10 then s_push (.int 1) 11 else s_bad) else (if pc < 12 then (if pc = 11 then s_ist 3 12 else s_bad) else (if pc = 12 then s_ald 0 13 else s_bad))))) else (if pc < 19 then (if pc < 17 then (if pc < 16 then (if pc = 13 then s_getf 10 12 16 else s_bad) else (if pc = 16 then s_ild 3 17 else s_bad)) else (if pc < 18 then (if pc = 17 then s_iald 18 else s_bad) else (if pc = 18 then s_ild 2 19 else s_bad))) else (if pc < 25 then (if pc < 22 then (if pc = 19 then s_iceq 28 22 else s_bad) else (if pc = 22 then s_inc 3 1 25 else s_bad)) else (if pc < 28 then (if pc = 25 then s_goto 12 else s_bad) else (if pc < 29 then (if pc = 28 then s_ild 3 29 else s_bad) else (if pc = 29 then s_iret else s_bad)))))
set_option maxRecDepth 20000 in
theorem sX11_placeIn : ∀ pc, Snd 2 RX11 cX11_placeIn 4 (some .int) (inM "placeIn") pc (kX11_placeIn pc) := by
  have h0 : Snd 2 RX11 cX11_placeIn 4 (some .int) (inM "placeIn") 0 (s_ald 0 1) := snd_aload_n (j := 0) (by decide +kernel) rfl
  have h1 : Snd 2 RX11 cX11_placeIn 4 (some .int) (inM "placeIn") 1 (s_ald 0 2) := snd_aload_n (j := 0) (by decide +kernel) rfl
  have h2 : Snd 2 RX11 cX11_placeIn 4 (some .int) (inM "placeIn") 2 (s_getf 10 14 5) := snd_getf (T := TX11) (f := 14) cI_10 (by decide) g_783 (by decide +kernel)
  have h5 : Snd 2 RX11 cX11_placeIn 4 (some .int) (inM "placeIn") 5 (s_ild 1 6) := snd_iload_n (j := 1) (by decide +kernel) rfl
  have h6 : Snd 2 RX11 cX11_placeIn 4 (some .int) (inM "placeIn") 6 (s_iald 7) := snd_iald (by decide +kernel)
  have h7 : Snd 2 RX11 cX11_placeIn 4 (some .int) (inM "placeIn") 7 (s_invv 10 1 pX11_layRank 10) := snd_invv cI_10 oX11_layRank (by decide) (by decide) g_982 g_979 g_981 g_46 g_81 ⟨by decide, by decide, by decide +kernel⟩ (by decide +kernel)
  have h10 : Snd 2 RX11 cX11_placeIn 4 (some .int) (inM "placeIn") 10 (s_push (.int 1) 11) := snd_iconst (n := 1) (by decide +kernel) (by decide)
  have h11 : Snd 2 RX11 cX11_placeIn 4 (some .int) (inM "placeIn") 11 (s_ist 3 12) := snd_istore_n (j := 3) (by decide +kernel) rfl
  have h12 : Snd 2 RX11 cX11_placeIn 4 (some .int) (inM "placeIn") 12 (s_ald 0 13) := snd_aload_n (j := 0) (by decide +kernel) rfl
  have h13 : Snd 2 RX11 cX11_placeIn 4 (some .int) (inM "placeIn") 13 (s_getf 10 12 16) := snd_getf (T := TX11) (f := 12) cI_10 (by decide) g_781 (by decide +kernel)
  have h16 : Snd 2 RX11 cX11_placeIn 4 (some .int) (inM "placeIn") 16 (s_ild 3 17) := snd_iload_n (j := 3) (by decide +kernel) rfl
  have h17 : Snd 2 RX11 cX11_placeIn 4 (some .int) (inM "placeIn") 17 (s_iald 18) := snd_iald (by decide +kernel)
  have h18 : Snd 2 RX11 cX11_placeIn 4 (some .int) (inM "placeIn") 18 (s_ild 2 19) := snd_iload_n (j := 2) (by decide +kernel) rfl
  have h19 : Snd 2 RX11 cX11_placeIn 4 (some .int) (inM "placeIn") 19 (s_iceq 28 22) := snd_iceq (off := 9) (by decide +kernel) (by decide)
  have h22 : Snd 2 RX11 cX11_placeIn 4 (some .int) (inM "placeIn") 22 (s_inc 3 1 25) := snd_iinc (y := 1) (by decide +kernel) (by decide)
  have h25 : Snd 2 RX11 cX11_placeIn 4 (some .int) (inM "placeIn") 25 (s_goto 12) := snd_goto (off := -13) (by decide +kernel) (by decide)
  have h28 : Snd 2 RX11 cX11_placeIn 4 (some .int) (inM "placeIn") 28 (s_ild 3 29) := snd_iload_n (j := 3) (by decide +kernel) rfl
  have h29 : Snd 2 RX11 cX11_placeIn 4 (some .int) (inM "placeIn") 29 (s_iret) := snd_iret (by decide +kernel)
  exact fun pc => snd_ite (snd_ite (snd_ite (snd_ite (snd_leaf (k := 0) h0) (snd_leaf (k := 1) h1)) (snd_ite (snd_leaf (k := 2) h2) (snd_leaf (k := 5) h5))) (snd_ite (snd_ite (snd_leaf (k := 6) h6) (snd_leaf (k := 7) h7)) (snd_ite (snd_leaf (k := 10) h10) (snd_ite (snd_leaf (k := 11) h11) (snd_leaf (k := 12) h12))))) (snd_ite (snd_ite (snd_ite (snd_leaf (k := 13) h13) (snd_leaf (k := 16) h16)) (snd_ite (snd_leaf (k := 17) h17) (snd_leaf (k := 18) h18))) (snd_ite (snd_ite (snd_leaf (k := 19) h19) (snd_leaf (k := 22) h22)) (snd_ite (snd_leaf (k := 25) h25) (snd_ite (snd_leaf (k := 28) h28) (snd_leaf (k := 29) h29)))))
end
section
/-! the reference: the rows of the touch, and what is told of them -/
theorem tln_lt {S : Stg} {l k : Nat} (hl : l < (sL S).length) (hk : k < (sC S).length) : l * (sC S).length + k < tln S := by
  have : (l + 1) * (sC S).length ≤ (sL S).length * (sC S).length := Nat.mul_le_mul_right _ hl
  rw [Nat.add_mul, Nat.one_mul] at this
  unfold tln
  omega
theorem tln_le {S : Stg} (h : VS S) : tln S ≤ 1600 := Nat.le_trans (Nat.mul_le_mul h.2.2.2.2.1 h.2.1.1) (by decide)
theorem trw_at {S : Stg} {l k : Nat} (hk : k < (sC S).length) : trw S (l * (sC S).length + k + 1) = chg (sN S) (chOf S ((sL S).getD l 0) k) (trw S (l * (sC S).length + k)) := by
  show chg (sN S) (chOf S ((sL S).getD ((l * (sC S).length + k) / (sC S).length) 0) ((l * (sC S).length + k) % (sC S).length)) _ = _
  rw [Nat.mul_comm l, Nat.mul_add_div (by omega), Nat.div_eq_of_lt hk, Nat.mul_add_mod, Nat.mod_eq_of_lt hk, Nat.add_zero]
def pX11_layTouch : Spc := fun As g Q => ∃ L iF aI aL S, g = Mg L iF aI aL ∧ As = [.ref 32] ∧ RS (aI 33) S ∧ VS S ∧ ∀ f r, RK (sN S) (tln S) (trw S) r → Q none (Mg L (up1 iF 32 (up1 (iF 32) 15 (nI (tln S + 1)))) (up1 (up1 aI 38 f) 40 r) aL)
theorem oX11_layTouch : Ok 2 yX11_layTouch cX11_layTouch 3 none pX11_layTouch := by
  refine ok_all fun As g Q h => ?_
  obtain ⟨L, iF, aI, aL, S, rfl, rfl, hR, hS, hQ⟩ := h
  have hc := hS.2.1.1
  have hl := hS.2.2.2.2.1
  have hT := tln_le hS
  have hn := hS.1.2
  refine at_of (fun pc => pc == 18 || pc == 31) 80 (fun k pc ls st g' => (∃ l f r w, pc = 18 ∧ ls = [.ref 32, .int (nI l), w] ∧ st = [] ∧ g' = Mg L (up1 iF 32 (up1 (iF 32) 15 (nI (l * (sC S).length + 1)))) (up1 (up1 aI 38 f) 40 r) aL ∧ k = 100 * (41 - l) ∧ l ≤ (sL S).length ∧ MR (sN S) (trw S (l * (sC S).length)) f ∧ RK (sN S) (l * (sC S).length) (trw S) r)
      ∨ (∃ l j f r, pc = 31 ∧ ls = [.ref 32, .int (nI l), .int (nI j)] ∧ st = [] ∧ g' = Mg L (up1 iF 32 (up1 (iF 32) 15 (nI (l * (sC S).length + j + 1)))) (up1 (up1 aI 38 f) 40 r) aL ∧ k = 100 * (41 - l) - 1 - j ∧ l < (sL S).length ∧ j ≤ (sC S).length ∧ MR (sN S) (trw S (l * (sC S).length + j)) f ∧ RK (sN S) (l * (sC S).length + j) (trw S) r)) (by decide) rfl sX11_layTouch (nl (n := 1) rfl rfl rfl) ?_ ?_
  · refine ⟨L, iF, aI, aL, rfl, rfl, fun f hf => ?_⟩
    refine And.intro (vp_in_nI (n := 0) (N := 1601) (by omega) (by omega)) ?_
    refine ⟨4100, Or.inl ⟨0, f, up1 (aI 40) 0 0, U_, rfl, rfl, rfl, ?_, rfl, by omega, ?_, ?_⟩⟩
    · show (SH (true, L), up1 iF 32 (up1 (iF 32) 15 1), up1 (up1 aI 38 f) 40 (up1 (up1 aI 38 f 40) 0 0), aL) = _
      rw [Nat.zero_mul]
      rfl
    · rw [Nat.zero_mul]
      intro p hp
      rw [hf p (by omega)]
      show _ = nI (dg (rds (sN S)) p + 1)
      rw [dg_rds hn hp]
    · rw [Nat.zero_mul]
      intro i hi
      have e : i = 0 := by omega
      subst e
      show up1 (aI 40) 0 0 0 = nI (rk (sN S) (rds (sN S)))
      rw [up1_s, rk_rds hn]
      rfl
  · rintro k pc ls st g' (⟨l, f, r, w, rfl, rfl, rfl, rfl, rfl, hl2, hf, hr⟩ | ⟨l, j, f, r, rfl, rfl, rfl, rfl, rfl, hl2, hj, hf, hr⟩)
    · refine And.intro (vp_in_nI (n := 44) (N := 85) (by omega) (by omega)) ?_
      refine br_c (fun h => ?_) (fun h => ?_)
      · have h : aI 33 44 ≤ nI l := h
        rw [hR.2.2.2.2.2.1] at h
        have h : (sL S).length ≤ l := (nI_leI (by omega) (by omega)).mp h
        have e : l = (sL S).length := by omega
        subst e
        exact hQ f r hr
      · have h : ¬ aI 33 44 ≤ nI l := h
        rw [hR.2.2.2.2.2.1] at h
        have h : ¬ (sL S).length ≤ l := fun q => h ((nI_leI (by omega) (by omega)).mpr q)
        exact ⟨100 * (41 - l) - 1, by omega, Or.inr ⟨l, 0, f, r, rfl, rfl, rfl, rfl, rfl, by omega, by omega, hf, hr⟩⟩
    · refine And.intro (vp_in_nI (n := 1) (N := 85) (by omega) (by omega)) ?_
      refine br_c (fun h => ?_) (fun h => ?_)
      · have h : aI 33 1 ≤ nI j := h
        rw [hR.2.1] at h
        have h : (sC S).length ≤ j := (nI_leI (by omega) (by omega)).mp h
        have e : j = (sC S).length := by omega
        subst e
        have e2 : l * (sC S).length + (sC S).length = (l + 1) * (sC S).length := by rw [Nat.add_mul, Nat.one_mul]
        rw [e2] at hf hr
        refine ⟨100 * (41 - (l + 1)), by omega, Or.inl ⟨l + 1, f, r, .int (nI (sC S).length), rfl, ?_, rfl, ?_, rfl, by omega, hf, hr⟩⟩
        · show [Value.ref 32, .int (nI l + 1), .int (nI (sC S).length)] = _
          rw [nI_1]
        · rw [e2]
      · have h : ¬ aI 33 1 ≤ nI j := h
        rw [hR.2.1] at h
        have h : ¬ (sC S).length ≤ j := fun q => h ((nI_leI (by omega) (by omega)).mpr q)
        have hv := chOf_VM hS (l := (sL S).getD l 0) (k := j) (by omega)
        have hlt := tln_lt (S := S) hl2 (show j < (sC S).length by omega)
        have hll : (sL S).getD l 0 ≤ 2 := hS.2.2.2.2.2 _ (getD_mem hl2)
        have e45 : (45 : Int32) + nI l = nI (45 + l) := nI_add 45 l
        refine And.intro (by rw [e45]; exact vp_in_nI (by omega) (by omega)) ?_
        refine ⟨L, _, _, aL, S, (sL S).getD l 0, j, rfl, ?_, hR, hS, hll, by omega, ?_⟩
        · show [Value.ref 32, .int (aI 33 ((45 : Int32) + nI l).toNatClampNeg), .int (nI j)] = _
          rw [e45, cl1 (by omega), hR.2.2.2.2.2.2 l hl2]
        refine ⟨L, _, _, aL, sN S, chOf S ((sL S).getD l 0) j, trw S (l * (sC S).length + j), rfl, rfl, hS.1.1, hS.1.2, hv.1, hv.2.2, hR.1, hf, fun f2 hf2 => ?_⟩
        rw [← trw_at (by omega)] at hf2
        refine ⟨L, _, _, aL, sN S, _, rfl, rfl, hS.1.2, hR.1, hf2, ?_⟩
        refine And.intro (vp_in_nI (by omega) (by omega)) ?_
        refine ⟨100 * (41 - l) - 1 - (j + 1), by omega, Or.inr ⟨l, j + 1, f2, up1 r (l * (sC S).length + j + 1) (nI (rk (sN S) (trw S (l * (sC S).length + j + 1)))), rfl, ?_, rfl, ?_, rfl, by omega, by omega, hf2, fun i hi => ?_⟩⟩
        · show [Value.ref 32, .int (nI l), .int (nI j + 1)] = _
          rw [nI_1]
        · show (SH (true, L), up1 (up1 iF 32 (up1 (iF 32) 15 (nI (l * (sC S).length + j + 1)))) 32 (up1 (up1 iF 32 (up1 (iF 32) 15 (nI (l * (sC S).length + j + 1))) 32) 15 (nI (l * (sC S).length + j + 1) + 1)), up1 (up1 (up1 (up1 aI 38 f) 40 r) 38 f2) 40 (up1 (up1 (up1 (up1 aI 38 f) 40 r) 38 f2 40) (nI (l * (sC S).length + j + 1)).toNatClampNeg (nI (rk (sN S) (trw S (l * (sC S).length + j + 1))))), aL) = _
          rw [up1_up1, up1_s, up1_up1, nI_1, cl1 (by omega), show l * (sC S).length + j + 1 + 1 = l * (sC S).length + (j + 1) + 1 by omega]
          congr 3
          funext a
          unfold up1
          by_cases h40 : a = 40
          · subst h40; simp
          · by_cases h38 : a = 38
            · subst h38; simp
            · simp [h40, h38]
        · by_cases e : i = l * (sC S).length + j + 1
          · subst e; rw [up1_s]
          · rw [up1_n _ _ e]; exact hr i (by omega)
def pX11_falseMany : Spc := fun As g Q => ∃ L iF aI aL n T R, g = Mg L iF aI aL ∧ As = [.ref 32] ∧ n ≤ 8 ∧ (∀ j, Pm n (R j)) ∧ RK n T R (aI 40) ∧ T ≤ 1600 ∧ iF 32 15 = nI (T + 1) ∧ Q (some (.int (nI (sm (fun i => if isF R i = true then 1 else 0) (T + 1))))) g
theorem oX11_falseMany : Ok 1 yX11_falseMany cX11_falseMany 3 (some .int) pX11_falseMany := by
  refine ok_all fun As g Q h => ?_
  obtain ⟨L, iF, aI, aL, n, T, R, rfl, rfl, hn, hP, hR, hT, hM, hQ⟩ := h
  refine at_of (fun pc => pc == 4) 60 (fun k pc ls st g' => ∃ j, pc = 4 ∧ ls = [.ref 32, .int (nI (sm (fun i => if isF R i = true then 1 else 0) (j + 1))), .int (nI (j + 1))] ∧ st = [] ∧ g' = Mg L iF aI aL ∧ k = 2000 - j ∧ j ≤ T) (by decide) rfl sX11_falseMany (nl (n := 1) rfl rfl rfl) ?_ ?_
  · exact ⟨2000, 0, rfl, rfl, rfl, rfl, rfl, by omega⟩
  · rintro k pc ls st g' ⟨j, rfl, rfl, rfl, rfl, rfl, hj⟩
    refine br_c (fun h => ?_) (fun h => ?_)
    · have h : iF 32 15 ≤ nI (j + 1) := h
      rw [hM] at h
      have h : T + 1 ≤ j + 1 := (nI_leI (by omega) (by omega)).mp h
      have e : j = T := by omega
      subst e
      exact hQ
    · have h : ¬ iF 32 15 ≤ nI (j + 1) := h
      rw [hM] at h
      have h : ¬ T + 1 ≤ j + 1 := fun q => h ((nI_leI (by omega) (by omega)).mpr q)
      refine ⟨L, iF, aI, aL, n, T, R, j + 1, rfl, rfl, hn, hP, hR, hT, by omega, ?_⟩
      have es : sm (fun i => if isF R i = true then 1 else 0) (j + 1 + 1) = sm (fun i => if isF R i = true then 1 else 0) (j + 1) + (if isF R (j + 1) = true then 1 else 0) := rfl
      refine br_c (fun h1 => ?_) (fun h1 => ?_)
      · have hf : isF R (j + 1) = false := by
          cases hc : isF R (j + 1) with
          | false => rfl
          | true => rw [hc] at h1; exact absurd h1 (by decide)
        refine ⟨2000 - (j + 1), by omega, j + 1, rfl, ?_, rfl, rfl, rfl, by omega⟩
        show [Value.ref 32, .int (nI (sm (fun i => if isF R i = true then 1 else 0) (j + 1)) + nI 0), .int (nI (j + 1) + 1)] = _
        rw [nI_add, nI_1, es, hf]
        rfl
      · have hf : isF R (j + 1) = true := by
          cases hc : isF R (j + 1) with
          | true => rfl
          | false => rw [hc] at h1; exact absurd rfl h1
        refine ⟨2000 - (j + 1), by omega, j + 1, rfl, ?_, rfl, rfl, rfl, by omega⟩
        show [Value.ref 32, .int (nI (sm (fun i => if isF R i = true then 1 else 0) (j + 1)) + nI 1), .int (nI (j + 1) + 1)] = _
        rw [nI_add, nI_1, es, hf]
        rfl
def pX11_firstFalse : Spc := fun As g Q => ∃ L iF aI aL n T R, g = Mg L iF aI aL ∧ As = [.ref 32] ∧ n ≤ 8 ∧ (∀ j, Pm n (R j)) ∧ RK n T R (aI 40) ∧ T ≤ 1600 ∧ iF 32 15 = nI (T + 1) ∧ Q (some (.int (fstI (isF R) 1 T))) g
theorem oX11_firstFalse : Ok 1 yX11_firstFalse cX11_firstFalse 2 (some .int) pX11_firstFalse := by
  refine ok_all fun As g Q h => ?_
  obtain ⟨L, iF, aI, aL, n, T, R, rfl, rfl, hn, hP, hR, hT, hM, hQ⟩ := h
  refine at_of (fun pc => pc == 2) 60 (fun k pc ls st g' => ∃ j, pc = 2 ∧ ls = [.ref 32, .int (nI (j + 1))] ∧ st = [] ∧ g' = Mg L iF aI aL ∧ k = 2000 - j ∧ j ≤ T ∧ fstI (isF R) 1 T = fstI (isF R) (j + 1) (T - j)) (by decide) rfl sX11_firstFalse (nl (n := 1) rfl rfl rfl) ?_ ?_
  · exact ⟨2000, 0, rfl, rfl, rfl, rfl, rfl, by omega, rfl⟩
  · rintro k pc ls st g' ⟨j, rfl, rfl, rfl, rfl, rfl, hj, he⟩
    refine br_c (fun h => ?_) (fun h => ?_)
    · have h : iF 32 15 ≤ nI (j + 1) := h
      rw [hM] at h
      have h : T + 1 ≤ j + 1 := (nI_leI (by omega) (by omega)).mp h
      rw [he, show T - j = 0 by omega] at hQ
      exact hQ
    · have h : ¬ iF 32 15 ≤ nI (j + 1) := h
      rw [hM] at h
      have h : ¬ T + 1 ≤ j + 1 := fun q => h ((nI_leI (by omega) (by omega)).mpr q)
      have e0 : T - j = (T - (j + 1)) + 1 := by omega
      rw [e0] at he
      have he : fstI (isF R) 1 T = if isF R (j + 1) = true then nI (j + 1) else fstI (isF R) (j + 1 + 1) (T - (j + 1)) := he
      refine ⟨L, iF, aI, aL, n, T, R, j + 1, rfl, rfl, hn, hP, hR, hT, by omega, ?_⟩
      refine br_c (fun h1 => ?_) (fun h1 => ?_)
      · have hf : isF R (j + 1) = false := by
          cases hc : isF R (j + 1) with
          | false => rfl
          | true => rw [hc] at h1; exact absurd h1 (by decide)
        rw [if_neg (by rw [hf]; simp)] at he
        refine ⟨2000 - (j + 1), by omega, j + 1, rfl, ?_, rfl, rfl, rfl, by omega, he⟩
        show [Value.ref 32, .int (nI (j + 1) + 1)] = _
        rw [nI_1]
      · have hf : isF R (j + 1) = true := by
          cases hc : isF R (j + 1) with
          | true => rfl
          | false => rw [hc] at h1; exact absurd rfl h1
        rw [if_pos hf] at he
        rw [he] at hQ
        exact hQ
def pX11_likedMany : Spc := fun As g Q => ∃ L iF aI aL n T R, g = Mg L iF aI aL ∧ As = [.ref 32] ∧ 4 ≤ n ∧ n ≤ 8 ∧ aI 33 0 = nI n ∧ (∀ j, Pm n (R j)) ∧ RK n T R (aI 40) ∧ T ≤ 1600 ∧ iF 32 15 = nI (T + 1) ∧ ∀ f u, Q (some (.int (nI (sm (fun i => if 1 ≤ i ∧ lik n (R i) = true then 1 else 0) (T + 1))))) (Mg L iF (up1 (up1 aI 38 f) 39 u) aL)
theorem up_3839 {f u f2 u2 : Nat → Int32} (aI : Nat → Nat → Int32) : up1 (up1 (up1 (up1 aI 38 f) 39 u) 38 f2) 39 u2 = up1 (up1 aI 38 f2) 39 u2 := by
  funext a
  unfold up1
  by_cases h39 : a = 39
  · subst h39; simp
  · by_cases h38 : a = 38
    · subst h38; simp
    · simp [h39, h38]
theorem up_id3839 (aI : Nat → Nat → Int32) : up1 (up1 aI 38 (aI 38)) 39 (aI 39) = aI := by
  rw [up1_id]; exact up1_id _ _
theorem oX11_likedMany : Ok 2 yX11_likedMany cX11_likedMany 3 (some .int) pX11_likedMany := by
  refine ok_all fun As g Q h => ?_
  obtain ⟨L, iF, aI, aL, n, T, R, rfl, rfl, hn4, hn, hN, hP, hR, hT, hM, hQ⟩ := h
  refine at_of (fun pc => pc == 4) 60 (fun k pc ls st g' => ∃ j f u, pc = 4 ∧ ls = [.ref 32, .int (nI (sm (fun i => if 1 ≤ i ∧ lik n (R i) = true then 1 else 0) (j + 1))), .int (nI (j + 1))] ∧ st = [] ∧ g' = Mg L iF (up1 (up1 aI 38 f) 39 u) aL ∧ k = 2000 - j ∧ j ≤ T) (by decide) rfl sX11_likedMany (nl (n := 1) rfl rfl rfl) ?_ ?_
  · refine ⟨2000, 0, aI 38, aI 39, rfl, rfl, rfl, ?_, rfl, by omega⟩
    show (SH (true, L), iF, aI, aL) = (SH (true, L), iF, up1 (up1 aI 38 (aI 38)) 39 (aI 39), aL)
    rw [up_id3839]
  · rintro k pc ls st g' ⟨j, f, u, rfl, rfl, rfl, rfl, rfl, hj⟩
    refine br_c (fun h => ?_) (fun h => ?_)
    · have h : iF 32 15 ≤ nI (j + 1) := h
      rw [hM] at h
      have h : T + 1 ≤ j + 1 := (nI_leI (by omega) (by omega)).mp h
      have e : j = T := by omega
      subst e
      exact hQ f u
    · have h : ¬ iF 32 15 ≤ nI (j + 1) := h
      rw [hM] at h
      have h : ¬ T + 1 ≤ j + 1 := fun q => h ((nI_leI (by omega) (by omega)).mpr q)
      refine And.intro (vp_in_nI (by omega) (by omega)) ?_
      have e1 : aI 40 (nI (j + 1)).toNatClampNeg = nI (rk n (R (j + 1))) := by rw [cl1 (by omega)]; exact hR (j + 1) (by omega)
      refine ⟨L, iF, _, aL, n, R (j + 1), rfl, ?_, hn4, hn, hN, hP _, fun f2 u2 hf2 => ?_⟩
      · show [Value.ref 32, .int (aI 40 (nI (j + 1)).toNatClampNeg)] = _
        rw [e1]
      refine ⟨L, iF, _, aL, n, R (j + 1), rfl, rfl, hn4, hn, hN, hf2, ?_⟩
      have es : sm (fun i => if 1 ≤ i ∧ lik n (R i) = true then 1 else 0) (j + 1 + 1) = sm (fun i => if 1 ≤ i ∧ lik n (R i) = true then 1 else 0) (j + 1) + (if 1 ≤ j + 1 ∧ lik n (R (j + 1)) = true then 1 else 0) := rfl
      refine br_c (fun h1 => ?_) (fun h1 => ?_)
      · have hf : lik n (R (j + 1)) = false := by
          cases hc : lik n (R (j + 1)) with
          | false => rfl
          | true => rw [hc] at h1; exact absurd h1 (by decide)
        refine ⟨2000 - (j + 1), by omega, j + 1, f2, u2, rfl, ?_, rfl, ?_, rfl, by omega⟩
        · show [Value.ref 32, .int (nI (sm (fun i => if 1 ≤ i ∧ lik n (R i) = true then 1 else 0) (j + 1)) + nI 0), .int (nI (j + 1) + 1)] = _
          rw [nI_add, nI_1, es, if_neg (fun z => by rw [hf] at z; cases z.2)]
        · show (SH (true, L), iF, up1 (up1 (up1 (up1 aI 38 f) 39 u) 38 f2) 39 u2, aL) = _
          rw [up_3839]
      · have hf : lik n (R (j + 1)) = true := by
          cases hc : lik n (R (j + 1)) with
          | true => rfl
          | false => rw [hc] at h1; exact absurd rfl h1
        refine ⟨2000 - (j + 1), by omega, j + 1, f2, u2, rfl, ?_, rfl, ?_, rfl, by omega⟩
        · show [Value.ref 32, .int (nI (sm (fun i => if 1 ≤ i ∧ lik n (R i) = true then 1 else 0) (j + 1)) + nI 1), .int (nI (j + 1) + 1)] = _
          rw [nI_add, nI_1, es, if_pos ⟨by omega, hf⟩]
        · show (SH (true, L), iF, up1 (up1 (up1 (up1 aI 38 f) 39 u) 38 f2) 39 u2, aL) = _
          rw [up_3839]
def pX11_placeIn : Spc := fun As g Q => ∃ L iF aI aL n T R i b p, g = Mg L iF aI aL ∧ As = [.ref 32, .int (nI i), .int (nI b)] ∧ 4 ≤ n ∧ n ≤ 8 ∧ aI 33 0 = nI n ∧ (∀ j, Pm n (R j)) ∧ RK n T R (aI 40) ∧ T ≤ 1600 ∧ i ≤ T ∧ p < n ∧ dg (R i) p + 1 = b ∧ ∀ f u, Q (some (.int (nI (p + 1)))) (Mg L iF (up1 (up1 aI 38 f) 39 u) aL)
theorem oX11_placeIn : Ok 2 yX11_placeIn cX11_placeIn 4 (some .int) pX11_placeIn := by
  refine ok_all fun As g Q h => ?_
  obtain ⟨L, iF, aI, aL, n, T, R, i, b, p, rfl, rfl, hn4, hn, hN, hP, hR, hT, hi, hp, hb, hQ⟩ := h
  have dp := dg_lt (R i) p
  refine at_of (fun pc => pc == 12) 60 (fun k pc ls st g' => ∃ q f u, pc = 12 ∧ ls = [.ref 32, .int (nI i), .int (nI b), .int (nI (q + 1))] ∧ st = [] ∧ g' = Mg L iF (up1 (up1 aI 38 f) 39 u) aL ∧ k = 10 - q ∧ q ≤ p ∧ MR n (R i) f) (by decide) rfl sX11_placeIn (nl (n := 3) rfl rfl rfl) ?_ ?_
  · refine And.intro (vp_in_nI (by omega) (by omega)) ?_
    refine ⟨L, iF, aI, aL, n, R i, rfl, ?_, hn4, hn, hN, hP _, fun f u hf => ?_⟩
    · show [Value.ref 32, .int (aI 40 (nI i).toNatClampNeg)] = _
      rw [cl1 (by omega), hR i hi]
    exact ⟨10, 0, f, u, rfl, rfl, rfl, rfl, rfl, by omega, hf⟩
  · rintro k pc ls st g' ⟨q, f, u, rfl, rfl, rfl, rfl, rfl, hq, hf⟩
    have dq := dg_lt (R i) q
    refine And.intro (vp_in_nI (by omega) (by omega)) ?_
    have e1 : f (nI (q + 1)).toNatClampNeg = nI (dg (R i) q + 1) := by rw [cl1 (by omega)]; exact hf q (by omega)
    refine br_c (fun h => ?_) (fun h => ?_)
    · have h : f (nI (q + 1)).toNatClampNeg = nI b := h
      rw [e1] at h
      have h : dg (R i) q + 1 = b := (nI_eq (by omega) (by omega)).mp h
      have e : q = p := (hP i).2.2 q p (by omega) hp (by omega)
      subst e
      exact hQ f u
    · have h : ¬ f (nI (q + 1)).toNatClampNeg = nI b := h
      rw [e1] at h
      have e : q ≠ p := fun e => h (by rw [e, hb])
      refine ⟨10 - (q + 1), by omega, q + 1, f, u, rfl, ?_, rfl, rfl, rfl, by omega, hf⟩
      show [Value.ref 32, .int (nI i), .int (nI b), .int (nI (q + 1) + 1)] = _
      rw [nI_1]
end
section
def kX11_goesWhere : Nat → Stq := fun pc => if pc < 59 then (if pc < 28 then (if pc < 12 then (if pc < 5 then (if pc < 2 then (if pc < 1 then (if pc = 0 then s_push (.int 0) 1 else s_bad) else (if pc = 1 then s_ist 3 2 else s_bad)) else (if pc < 3 then (if pc = 2 then s_push (.int 0) 3 else s_bad) else (if pc = 3 then s_ist 4 5 else s_bad))) else (if pc < 8 then (if pc < 6 then (if pc = 5 then s_push (.int 1) 6 else s_bad) else (if pc = 6 then s_ist 5 8 else s_bad)) else (if pc < 9 then (if pc = 8 then s_push (.int 1) 9 else s_bad) else (if pc < 11 then (if pc = 9 then s_ist 6 11 else s_bad) else (if pc = 11 then s_ald 0 12 else s_bad))))) else (if pc < 19 then (if pc < 14 then (if pc < 13 then (if pc = 12 then s_push (.int 0) 13 else s_bad) else (if pc = 13 then s_ild 1 14 else s_bad)) else (if pc < 17 then (if pc = 14 then s_invv 10 2 pX11_placeIn 17 else s_bad) else (if pc = 17 then s_ist 7 19 else s_bad))) else (if pc < 22 then (if pc < 20 then (if pc = 19 then s_push (.int 1) 20 else s_bad) else (if pc = 20 then s_ist 8 22 else s_bad)) else (if pc < 24 then (if pc = 22 then s_frg 9 (s_ild 8 24) else s_bad) else (if pc < 25 then (if pc = 24 then s_ald 0 25 else s_bad) else (if pc = 25 then s_getf 10 15 28 else s_bad)))))) else (if pc < 44 then (if pc < 35 then (if pc < 32 then (if pc < 31 then (if pc = 28 then s_icge 106 31 else s_bad) else (if pc = 31 then s_ald 0 32 else s_bad)) else (if pc < 34 then (if pc = 32 then s_ild 8 34 else s_bad) else (if pc = 34 then s_ild 1 35 else s_bad))) else (if pc < 40 then (if pc < 38 then (if pc = 35 then s_invv 10 2 pX11_placeIn 38 else s_bad) else (if pc = 38 then s_ist 9 40 else s_bad)) else (if pc < 41 then (if pc = 40 then s_ild 3 41 else s_bad) else (if pc < 42 then (if pc = 41 then s_push (.int 1) 42 else s_bad) else (if pc = 42 then s_ild 9 44 else s_bad))))) else (if pc < 49 then (if pc < 46 then (if pc < 45 then (if pc = 44 then s_ishl 45 else s_bad) else (if pc = 45 then s_ior 46 else s_bad)) else (if pc < 47 then (if pc = 46 then s_ist 3 47 else s_bad) else (if pc = 47 then s_ild 4 49 else s_bad))) else (if pc < 52 then (if pc < 51 then (if pc = 49 then s_ild 9 51 else s_bad) else (if pc = 51 then s_push (.int 1) 52 else s_bad)) else (if pc < 55 then (if pc = 52 then s_icne 59 55 else s_bad) else (if pc < 56 then (if pc = 55 then s_push (.int 1) 56 else s_bad) else (if pc = 56 then s_goto 60 else s_bad))))))) else (if pc < 94 then (if pc < 74 then (if pc < 65 then (if pc < 61 then (if pc < 60 then (if pc = 59 then s_push (.int 0) 60 else s_bad) else (if pc = 60 then s_iadd 61 else s_bad)) else (if pc < 63 then (if pc = 61 then s_ist 4 63 else s_bad) else (if pc = 63 then s_ild 9 65 else s_bad))) else (if pc < 70 then (if pc < 67 then (if pc = 65 then s_ild 7 67 else s_bad) else (if pc = 67 then s_icne 77 70 else s_bad)) else (if pc < 72 then (if pc = 70 then s_ild 5 72 else s_bad) else (if pc < 73 then (if pc = 72 then s_push (.int 1) 73 else s_bad) else (if pc = 73 then s_iadd 74 else s_bad))))) else (if pc < 82 then (if pc < 78 then (if pc < 77 then (if pc = 74 then s_goto 78 else s_bad) else (if pc = 77 then s_push (.int 1) 78 else s_bad)) else (if pc < 80 then (if pc = 78 then s_ist 5 80 else s_bad) else (if pc = 80 then s_ild 5 82 else s_bad))) else (if pc < 87 then (if pc < 84 then (if pc = 82 then s_ild 6 84 else s_bad) else (if pc = 84 then s_icle 92 87 else s_bad)) else (if pc < 89 then (if pc = 87 then s_ild 5 89 else s_bad) else (if pc < 92 then (if pc = 89 then s_goto 94 else s_bad) else (if pc = 92 then s_ild 6 94 else s_bad)))))) else (if pc < 112 then (if pc < 103 then (if pc < 98 then (if pc < 96 then (if pc = 94 then s_ist 6 96 else s_bad) else (if pc = 96 then s_ild 9 98 else s_bad)) else (if pc < 100 then (if pc = 98 then s_ist 7 100 else s_bad) else (if pc = 100 then s_inc 8 1 103 else s_bad))) else (if pc < 107 then (if pc < 106 then (if pc = 103 then s_goto 22 else s_bad) else (if pc = 106 then s_ild 2 107 else s_bad)) else (if pc < 108 then (if pc = 107 then s_push (.int 1) 108 else s_bad) else (if pc < 111 then (if pc = 108 then s_icne 118 111 else s_bad) else (if pc = 111 then s_ild 3 112 else s_bad))))) else (if pc < 120 then (if pc < 118 then (if pc < 115 then (if pc = 112 then s_inv 1 pX11_size 115 else s_bad) else (if pc = 115 then s_goto 130 else s_bad)) else (if pc < 119 then (if pc = 118 then s_ild 2 119 else s_bad) else (if pc = 119 then s_push (.int 2) 120 else s_bad))) else (if pc < 125 then (if pc < 123 then (if pc = 120 then s_icne 128 123 else s_bad) else (if pc = 123 then s_ild 4 125 else s_bad)) else (if pc < 128 then (if pc = 125 then s_goto 130 else s_bad) else (if pc < 130 then (if pc = 128 then s_ild 6 130 else s_bad) else (if pc = 130 then s_iret else s_bad)))))))
set_option maxRecDepth 20000 in
theorem sX11_goesWhere : ∀ pc, Snd 3 RX11 cX11_goesWhere 10 (some .int) (inM "goesWhere") pc (kX11_goesWhere pc) := by
  have h0 : Snd 3 RX11 cX11_goesWhere 10 (some .int) (inM "goesWhere") 0 (s_push (.int 0) 1) := snd_iconst (n := 0) (by decide +kernel) (by decide)
  have h1 : Snd 3 RX11 cX11_goesWhere 10 (some .int) (inM "goesWhere") 1 (s_ist 3 2) := snd_istore_n (j := 3) (by decide +kernel) rfl
  have h2 : Snd 3 RX11 cX11_goesWhere 10 (some .int) (inM "goesWhere") 2 (s_push (.int 0) 3) := snd_iconst (n := 0) (by decide +kernel) (by decide)
  have h3 : Snd 3 RX11 cX11_goesWhere 10 (some .int) (inM "goesWhere") 3 (s_ist 4 5) := snd_istore (by decide +kernel)
  have h5 : Snd 3 RX11 cX11_goesWhere 10 (some .int) (inM "goesWhere") 5 (s_push (.int 1) 6) := snd_iconst (n := 1) (by decide +kernel) (by decide)
  have h6 : Snd 3 RX11 cX11_goesWhere 10 (some .int) (inM "goesWhere") 6 (s_ist 5 8) := snd_istore (by decide +kernel)
  have h8 : Snd 3 RX11 cX11_goesWhere 10 (some .int) (inM "goesWhere") 8 (s_push (.int 1) 9) := snd_iconst (n := 1) (by decide +kernel) (by decide)
  have h9 : Snd 3 RX11 cX11_goesWhere 10 (some .int) (inM "goesWhere") 9 (s_ist 6 11) := snd_istore (by decide +kernel)
  have h11 : Snd 3 RX11 cX11_goesWhere 10 (some .int) (inM "goesWhere") 11 (s_ald 0 12) := snd_aload_n (j := 0) (by decide +kernel) rfl
  have h12 : Snd 3 RX11 cX11_goesWhere 10 (some .int) (inM "goesWhere") 12 (s_push (.int 0) 13) := snd_iconst (n := 0) (by decide +kernel) (by decide)
  have h13 : Snd 3 RX11 cX11_goesWhere 10 (some .int) (inM "goesWhere") 13 (s_ild 1 14) := snd_iload_n (j := 1) (by decide +kernel) rfl
  have h14 : Snd 3 RX11 cX11_goesWhere 10 (some .int) (inM "goesWhere") 14 (s_invv 10 2 pX11_placeIn 17) := snd_invv cI_10 oX11_placeIn (by decide) (by decide) g_1026 g_1023 g_1025 g_55 g_81 ⟨by decide, by decide, by decide +kernel⟩ (by decide +kernel)
  have h17 : Snd 3 RX11 cX11_goesWhere 10 (some .int) (inM "goesWhere") 17 (s_ist 7 19) := snd_istore (by decide +kernel)
  have h19 : Snd 3 RX11 cX11_goesWhere 10 (some .int) (inM "goesWhere") 19 (s_push (.int 1) 20) := snd_iconst (n := 1) (by decide +kernel) (by decide)
  have h20 : Snd 3 RX11 cX11_goesWhere 10 (some .int) (inM "goesWhere") 20 (s_ist 8 22) := snd_istore (by decide +kernel)
  have h22 : Snd 3 RX11 cX11_goesWhere 10 (some .int) (inM "goesWhere") 22 (s_frg 9 (s_ild 8 24)) := snd_frg (snd_iload (by decide +kernel))
  have h24 : Snd 3 RX11 cX11_goesWhere 10 (some .int) (inM "goesWhere") 24 (s_ald 0 25) := snd_aload_n (j := 0) (by decide +kernel) rfl
  have h25 : Snd 3 RX11 cX11_goesWhere 10 (some .int) (inM "goesWhere") 25 (s_getf 10 15 28) := snd_getf (T := TX11) (f := 15) cI_10 (by decide) g_784 (by decide +kernel)
  have h28 : Snd 3 RX11 cX11_goesWhere 10 (some .int) (inM "goesWhere") 28 (s_icge 106 31) := snd_icge (off := 78) (by decide +kernel) (by decide)
  have h31 : Snd 3 RX11 cX11_goesWhere 10 (some .int) (inM "goesWhere") 31 (s_ald 0 32) := snd_aload_n (j := 0) (by decide +kernel) rfl
  have h32 : Snd 3 RX11 cX11_goesWhere 10 (some .int) (inM "goesWhere") 32 (s_ild 8 34) := snd_iload (by decide +kernel)
  have h34 : Snd 3 RX11 cX11_goesWhere 10 (some .int) (inM "goesWhere") 34 (s_ild 1 35) := snd_iload_n (j := 1) (by decide +kernel) rfl
  have h35 : Snd 3 RX11 cX11_goesWhere 10 (some .int) (inM "goesWhere") 35 (s_invv 10 2 pX11_placeIn 38) := snd_invv cI_10 oX11_placeIn (by decide) (by decide) g_1026 g_1023 g_1025 g_55 g_81 ⟨by decide, by decide, by decide +kernel⟩ (by decide +kernel)
  have h38 : Snd 3 RX11 cX11_goesWhere 10 (some .int) (inM "goesWhere") 38 (s_ist 9 40) := snd_istore (by decide +kernel)
  have h40 : Snd 3 RX11 cX11_goesWhere 10 (some .int) (inM "goesWhere") 40 (s_ild 3 41) := snd_iload_n (j := 3) (by decide +kernel) rfl
  have h41 : Snd 3 RX11 cX11_goesWhere 10 (some .int) (inM "goesWhere") 41 (s_push (.int 1) 42) := snd_iconst (n := 1) (by decide +kernel) (by decide)
  have h42 : Snd 3 RX11 cX11_goesWhere 10 (some .int) (inM "goesWhere") 42 (s_ild 9 44) := snd_iload (by decide +kernel)
  have h44 : Snd 3 RX11 cX11_goesWhere 10 (some .int) (inM "goesWhere") 44 (s_ishl 45) := snd_ishl (by decide +kernel)
  have h45 : Snd 3 RX11 cX11_goesWhere 10 (some .int) (inM "goesWhere") 45 (s_ior 46) := snd_ior (by decide +kernel)
  have h46 : Snd 3 RX11 cX11_goesWhere 10 (some .int) (inM "goesWhere") 46 (s_ist 3 47) := snd_istore_n (j := 3) (by decide +kernel) rfl
  have h47 : Snd 3 RX11 cX11_goesWhere 10 (some .int) (inM "goesWhere") 47 (s_ild 4 49) := snd_iload (by decide +kernel)
  have h49 : Snd 3 RX11 cX11_goesWhere 10 (some .int) (inM "goesWhere") 49 (s_ild 9 51) := snd_iload (by decide +kernel)
  have h51 : Snd 3 RX11 cX11_goesWhere 10 (some .int) (inM "goesWhere") 51 (s_push (.int 1) 52) := snd_iconst (n := 1) (by decide +kernel) (by decide)
  have h52 : Snd 3 RX11 cX11_goesWhere 10 (some .int) (inM "goesWhere") 52 (s_icne 59 55) := snd_icne (off := 7) (by decide +kernel) (by decide)
  have h55 : Snd 3 RX11 cX11_goesWhere 10 (some .int) (inM "goesWhere") 55 (s_push (.int 1) 56) := snd_iconst (n := 1) (by decide +kernel) (by decide)
  have h56 : Snd 3 RX11 cX11_goesWhere 10 (some .int) (inM "goesWhere") 56 (s_goto 60) := snd_goto (off := 4) (by decide +kernel) (by decide)
  have h59 : Snd 3 RX11 cX11_goesWhere 10 (some .int) (inM "goesWhere") 59 (s_push (.int 0) 60) := snd_iconst (n := 0) (by decide +kernel) (by decide)
  have h60 : Snd 3 RX11 cX11_goesWhere 10 (some .int) (inM "goesWhere") 60 (s_iadd 61) := snd_iadd (by decide +kernel)
  have h61 : Snd 3 RX11 cX11_goesWhere 10 (some .int) (inM "goesWhere") 61 (s_ist 4 63) := snd_istore (by decide +kernel)
  have h63 : Snd 3 RX11 cX11_goesWhere 10 (some .int) (inM "goesWhere") 63 (s_ild 9 65) := snd_iload (by decide +kernel)
  have h65 : Snd 3 RX11 cX11_goesWhere 10 (some .int) (inM "goesWhere") 65 (s_ild 7 67) := snd_iload (by decide +kernel)
  have h67 : Snd 3 RX11 cX11_goesWhere 10 (some .int) (inM "goesWhere") 67 (s_icne 77 70) := snd_icne (off := 10) (by decide +kernel) (by decide)
  have h70 : Snd 3 RX11 cX11_goesWhere 10 (some .int) (inM "goesWhere") 70 (s_ild 5 72) := snd_iload (by decide +kernel)
  have h72 : Snd 3 RX11 cX11_goesWhere 10 (some .int) (inM "goesWhere") 72 (s_push (.int 1) 73) := snd_iconst (n := 1) (by decide +kernel) (by decide)
  have h73 : Snd 3 RX11 cX11_goesWhere 10 (some .int) (inM "goesWhere") 73 (s_iadd 74) := snd_iadd (by decide +kernel)
  have h74 : Snd 3 RX11 cX11_goesWhere 10 (some .int) (inM "goesWhere") 74 (s_goto 78) := snd_goto (off := 4) (by decide +kernel) (by decide)
  have h77 : Snd 3 RX11 cX11_goesWhere 10 (some .int) (inM "goesWhere") 77 (s_push (.int 1) 78) := snd_iconst (n := 1) (by decide +kernel) (by decide)
  have h78 : Snd 3 RX11 cX11_goesWhere 10 (some .int) (inM "goesWhere") 78 (s_ist 5 80) := snd_istore (by decide +kernel)
  have h80 : Snd 3 RX11 cX11_goesWhere 10 (some .int) (inM "goesWhere") 80 (s_ild 5 82) := snd_iload (by decide +kernel)
  have h82 : Snd 3 RX11 cX11_goesWhere 10 (some .int) (inM "goesWhere") 82 (s_ild 6 84) := snd_iload (by decide +kernel)
  have h84 : Snd 3 RX11 cX11_goesWhere 10 (some .int) (inM "goesWhere") 84 (s_icle 92 87) := snd_icle (off := 8) (by decide +kernel) (by decide)
  have h87 : Snd 3 RX11 cX11_goesWhere 10 (some .int) (inM "goesWhere") 87 (s_ild 5 89) := snd_iload (by decide +kernel)
  have h89 : Snd 3 RX11 cX11_goesWhere 10 (some .int) (inM "goesWhere") 89 (s_goto 94) := snd_goto (off := 5) (by decide +kernel) (by decide)
  have h92 : Snd 3 RX11 cX11_goesWhere 10 (some .int) (inM "goesWhere") 92 (s_ild 6 94) := snd_iload (by decide +kernel)
  have h94 : Snd 3 RX11 cX11_goesWhere 10 (some .int) (inM "goesWhere") 94 (s_ist 6 96) := snd_istore (by decide +kernel)
  have h96 : Snd 3 RX11 cX11_goesWhere 10 (some .int) (inM "goesWhere") 96 (s_ild 9 98) := snd_iload (by decide +kernel)
  have h98 : Snd 3 RX11 cX11_goesWhere 10 (some .int) (inM "goesWhere") 98 (s_ist 7 100) := snd_istore (by decide +kernel)
  have h100 : Snd 3 RX11 cX11_goesWhere 10 (some .int) (inM "goesWhere") 100 (s_inc 8 1 103) := snd_iinc (y := 1) (by decide +kernel) (by decide)
  have h103 : Snd 3 RX11 cX11_goesWhere 10 (some .int) (inM "goesWhere") 103 (s_goto 22) := snd_goto (off := -81) (by decide +kernel) (by decide)
  have h106 : Snd 3 RX11 cX11_goesWhere 10 (some .int) (inM "goesWhere") 106 (s_ild 2 107) := snd_iload_n (j := 2) (by decide +kernel) rfl
  have h107 : Snd 3 RX11 cX11_goesWhere 10 (some .int) (inM "goesWhere") 107 (s_push (.int 1) 108) := snd_iconst (n := 1) (by decide +kernel) (by decide)
  have h108 : Snd 3 RX11 cX11_goesWhere 10 (some .int) (inM "goesWhere") 108 (s_icne 118 111) := snd_icne (off := 10) (by decide +kernel) (by decide)
  have h111 : Snd 3 RX11 cX11_goesWhere 10 (some .int) (inM "goesWhere") 111 (s_ild 3 112) := snd_iload_n (j := 3) (by decide +kernel) rfl
  have h112 : Snd 3 RX11 cX11_goesWhere 10 (some .int) (inM "goesWhere") 112 (s_inv 1 pX11_size 115) := snd_invs oX11_size (by decide) (by decide) g_942 g_940 g_941 g_81 ⟨by decide, by decide, by decide +kernel⟩ (by decide +kernel)
  have h115 : Snd 3 RX11 cX11_goesWhere 10 (some .int) (inM "goesWhere") 115 (s_goto 130) := snd_goto (off := 15) (by decide +kernel) (by decide)
  have h118 : Snd 3 RX11 cX11_goesWhere 10 (some .int) (inM "goesWhere") 118 (s_ild 2 119) := snd_iload_n (j := 2) (by decide +kernel) rfl
  have h119 : Snd 3 RX11 cX11_goesWhere 10 (some .int) (inM "goesWhere") 119 (s_push (.int 2) 120) := snd_iconst (n := 2) (by decide +kernel) (by decide)
  have h120 : Snd 3 RX11 cX11_goesWhere 10 (some .int) (inM "goesWhere") 120 (s_icne 128 123) := snd_icne (off := 8) (by decide +kernel) (by decide)
  have h123 : Snd 3 RX11 cX11_goesWhere 10 (some .int) (inM "goesWhere") 123 (s_ild 4 125) := snd_iload (by decide +kernel)
  have h125 : Snd 3 RX11 cX11_goesWhere 10 (some .int) (inM "goesWhere") 125 (s_goto 130) := snd_goto (off := 5) (by decide +kernel) (by decide)
  have h128 : Snd 3 RX11 cX11_goesWhere 10 (some .int) (inM "goesWhere") 128 (s_ild 6 130) := snd_iload (by decide +kernel)
  have h130 : Snd 3 RX11 cX11_goesWhere 10 (some .int) (inM "goesWhere") 130 (s_iret) := snd_iret (by decide +kernel)
  exact fun pc => snd_ite (snd_ite (snd_ite (snd_ite (snd_ite (snd_ite (snd_leaf (k := 0) h0) (snd_leaf (k := 1) h1)) (snd_ite (snd_leaf (k := 2) h2) (snd_leaf (k := 3) h3))) (snd_ite (snd_ite (snd_leaf (k := 5) h5) (snd_leaf (k := 6) h6)) (snd_ite (snd_leaf (k := 8) h8) (snd_ite (snd_leaf (k := 9) h9) (snd_leaf (k := 11) h11))))) (snd_ite (snd_ite (snd_ite (snd_leaf (k := 12) h12) (snd_leaf (k := 13) h13)) (snd_ite (snd_leaf (k := 14) h14) (snd_leaf (k := 17) h17))) (snd_ite (snd_ite (snd_leaf (k := 19) h19) (snd_leaf (k := 20) h20)) (snd_ite (snd_leaf (k := 22) h22) (snd_ite (snd_leaf (k := 24) h24) (snd_leaf (k := 25) h25)))))) (snd_ite (snd_ite (snd_ite (snd_ite (snd_leaf (k := 28) h28) (snd_leaf (k := 31) h31)) (snd_ite (snd_leaf (k := 32) h32) (snd_leaf (k := 34) h34))) (snd_ite (snd_ite (snd_leaf (k := 35) h35) (snd_leaf (k := 38) h38)) (snd_ite (snd_leaf (k := 40) h40) (snd_ite (snd_leaf (k := 41) h41) (snd_leaf (k := 42) h42))))) (snd_ite (snd_ite (snd_ite (snd_leaf (k := 44) h44) (snd_leaf (k := 45) h45)) (snd_ite (snd_leaf (k := 46) h46) (snd_leaf (k := 47) h47))) (snd_ite (snd_ite (snd_leaf (k := 49) h49) (snd_leaf (k := 51) h51)) (snd_ite (snd_leaf (k := 52) h52) (snd_ite (snd_leaf (k := 55) h55) (snd_leaf (k := 56) h56))))))) (snd_ite (snd_ite (snd_ite (snd_ite (snd_ite (snd_leaf (k := 59) h59) (snd_leaf (k := 60) h60)) (snd_ite (snd_leaf (k := 61) h61) (snd_leaf (k := 63) h63))) (snd_ite (snd_ite (snd_leaf (k := 65) h65) (snd_leaf (k := 67) h67)) (snd_ite (snd_leaf (k := 70) h70) (snd_ite (snd_leaf (k := 72) h72) (snd_leaf (k := 73) h73))))) (snd_ite (snd_ite (snd_ite (snd_leaf (k := 74) h74) (snd_leaf (k := 77) h77)) (snd_ite (snd_leaf (k := 78) h78) (snd_leaf (k := 80) h80))) (snd_ite (snd_ite (snd_leaf (k := 82) h82) (snd_leaf (k := 84) h84)) (snd_ite (snd_leaf (k := 87) h87) (snd_ite (snd_leaf (k := 89) h89) (snd_leaf (k := 92) h92)))))) (snd_ite (snd_ite (snd_ite (snd_ite (snd_leaf (k := 94) h94) (snd_leaf (k := 96) h96)) (snd_ite (snd_leaf (k := 98) h98) (snd_leaf (k := 100) h100))) (snd_ite (snd_ite (snd_leaf (k := 103) h103) (snd_leaf (k := 106) h106)) (snd_ite (snd_leaf (k := 107) h107) (snd_ite (snd_leaf (k := 108) h108) (snd_leaf (k := 111) h111))))) (snd_ite (snd_ite (snd_ite (snd_leaf (k := 112) h112) (snd_leaf (k := 115) h115)) (snd_ite (snd_leaf (k := 118) h118) (snd_leaf (k := 119) h119))) (snd_ite (snd_ite (snd_leaf (k := 120) h120) (snd_leaf (k := 123) h123)) (snd_ite (snd_leaf (k := 125) h125) (snd_ite (snd_leaf (k := 128) h128) (snd_leaf (k := 130) h130)))))))
end
section
/-! where a bell goes: pl i is its place, from 0 on, in row i -/
def orN (pl : Nat → Nat) : Nat → Nat
  | 0 => 0
  | i + 1 => orN pl i ||| 2 ^ (pl (i + 1) + 1)
def ct1 (pl : Nat → Nat) : Nat → Nat
  | 0 => 0
  | i + 1 => ct1 pl i + (if pl (i + 1) = 0 then 1 else 0)
def sty (pl : Nat → Nat) : Nat → Nat
  | 0 => 1
  | i + 1 => if pl (i + 1) = pl i then sty pl i + 1 else 1
def lng (pl : Nat → Nat) : Nat → Nat
  | 0 => 1
  | i + 1 => if lng pl i < sty pl (i + 1) then sty pl (i + 1) else lng pl i
theorem orN_lt {pl : Nat → Nat} {T : Nat} (h : ∀ i, i ≤ T → pl i < 8) : ∀ i, i ≤ T → orN pl i < 2 ^ 9 ∧ orN pl i % 2 = 0
  | 0, _ => ⟨by show 0 < 2 ^ 9; decide, rfl⟩
  | i + 1, hi => by
    obtain ⟨h1, h2⟩ := orN_lt h i (by omega)
    have h3 := h (i + 1) hi
    have h4 : 2 ^ (pl (i + 1) + 1) < 2 ^ 9 := Nat.pow_lt_pow_right (by decide) (by omega)
    refine ⟨Nat.or_lt_two_pow h1 h4, ?_⟩
    show (orN pl i ||| 2 ^ (pl (i + 1) + 1)) % 2 = 0
    have := Nat.or_mod_two_pow (a := orN pl i) (b := 2 ^ (pl (i + 1) + 1)) (n := 1)
    rw [show (2 : Nat) ^ 1 = 2 from rfl] at this
    rw [this, h2, Nat.pow_succ, Nat.mul_mod_left]
    rfl
theorem sty_le (pl : Nat → Nat) : ∀ i, sty pl i ≤ i + 1
  | 0 => Nat.le_refl 1
  | i + 1 => by
    have h1 := sty_le pl i
    show (if pl (i + 1) = pl i then sty pl i + 1 else 1) ≤ i + 1 + 1
    split <;> omega
theorem lng_le (pl : Nat → Nat) : ∀ i, lng pl i ≤ i + 1
  | 0 => Nat.le_refl 1
  | i + 1 => by
    have h1 := lng_le pl i
    have h2 := sty_le pl (i + 1)
    have e : lng pl (i + 1) = if lng pl i < sty pl (i + 1) then sty pl (i + 1) else lng pl i := rfl
    rw [e]
    generalize sty pl (i + 1) = s at h2 ⊢
    split <;> omega
def gws (pl : Nat → Nat) (T w : Nat) : Nat := if w = 1 then pct (orN pl T) 8 else if w = 2 then ct1 pl T else lng pl T
def pX11_goesWhere : Spc := fun As g Q => ∃ L iF aI aL n T R b w pl, g = Mg L iF aI aL ∧ As = [.ref 32, .int (nI b), .int (nI w)] ∧ 4 ≤ n ∧ n ≤ 8 ∧ aI 33 0 = nI n ∧ (∀ j, Pm n (R j)) ∧ RK n T R (aI 40) ∧ T ≤ 1600 ∧ iF 32 15 = nI (T + 1) ∧ 1 ≤ w ∧ w ≤ 3 ∧ (∀ i, i ≤ T → pl i < n ∧ dg (R i) (pl i) + 1 = b) ∧ ∀ f u, Q (some (.int (nI (gws pl T w)))) (Mg L iF (up1 (up1 aI 38 f) 39 u) aL)
theorem oX11_goesWhere : Ok 3 yX11_goesWhere cX11_goesWhere 10 (some .int) pX11_goesWhere := by
  refine ok_all fun As g Q h => ?_
  obtain ⟨L, iF, aI, aL, n, T, R, b, w, pl, rfl, rfl, hn4, hn, hN, hP, hR, hT, hM, hw1, hw3, hpl, hQ⟩ := h
  have hor := orN_lt (pl := pl) (T := T) (fun i hi => by have := (hpl i hi).1; omega)
  refine at_of (fun pc => pc == 22) 100 (fun k pc ls st g' => ∃ i f u z, pc = 22 ∧ ls = [.ref 32, .int (nI b), .int (nI w), .int (nI (orN pl i)), .int (nI (ct1 pl i)), .int (nI (sty pl i)), .int (nI (lng pl i)), .int (nI (pl i + 1)), .int (nI (i + 1)), z] ∧ st = [] ∧ g' = Mg L iF (up1 (up1 aI 38 f) 39 u) aL ∧ k = 2000 - i ∧ i ≤ T) (by decide) rfl sX11_goesWhere (nl (n := 3) rfl rfl rfl) ?_ ?_
  · obtain ⟨h1, h2⟩ := hpl 0 (by omega)
    refine ⟨L, iF, aI, aL, n, T, R, 0, b, pl 0, rfl, rfl, hn4, hn, hN, hP, hR, hT, by omega, h1, h2, fun f u => ?_⟩
    exact ⟨2000, 0, f, u, U_, rfl, rfl, rfl, rfl, rfl, by omega⟩
  · rintro k pc ls st g' ⟨i, f, u, z, rfl, rfl, rfl, rfl, rfl, hi⟩
    refine br_c (fun h => ?_) (fun h => ?_)
    · have h : iF 32 15 ≤ nI (i + 1) := h
      rw [hM] at h
      have h : T + 1 ≤ i + 1 := (nI_leI (by omega) (by omega)).mp h
      have e : i = T := by omega
      subst e
      refine And.intro (fun h1 => ?_) (fun h1 => ?_)
      · have h1 : w ≠ 1 := fun e => h1 (by rw [e]; rfl)
        refine And.intro (fun h2 => ?_) (fun h2 => ?_)
        · have h2 : w ≠ 2 := fun e => h2 (by rw [e]; rfl)
          have := hQ f u
          unfold gws at this
          rw [if_neg h1, if_neg h2] at this
          exact this
        · have h2 : w = 2 := (nI_eq (b := 2) (by omega) (by omega)).mp h2
          have := hQ f u
          unfold gws at this
          rw [if_neg h1, if_pos h2] at this
          exact this
      · have h1 : w = 1 := (nI_eq (b := 1) (by omega) (by omega)).mp h1
        have := hQ f u
        unfold gws at this
        rw [if_pos h1] at this
        exact ⟨orN pl i, (hor i (by omega)).1, rfl, this⟩
    · have h : ¬ iF 32 15 ≤ nI (i + 1) := h
      rw [hM] at h
      have h : ¬ T + 1 ≤ i + 1 := fun q => h ((nI_leI (by omega) (by omega)).mpr q)
      obtain ⟨h1, h2⟩ := hpl (i + 1) (by omega)
      obtain ⟨h3, -⟩ := hpl i (by omega)
      have hs := sty_le pl i
      have hl := lng_le pl i
      refine ⟨L, iF, _, aL, n, T, R, i + 1, b, pl (i + 1), rfl, rfl, hn4, hn, hN, hP, hR, hT, by omega, h1, h2, fun f2 u2 => ?_⟩
      have key : ∀ (c s m : Int32), c = nI (ct1 pl (i + 1)) → s = nI (sty pl (i + 1)) → m = nI (lng pl (i + 1)) → ∃ n', n' < 2000 - i ∧ ∃ j f' u' z, 22 = 22 ∧ [Value.ref 32, .int (nI b), .int (nI w), .int (nI (orN pl i) ||| 1 <<< (nI (pl (i + 1) + 1) &&& 31)), .int c, .int s, .int m, .int (nI (pl (i + 1) + 1)), .int (nI (i + 1) + 1), .int (nI (pl (i + 1) + 1))] = [.ref 32, .int (nI b), .int (nI w), .int (nI (orN pl j)), .int (nI (ct1 pl j)), .int (nI (sty pl j)), .int (nI (lng pl j)), .int (nI (pl j + 1)), .int (nI (j + 1)), z] ∧ ([] : List Value) = [] ∧ Mg L iF (up1 (up1 (up1 (up1 aI 38 f) 39 u) 38 f2) 39 u2) aL = Mg L iF (up1 (up1 aI 38 f') 39 u') aL ∧ n' = 2000 - j ∧ j ≤ T := by
        intro c s m ec es em
        refine ⟨2000 - (i + 1), by omega, i + 1, f2, u2, .int (nI (pl (i + 1) + 1)), rfl, ?_, rfl, ?_, rfl, by omega⟩
        · rw [ec, es, em, show (1 : Int32) = nI 1 from rfl, nx_shl (by omega) (by
            have : 2 ^ (pl (i + 1) + 1) < 2 ^ 9 := Nat.pow_lt_pow_right (by decide) (by omega)
            omega), nx_or, nI_add, Nat.one_mul]
          rfl
        · rw [up_3839]
      have hst : sty pl (i + 1) = if pl (i + 1) = pl i then sty pl i + 1 else 1 := rfl
      have hln : lng pl (i + 1) = if lng pl i < sty pl (i + 1) then sty pl (i + 1) else lng pl i := rfl
      have hs1 := sty_le pl (i + 1)
      have fin : ∀ (c s : Int32), c = nI (ct1 pl (i + 1)) → s = nI (sty pl (i + 1)) → (s ≤ nI (lng pl i) → ∃ n', n' < 2000 - i ∧ ∃ j f' u' z, 22 = 22 ∧ [Value.ref 32, .int (nI b), .int (nI w), .int (nI (orN pl i) ||| 1 <<< (nI (pl (i + 1) + 1) &&& 31)), .int c, .int s, .int (nI (lng pl i)), .int (nI (pl (i + 1) + 1)), .int (nI (i + 1) + 1), .int (nI (pl (i + 1) + 1))] = [.ref 32, .int (nI b), .int (nI w), .int (nI (orN pl j)), .int (nI (ct1 pl j)), .int (nI (sty pl j)), .int (nI (lng pl j)), .int (nI (pl j + 1)), .int (nI (j + 1)), z] ∧ ([] : List Value) = [] ∧ Mg L iF (up1 (up1 (up1 (up1 aI 38 f) 39 u) 38 f2) 39 u2) aL = Mg L iF (up1 (up1 aI 38 f') 39 u') aL ∧ n' = 2000 - j ∧ j ≤ T) ∧ (¬ s ≤ nI (lng pl i) → ∃ n', n' < 2000 - i ∧ ∃ j f' u' z, 22 = 22 ∧ [Value.ref 32, .int (nI b), .int (nI w), .int (nI (orN pl i) ||| 1 <<< (nI (pl (i + 1) + 1) &&& 31)), .int c, .int s, .int s, .int (nI (pl (i + 1) + 1)), .int (nI (i + 1) + 1), .int (nI (pl (i + 1) + 1))] = [.ref 32, .int (nI b), .int (nI w), .int (nI (orN pl j)), .int (nI (ct1 pl j)), .int (nI (sty pl j)), .int (nI (lng pl j)), .int (nI (pl j + 1)), .int (nI (j + 1)), z] ∧ ([] : List Value) = [] ∧ Mg L iF (up1 (up1 (up1 (up1 aI 38 f) 39 u) 38 f2) 39 u2) aL = Mg L iF (up1 (up1 aI 38 f') 39 u') aL ∧ n' = 2000 - j ∧ j ≤ T) := by
        intro c s ec es
        refine ⟨fun q => key c s _ ec es ?_, fun q => key c s _ ec es ?_⟩
        · rw [es] at q
          have q := (nI_leI (by omega) (by omega)).mp q
          rw [hln, if_neg (by omega)]
        · rw [es] at q ⊢
          have q : ¬ sty pl (i + 1) ≤ lng pl i := fun z => q ((nI_leI (by omega) (by omega)).mpr z)
          rw [hln, if_pos (by omega)]
      refine And.intro (fun q => ?_) (fun q => ?_)
      · have q : pl (i + 1) ≠ 0 := fun e => q (by rw [e]; rfl)
        have ec : nI (ct1 pl i) + 0 = nI (ct1 pl (i + 1)) := by
          show nI (ct1 pl i) + nI 0 = nI (ct1 pl i + (if pl (i + 1) = 0 then 1 else 0))
          rw [nI_add, if_neg q]
        refine And.intro (fun q2 => ?_) (fun q2 => ?_)
        · have q2 : pl (i + 1) ≠ pl i := fun e => q2 (by rw [e])
          exact fin _ _ ec (by rw [hst, if_neg q2]; rfl)
        · have q2 : pl (i + 1) + 1 = pl i + 1 := (nI_eq (by omega) (by omega)).mp q2
          exact fin _ _ ec (by rw [hst, if_pos (by omega), nI_1])
      · have q : pl (i + 1) + 1 = 1 := (nI_eq (b := 1) (by omega) (by omega)).mp q
        have ec : nI (ct1 pl i) + 1 = nI (ct1 pl (i + 1)) := by
          show nI (ct1 pl i) + nI 1 = nI (ct1 pl i + (if pl (i + 1) = 0 then 1 else 0))
          rw [nI_add, if_pos (by omega)]
        refine And.intro (fun q2 => ?_) (fun q2 => ?_)
        · have q2 : pl (i + 1) ≠ pl i := fun e => q2 (by rw [e])
          exact fin _ _ ec (by rw [hst, if_neg q2]; rfl)
        · have q2 : pl (i + 1) + 1 = pl i + 1 := (nI_eq (by omega) (by omega)).mp q2
          exact fin _ _ ec (by rw [hst, if_pos (by omega), nI_1])
end
section
/-! leads can be undone; a letter comes back to rounds; the reference's search -/
theorem pigeon {N : Nat} {f : Nat → Nat} (h : ∀ q, q < N + 1 → f q < N) : ∃ p q, p < q ∧ q < N + 1 ∧ f p = f q := by
  by_cases hi : ∀ p q, p < N + 1 → q < N + 1 → f p = f q → p = q
  · have h1 := sm_perm (N + 1) f (fun q hq => by have := h q hq; omega) hi (fun v => if v = N then 1 else 0)
    rw [sm_one N (by omega), sm_zero (fun q hq => if_neg (by have := h q hq; omega))] at h1
    cases h1
  · have : ∃ p q, p < N + 1 ∧ q < N + 1 ∧ f p = f q ∧ p ≠ q := by
      apply Classical.byContradiction
      intro hn
      exact hi fun p q hp hq e => Classical.byContradiction fun hpq => hn ⟨p, q, hp, hq, e, hpq⟩
    obtain ⟨p, q, hp, hq, e, hne⟩ := this
    rcases Nat.lt_or_gt_of_ne hne with hlt | hlt
    · exact ⟨p, q, hlt, hq, e⟩
    · exact ⟨q, p, hlt, hp, e.symm⟩
theorem chg_inj {n m x y : Nat} (hx : x < 8 ^ n) (hy : y < 8 ^ n) (h : chg n m x = chg n m y) : x = y := by
  rw [← chg_chg (m := m) hx, h, chg_chg hy]
theorem rgTo_lt {S : Stg} {l x : Nat} (hx : x < 8 ^ sN S) : ∀ k, rgTo S l x k < 8 ^ sN S
  | 0 => hx
  | _ + 1 => chg_lt _ _ _
theorem rgTo_inj {S : Stg} {l x y : Nat} (hx : x < 8 ^ sN S) (hy : y < 8 ^ sN S) : ∀ k, rgTo S l x k = rgTo S l y k → x = y
  | 0, h => h
  | k + 1, h => rgTo_inj hx hy k (chg_inj (rgTo_lt hx k) (rgTo_lt hy k) h)
theorem led_inj {S : Stg} {l x y : Nat} (hx : x < 8 ^ sN S) (hy : y < 8 ^ sN S) (h : led S l x = led S l y) : x = y := rgTo_inj hx hy _ h
theorem led_Pm {S : Stg} {l x : Nat} (hx : Pm (sN S) x) : Pm (sN S) (led S l x) := rgTo_Pm hx _
/-- leads of one letter, from rounds on -/
def lpw (S : Stg) (l : Nat) : Nat → Nat
  | 0 => rds (sN S)
  | k + 1 => led S l (lpw S l k)
theorem lpw_Pm {S : Stg} (h : VS S) (l : Nat) : ∀ k, Pm (sN S) (lpw S l k)
  | 0 => Pm_rds h.1.2
  | k + 1 => led_Pm (lpw_Pm h l k)
theorem lpw_back {S : Stg} (h : VS S) (l : Nat) : ∀ p d, lpw S l p = lpw S l (p + d) → lpw S l d = rds (sN S)
  | 0, d, e => by rw [Nat.zero_add] at e; exact e.symm
  | p + 1, d, e => by
    refine lpw_back h l p d (led_inj (l := l) (lpw_Pm h l p).1 (lpw_Pm h l (p + d)).1 ?_)
    have e : led S l (lpw S l p) = lpw S l (p + 1 + d) := e
    rw [show p + 1 + d = (p + d) + 1 by omega] at e
    exact e
theorem lpw_ex {S : Stg} (h : VS S) (l : Nat) : ∃ k, 1 ≤ k ∧ k ≤ fct (sN S) ∧ lpw S l k = rds (sN S) ∧ ∀ j, 1 ≤ j → j < k → lpw S l j ≠ rds (sN S) := by
  obtain ⟨p, q, h1, h2, h3⟩ := pigeon (N := fct (sN S)) (f := fun k => rk (sN S) (lpw S l k)) (fun q _ => rk_lt h.1.2)
  have h4 := rk_inj (lpw_Pm h l p) (lpw_Pm h l q) h3
  rw [show q = p + (q - p) by omega] at h4
  have h5 := lpw_back h l p (q - p) h4
  have key : ∀ m, (∃ k, 1 ≤ k ∧ k ≤ m ∧ lpw S l k = rds (sN S)) → ∃ k, 1 ≤ k ∧ k ≤ m ∧ lpw S l k = rds (sN S) ∧ ∀ j, 1 ≤ j → j < k → lpw S l j ≠ rds (sN S) := by
    intro m
    induction m with
    | zero => rintro ⟨k, a, b, -⟩; omega
    | succ m ih =>
      rintro ⟨k, a, b, c⟩
      by_cases hm : ∃ k, 1 ≤ k ∧ k ≤ m ∧ lpw S l k = rds (sN S)
      · obtain ⟨k, a, b, c, d⟩ := ih hm
        exact ⟨k, a, by omega, c, d⟩
      · refine ⟨k, a, b, c, fun j j1 j2 e => hm ⟨j, j1, by omega, e⟩⟩
  exact key _ ⟨q - p, by omega, by omega, h5⟩
theorem nodup_len {N : Nat} {f : Nat → Nat} {V : List Nat} (hn : V.Nodup) (hf : ∀ x ∈ V, f x < N) (hi : ∀ x ∈ V, ∀ y ∈ V, f x = f y → x = y) : V.length ≤ N := by
  rcases Nat.lt_or_ge N V.length with h | h
  · exfalso
    obtain ⟨p, q, h1, h2, h3⟩ := pigeon (N := N) (f := fun i => f (V.getD i 0)) (fun i hi => hf _ (getD_mem (by omega)))
    have h4 := hi _ (getD_mem (show p < V.length by omega)) _ (getD_mem (show q < V.length by omega)) h3
    rw [List.getD_eq_getElem?_getD, List.getD_eq_getElem?_getD, List.getElem?_eq_getElem (show p < V.length by omega), List.getElem?_eq_getElem (show q < V.length by omega)] at h4
    have h5 : V[p]'(by omega) = V[q]'(by omega) := h4
    have := (List.getElem_inj hn).mp h5
    omega
  · exact h
/-- rows that were met, in order: V; the arrays met and wave, the counter sr -/
def MW (n sr : Nat) (V : List Nat) (met wave : Nat → Int32) : Prop := (∀ x ∈ V, Pm n x) ∧ V.Nodup ∧ (∀ r, r < 40320 → ∃ c, c ≤ sr ∧ met r = nI c ∧ (c = sr ↔ ∃ x, x ∈ V ∧ rk n x = r)) ∧ ∀ i, i < V.length → wave i = nI (rk n (V.getD i 0))
theorem MW.len {n sr : Nat} {V : List Nat} {met wave : Nat → Int32} (h : MW n sr V met wave) (hn : n ≤ 8) : V.length ≤ fct n := nodup_len h.2.1 (fun x _ => rk_lt hn) (fun x hx y hy e => rk_inj (h.1 x hx) (h.1 y hy) e)
theorem getD_app {V : List Nat} {x i : Nat} (h : i < V.length) : (V ++ [x]).getD i 0 = V.getD i 0 := by
  rw [List.getD_eq_getElem?_getD, List.getD_eq_getElem?_getD, List.getElem?_append_left h]
theorem getD_last {V : List Nat} {x : Nat} : (V ++ [x]).getD V.length 0 = x := by
  rw [List.getD_eq_getElem?_getD, List.getElem?_append_right (Nat.le_refl _), Nat.sub_self]
  rfl
theorem MW.add {n sr x : Nat} {V : List Nat} {met wave : Nat → Int32} (h : MW n sr V met wave) (hn : n ≤ 8) (hx : Pm n x) (hv : x ∉ V) : MW n sr (V ++ [x]) (up1 met (rk n x) (nI sr)) (up1 wave V.length (nI (rk n x))) ∧ V.length < 40320 := by
  have hm : MW n sr (V ++ [x]) (up1 met (rk n x) (nI sr)) (up1 wave V.length (nI (rk n x))) := by
    refine ⟨fun y hy => ?_, ?_, fun r hr => ?_, fun i hi => ?_⟩
    · rcases List.mem_append.mp hy with hy | hy
      · exact h.1 y hy
      · rw [List.mem_singleton.mp hy]; exact hx
    · rw [List.nodup_append]
      refine ⟨h.2.1, by simp, fun a ha b hb => ?_⟩
      rw [List.mem_singleton.mp hb]
      intro e
      rw [e] at ha
      exact hv ha
    · by_cases e : r = rk n x
      · subst e
        rw [up1_s]
        exact ⟨sr, Nat.le_refl _, rfl, fun _ => ⟨x, by simp, rfl⟩, fun _ => rfl⟩
      · rw [up1_n _ _ e]
        obtain ⟨c, c1, c2, c3⟩ := h.2.2.1 r hr
        refine ⟨c, c1, c2, c3.trans ⟨?_, ?_⟩⟩
        · rintro ⟨y, y1, y2⟩; exact ⟨y, by simp [y1], y2⟩
        · rintro ⟨y, y1, y2⟩
          rcases List.mem_append.mp y1 with hy | hy
          · exact ⟨y, hy, y2⟩
          · rw [List.mem_singleton.mp hy] at y2; exact absurd y2.symm e
    · rw [List.length_append] at hi
      by_cases e : i = V.length
      · subst e; rw [up1_s, getD_last]
      · have hi : i < V.length := by simp at hi; omega
        rw [up1_n _ _ e, getD_app hi]
        exact h.2.2.2 i hi
  refine ⟨hm, ?_⟩
  have h1 := hm.len hn
  have h2 := fct_le n hn
  rw [List.length_append] at h1
  simp at h1
  omega
/-- the store behind a meeting -/
def gM (g : Sto) (r : Nat) (sr k : Nat) : Sto := (g.1, up1 g.2.1 32 (up1 (g.2.1 32) 19 (nI (k + 1))), up1 (up1 g.2.2.1 41 (up1 (g.2.2.1 41) r (nI sr))) 42 (up1 (g.2.2.1 42) k (nI r)), g.2.2.2)
def qX11_meet : Spc := fun As g Q => ∃ L iF aI aL n sr V x, g = Mg L iF aI aL ∧ As = [.ref 32, .int (nI (rk n x))] ∧ n ≤ 8 ∧ sr < 2 ^ 30 ∧ Pm n x ∧ iF 32 17 = nI sr ∧ iF 32 19 = nI V.length ∧ MW n sr V (aI 41) (aI 42) ∧ (x ∈ V → Q (some (.int 0)) g) ∧ (x ∉ V → Q (some (.int 1)) (gM g (rk n x) sr V.length))
theorem rX11_meet : Ok 0 yX11_meet cX11_meet 2 (some .boolean) qX11_meet := by
  refine ok_weak (fun As g Q h => ?_) oX11_meet
  obtain ⟨L, iF, aI, aL, n, sr, V, x, rfl, rfl, hn, hsr, hx, h17, h19, hM, hQ1, hQ2⟩ := h
  have hr := rk_lt (x := x) hn
  have hf := fct_le n hn
  obtain ⟨c, c1, c2, c3⟩ := hM.2.2.1 (rk n x) (by omega)
  have e1 : aI 41 (nI (rk n x)).toNatClampNeg = nI c := by rw [cl1 (by omega)]; exact c2
  have ir : vp_in (nI (rk n x)) 40320 := vp_in_nI (by omega) (by omega)
  refine And.intro ir (And.intro (fun h => ?_) (fun h => ?_))
  · have h : ¬ aI 41 (nI (rk n x)).toNatClampNeg = iF 32 17 := h
    rw [e1, h17] at h
    have hv : x ∉ V := fun hv => h (by rw [c3.mpr ⟨x, hv, rfl⟩])
    obtain ⟨-, hl⟩ := hM.add hn hx hv
    refine And.intro ir (And.intro ?_ (And.intro (Or.inr rfl) ?_))
    · show vp_in (iF 32 19) 40320
      rw [h19]; exact vp_in_nI (by omega) (by omega)
    · have e := hQ2 hv
      show Q _ (SH (true, L), up1 iF 32 (up1 (iF 32) 19 (iF 32 19 + 1)), up1 (up1 aI 41 (up1 (aI 41) (nI (rk n x)).toNatClampNeg (iF 32 17))) 42 (up1 (up1 aI 41 (up1 (aI 41) (nI (rk n x)).toNatClampNeg (iF 32 17)) 42) (iF 32 19).toNatClampNeg (nI (rk n x))), aL)
      rw [h17, h19, cl1 (by omega), cl1 (by omega), nI_1]
      exact e
  · have h : aI 41 (nI (rk n x)).toNatClampNeg = iF 32 17 := h
    rw [e1, h17] at h
    have hc : c = sr := (nI_eq (by omega) (by omega)).mp h
    obtain ⟨y, y1, y2⟩ := c3.mp hc
    have e := rk_inj (hM.1 y y1) hx y2
    subst e
    exact And.intro (Or.inl rfl) (hQ1 y1)
end
section
def kX11_orderOf : Nat → Stq := fun pc => if pc < 17 then (if pc < 7 then (if pc < 4 then (if pc < 1 then (if pc = 0 then s_ald 0 1 else s_bad) else (if pc = 1 then s_invv 10 0 pX11_layRounds 4 else s_bad)) else (if pc < 5 then (if pc = 4 then s_push (.int 0) 5 else s_bad) else (if pc < 6 then (if pc = 5 then s_ist 2 6 else s_bad) else (if pc = 6 then s_push (.int 1) 7 else s_bad)))) else (if pc < 12 then (if pc < 8 then (if pc = 7 then s_ist 3 8 else s_bad) else (if pc < 9 then (if pc = 8 then s_ild 3 9 else s_bad) else (if pc = 9 then s_ifeq 36 12 else s_bad))) else (if pc < 13 then (if pc = 12 then s_ald 0 13 else s_bad) else (if pc < 14 then (if pc = 13 then s_ild 1 14 else s_bad) else (if pc = 14 then s_invv 10 1 pX11_ringLead 17 else s_bad))))) else (if pc < 28 then (if pc < 21 then (if pc < 20 then (if pc = 17 then s_inc 2 1 20 else s_bad) else (if pc = 20 then s_ald 0 21 else s_bad)) else (if pc < 24 then (if pc = 21 then s_invv 10 0 pX11_rank 24 else s_bad) else (if pc < 27 then (if pc = 24 then s_ifeq 31 27 else s_bad) else (if pc = 27 then s_push (.int 1) 28 else s_bad)))) else (if pc < 33 then (if pc < 31 then (if pc = 28 then s_goto 32 else s_bad) else (if pc < 32 then (if pc = 31 then s_push (.int 0) 32 else s_bad) else (if pc = 32 then s_ist 3 33 else s_bad))) else (if pc < 36 then (if pc = 33 then s_goto 8 else s_bad) else (if pc < 37 then (if pc = 36 then s_ild 2 37 else s_bad) else (if pc = 37 then s_iret else s_bad)))))
set_option maxRecDepth 20000 in
theorem sX11_orderOf : ∀ pc, Snd 3 RX11 cX11_orderOf 4 (some .int) (inM "orderOf") pc (kX11_orderOf pc) := by
  have h0 : Snd 3 RX11 cX11_orderOf 4 (some .int) (inM "orderOf") 0 (s_ald 0 1) := snd_aload_n (j := 0) (by decide +kernel) rfl
  have h1 : Snd 3 RX11 cX11_orderOf 4 (some .int) (inM "orderOf") 1 (s_invv 10 0 pX11_layRounds 4) := snd_invv cI_10 oX11_layRounds (by decide) (by decide) g_966 g_963 g_965 g_42 g_81 ⟨by decide, by decide, by decide +kernel⟩ (by decide +kernel)
  have h4 : Snd 3 RX11 cX11_orderOf 4 (some .int) (inM "orderOf") 4 (s_push (.int 0) 5) := snd_iconst (n := 0) (by decide +kernel) (by decide)
  have h5 : Snd 3 RX11 cX11_orderOf 4 (some .int) (inM "orderOf") 5 (s_ist 2 6) := snd_istore_n (j := 2) (by decide +kernel) rfl
  have h6 : Snd 3 RX11 cX11_orderOf 4 (some .int) (inM "orderOf") 6 (s_push (.int 1) 7) := snd_iconst (n := 1) (by decide +kernel) (by decide)
  have h7 : Snd 3 RX11 cX11_orderOf 4 (some .int) (inM "orderOf") 7 (s_ist 3 8) := snd_istore_n (j := 3) (by decide +kernel) rfl
  have h8 : Snd 3 RX11 cX11_orderOf 4 (some .int) (inM "orderOf") 8 (s_ild 3 9) := snd_iload_n (j := 3) (by decide +kernel) rfl
  have h9 : Snd 3 RX11 cX11_orderOf 4 (some .int) (inM "orderOf") 9 (s_ifeq 36 12) := snd_ifeq (off := 27) (by decide +kernel) (by decide)
  have h12 : Snd 3 RX11 cX11_orderOf 4 (some .int) (inM "orderOf") 12 (s_ald 0 13) := snd_aload_n (j := 0) (by decide +kernel) rfl
  have h13 : Snd 3 RX11 cX11_orderOf 4 (some .int) (inM "orderOf") 13 (s_ild 1 14) := snd_iload_n (j := 1) (by decide +kernel) rfl
  have h14 : Snd 3 RX11 cX11_orderOf 4 (some .int) (inM "orderOf") 14 (s_invv 10 1 pX11_ringLead 17) := snd_invv cI_10 oX11_ringLead (by decide) (by decide) g_1038 g_1035 g_1037 g_57 g_81 ⟨by decide, by decide, by decide +kernel⟩ (by decide +kernel)
  have h17 : Snd 3 RX11 cX11_orderOf 4 (some .int) (inM "orderOf") 17 (s_inc 2 1 20) := snd_iinc (y := 1) (by decide +kernel) (by decide)
  have h20 : Snd 3 RX11 cX11_orderOf 4 (some .int) (inM "orderOf") 20 (s_ald 0 21) := snd_aload_n (j := 0) (by decide +kernel) rfl
  have h21 : Snd 3 RX11 cX11_orderOf 4 (some .int) (inM "orderOf") 21 (s_invv 10 0 pX11_rank 24) := snd_invv cI_10 oX11_rank (by decide) (by decide) g_978 g_975 g_977 g_45 g_81 ⟨by decide, by decide, by decide +kernel⟩ (by decide +kernel)
  have h24 : Snd 3 RX11 cX11_orderOf 4 (some .int) (inM "orderOf") 24 (s_ifeq 31 27) := snd_ifeq (off := 7) (by decide +kernel) (by decide)
  have h27 : Snd 3 RX11 cX11_orderOf 4 (some .int) (inM "orderOf") 27 (s_push (.int 1) 28) := snd_iconst (n := 1) (by decide +kernel) (by decide)
  have h28 : Snd 3 RX11 cX11_orderOf 4 (some .int) (inM "orderOf") 28 (s_goto 32) := snd_goto (off := 4) (by decide +kernel) (by decide)
  have h31 : Snd 3 RX11 cX11_orderOf 4 (some .int) (inM "orderOf") 31 (s_push (.int 0) 32) := snd_iconst (n := 0) (by decide +kernel) (by decide)
  have h32 : Snd 3 RX11 cX11_orderOf 4 (some .int) (inM "orderOf") 32 (s_ist 3 33) := snd_istore_n (j := 3) (by decide +kernel) rfl
  have h33 : Snd 3 RX11 cX11_orderOf 4 (some .int) (inM "orderOf") 33 (s_goto 8) := snd_goto (off := -25) (by decide +kernel) (by decide)
  have h36 : Snd 3 RX11 cX11_orderOf 4 (some .int) (inM "orderOf") 36 (s_ild 2 37) := snd_iload_n (j := 2) (by decide +kernel) rfl
  have h37 : Snd 3 RX11 cX11_orderOf 4 (some .int) (inM "orderOf") 37 (s_iret) := snd_iret (by decide +kernel)
  exact fun pc => snd_ite (snd_ite (snd_ite (snd_ite (snd_leaf (k := 0) h0) (snd_leaf (k := 1) h1)) (snd_ite (snd_leaf (k := 4) h4) (snd_ite (snd_leaf (k := 5) h5) (snd_leaf (k := 6) h6)))) (snd_ite (snd_ite (snd_leaf (k := 7) h7) (snd_ite (snd_leaf (k := 8) h8) (snd_leaf (k := 9) h9))) (snd_ite (snd_leaf (k := 12) h12) (snd_ite (snd_leaf (k := 13) h13) (snd_leaf (k := 14) h14))))) (snd_ite (snd_ite (snd_ite (snd_leaf (k := 17) h17) (snd_leaf (k := 20) h20)) (snd_ite (snd_leaf (k := 21) h21) (snd_ite (snd_leaf (k := 24) h24) (snd_leaf (k := 27) h27)))) (snd_ite (snd_ite (snd_leaf (k := 28) h28) (snd_ite (snd_leaf (k := 31) h31) (snd_leaf (k := 32) h32))) (snd_ite (snd_leaf (k := 33) h33) (snd_ite (snd_leaf (k := 36) h36) (snd_leaf (k := 37) h37)))))

def kX11_layPlain : Nat → Stq := fun pc => if pc < 30 then (if pc < 13 then (if pc < 6 then (if pc < 4 then (if pc < 1 then (if pc = 0 then s_ald 0 1 else s_bad) else (if pc = 1 then s_invv 10 0 pX11_layRounds 4 else s_bad)) else (if pc < 5 then (if pc = 4 then s_ald 0 5 else s_bad) else (if pc = 5 then s_push (.int 0) 6 else s_bad))) else (if pc < 10 then (if pc < 9 then (if pc = 6 then s_puti 10 15 9 else s_bad) else (if pc = 9 then s_push (.int 0) 10 else s_bad)) else (if pc < 11 then (if pc = 10 then s_ist 1 11 else s_bad) else (if pc < 12 then (if pc = 11 then s_ild 1 12 else s_bad) else (if pc = 12 then s_ald 0 13 else s_bad))))) else (if pc < 21 then (if pc < 17 then (if pc < 16 then (if pc = 13 then s_getf 10 0 16 else s_bad) else (if pc = 16 then s_push (.int 1) 17 else s_bad)) else (if pc < 18 then (if pc = 17 then s_iald 18 else s_bad) else (if pc = 18 then s_icge 62 21 else s_bad))) else (if pc < 25 then (if pc < 22 then (if pc = 21 then s_ald 0 22 else s_bad) else (if pc = 22 then s_getf 10 14 25 else s_bad)) else (if pc < 26 then (if pc = 25 then s_ald 0 26 else s_bad) else (if pc < 29 then (if pc = 26 then s_getf 10 15 29 else s_bad) else (if pc = 29 then s_ald 0 30 else s_bad)))))) else (if pc < 45 then (if pc < 36 then (if pc < 34 then (if pc < 33 then (if pc = 30 then s_invv 10 0 pX11_rank 33 else s_bad) else (if pc = 33 then s_iast 34 else s_bad)) else (if pc < 35 then (if pc = 34 then s_ald 0 35 else s_bad) else (if pc = 35 then s_dup 36 else s_bad))) else (if pc < 40 then (if pc < 39 then (if pc = 36 then s_getf 10 15 39 else s_bad) else (if pc = 39 then s_push (.int 1) 40 else s_bad)) else (if pc < 41 then (if pc = 40 then s_iadd 41 else s_bad) else (if pc < 44 then (if pc = 41 then s_puti 10 15 44 else s_bad) else (if pc = 44 then s_ald 0 45 else s_bad))))) else (if pc < 52 then (if pc < 49 then (if pc < 46 then (if pc = 45 then s_ald 0 46 else s_bad) else (if pc = 46 then s_getf 10 0 49 else s_bad)) else (if pc < 50 then (if pc = 49 then s_push (.int 2) 50 else s_bad) else (if pc < 51 then (if pc = 50 then s_ild 1 51 else s_bad) else (if pc = 51 then s_iadd 52 else s_bad)))) else (if pc < 56 then (if pc < 53 then (if pc = 52 then s_iald 53 else s_bad) else (if pc = 53 then s_invv 10 1 pX11_ring 56 else s_bad)) else (if pc < 59 then (if pc = 56 then s_inc 1 1 59 else s_bad) else (if pc < 62 then (if pc = 59 then s_goto 11 else s_bad) else (if pc = 62 then s_vret else s_bad))))))
set_option maxRecDepth 20000 in
theorem sX11_layPlain : ∀ pc, Snd 2 RX11 cX11_layPlain 2 none (inM "layPlain") pc (kX11_layPlain pc) := by
  have h0 : Snd 2 RX11 cX11_layPlain 2 none (inM "layPlain") 0 (s_ald 0 1) := snd_aload_n (j := 0) (by decide +kernel) rfl
  have h1 : Snd 2 RX11 cX11_layPlain 2 none (inM "layPlain") 1 (s_invv 10 0 pX11_layRounds 4) := snd_invv cI_10 oX11_layRounds (by decide) (by decide) g_966 g_963 g_965 g_42 g_81 ⟨by decide, by decide, by decide +kernel⟩ (by decide +kernel)
  have h4 : Snd 2 RX11 cX11_layPlain 2 none (inM "layPlain") 4 (s_ald 0 5) := snd_aload_n (j := 0) (by decide +kernel) rfl
  have h5 : Snd 2 RX11 cX11_layPlain 2 none (inM "layPlain") 5 (s_push (.int 0) 6) := snd_iconst (n := 0) (by decide +kernel) (by decide)
  have h6 : Snd 2 RX11 cX11_layPlain 2 none (inM "layPlain") 6 (s_puti 10 15 9) := snd_puti (T := TX11) (f := 15) cI_10 (by decide) g_784 (by decide) (by decide +kernel) (by decide +kernel)
  have h9 : Snd 2 RX11 cX11_layPlain 2 none (inM "layPlain") 9 (s_push (.int 0) 10) := snd_iconst (n := 0) (by decide +kernel) (by decide)
  have h10 : Snd 2 RX11 cX11_layPlain 2 none (inM "layPlain") 10 (s_ist 1 11) := snd_istore_n (j := 1) (by decide +kernel) rfl
  have h11 : Snd 2 RX11 cX11_layPlain 2 none (inM "layPlain") 11 (s_ild 1 12) := snd_iload_n (j := 1) (by decide +kernel) rfl
  have h12 : Snd 2 RX11 cX11_layPlain 2 none (inM "layPlain") 12 (s_ald 0 13) := snd_aload_n (j := 0) (by decide +kernel) rfl
  have h13 : Snd 2 RX11 cX11_layPlain 2 none (inM "layPlain") 13 (s_getf 10 0 16) := snd_getf (T := TX11) (f := 0) cI_10 (by decide) g_769 (by decide +kernel)
  have h16 : Snd 2 RX11 cX11_layPlain 2 none (inM "layPlain") 16 (s_push (.int 1) 17) := snd_iconst (n := 1) (by decide +kernel) (by decide)
  have h17 : Snd 2 RX11 cX11_layPlain 2 none (inM "layPlain") 17 (s_iald 18) := snd_iald (by decide +kernel)
  have h18 : Snd 2 RX11 cX11_layPlain 2 none (inM "layPlain") 18 (s_icge 62 21) := snd_icge (off := 44) (by decide +kernel) (by decide)
  have h21 : Snd 2 RX11 cX11_layPlain 2 none (inM "layPlain") 21 (s_ald 0 22) := snd_aload_n (j := 0) (by decide +kernel) rfl
  have h22 : Snd 2 RX11 cX11_layPlain 2 none (inM "layPlain") 22 (s_getf 10 14 25) := snd_getf (T := TX11) (f := 14) cI_10 (by decide) g_783 (by decide +kernel)
  have h25 : Snd 2 RX11 cX11_layPlain 2 none (inM "layPlain") 25 (s_ald 0 26) := snd_aload_n (j := 0) (by decide +kernel) rfl
  have h26 : Snd 2 RX11 cX11_layPlain 2 none (inM "layPlain") 26 (s_getf 10 15 29) := snd_getf (T := TX11) (f := 15) cI_10 (by decide) g_784 (by decide +kernel)
  have h29 : Snd 2 RX11 cX11_layPlain 2 none (inM "layPlain") 29 (s_ald 0 30) := snd_aload_n (j := 0) (by decide +kernel) rfl
  have h30 : Snd 2 RX11 cX11_layPlain 2 none (inM "layPlain") 30 (s_invv 10 0 pX11_rank 33) := snd_invv cI_10 oX11_rank (by decide) (by decide) g_978 g_975 g_977 g_45 g_81 ⟨by decide, by decide, by decide +kernel⟩ (by decide +kernel)
  have h33 : Snd 2 RX11 cX11_layPlain 2 none (inM "layPlain") 33 (s_iast 34) := snd_iast (by decide +kernel)
  have h34 : Snd 2 RX11 cX11_layPlain 2 none (inM "layPlain") 34 (s_ald 0 35) := snd_aload_n (j := 0) (by decide +kernel) rfl
  have h35 : Snd 2 RX11 cX11_layPlain 2 none (inM "layPlain") 35 (s_dup 36) := snd_dup (by decide +kernel)
  have h36 : Snd 2 RX11 cX11_layPlain 2 none (inM "layPlain") 36 (s_getf 10 15 39) := snd_getf (T := TX11) (f := 15) cI_10 (by decide) g_784 (by decide +kernel)
  have h39 : Snd 2 RX11 cX11_layPlain 2 none (inM "layPlain") 39 (s_push (.int 1) 40) := snd_iconst (n := 1) (by decide +kernel) (by decide)
  have h40 : Snd 2 RX11 cX11_layPlain 2 none (inM "layPlain") 40 (s_iadd 41) := snd_iadd (by decide +kernel)
  have h41 : Snd 2 RX11 cX11_layPlain 2 none (inM "layPlain") 41 (s_puti 10 15 44) := snd_puti (T := TX11) (f := 15) cI_10 (by decide) g_784 (by decide) (by decide +kernel) (by decide +kernel)
  have h44 : Snd 2 RX11 cX11_layPlain 2 none (inM "layPlain") 44 (s_ald 0 45) := snd_aload_n (j := 0) (by decide +kernel) rfl
  have h45 : Snd 2 RX11 cX11_layPlain 2 none (inM "layPlain") 45 (s_ald 0 46) := snd_aload_n (j := 0) (by decide +kernel) rfl
  have h46 : Snd 2 RX11 cX11_layPlain 2 none (inM "layPlain") 46 (s_getf 10 0 49) := snd_getf (T := TX11) (f := 0) cI_10 (by decide) g_769 (by decide +kernel)
  have h49 : Snd 2 RX11 cX11_layPlain 2 none (inM "layPlain") 49 (s_push (.int 2) 50) := snd_iconst (n := 2) (by decide +kernel) (by decide)
  have h50 : Snd 2 RX11 cX11_layPlain 2 none (inM "layPlain") 50 (s_ild 1 51) := snd_iload_n (j := 1) (by decide +kernel) rfl
  have h51 : Snd 2 RX11 cX11_layPlain 2 none (inM "layPlain") 51 (s_iadd 52) := snd_iadd (by decide +kernel)
  have h52 : Snd 2 RX11 cX11_layPlain 2 none (inM "layPlain") 52 (s_iald 53) := snd_iald (by decide +kernel)
  have h53 : Snd 2 RX11 cX11_layPlain 2 none (inM "layPlain") 53 (s_invv 10 1 pX11_ring 56) := snd_invv cI_10 oX11_ring (by decide) (by decide) g_974 g_971 g_973 g_44 g_81 ⟨by decide, by decide, by decide +kernel⟩ (by decide +kernel)
  have h56 : Snd 2 RX11 cX11_layPlain 2 none (inM "layPlain") 56 (s_inc 1 1 59) := snd_iinc (y := 1) (by decide +kernel) (by decide)
  have h59 : Snd 2 RX11 cX11_layPlain 2 none (inM "layPlain") 59 (s_goto 11) := snd_goto (off := -48) (by decide +kernel) (by decide)
  have h62 : Snd 2 RX11 cX11_layPlain 2 none (inM "layPlain") 62 (s_vret) := snd_vret (by decide +kernel)
  exact fun pc => snd_ite (snd_ite (snd_ite (snd_ite (snd_ite (snd_leaf (k := 0) h0) (snd_leaf (k := 1) h1)) (snd_ite (snd_leaf (k := 4) h4) (snd_leaf (k := 5) h5))) (snd_ite (snd_ite (snd_leaf (k := 6) h6) (snd_leaf (k := 9) h9)) (snd_ite (snd_leaf (k := 10) h10) (snd_ite (snd_leaf (k := 11) h11) (snd_leaf (k := 12) h12))))) (snd_ite (snd_ite (snd_ite (snd_leaf (k := 13) h13) (snd_leaf (k := 16) h16)) (snd_ite (snd_leaf (k := 17) h17) (snd_leaf (k := 18) h18))) (snd_ite (snd_ite (snd_leaf (k := 21) h21) (snd_leaf (k := 22) h22)) (snd_ite (snd_leaf (k := 25) h25) (snd_ite (snd_leaf (k := 26) h26) (snd_leaf (k := 29) h29)))))) (snd_ite (snd_ite (snd_ite (snd_ite (snd_leaf (k := 30) h30) (snd_leaf (k := 33) h33)) (snd_ite (snd_leaf (k := 34) h34) (snd_leaf (k := 35) h35))) (snd_ite (snd_ite (snd_leaf (k := 36) h36) (snd_leaf (k := 39) h39)) (snd_ite (snd_leaf (k := 40) h40) (snd_ite (snd_leaf (k := 41) h41) (snd_leaf (k := 44) h44))))) (snd_ite (snd_ite (snd_ite (snd_leaf (k := 45) h45) (snd_leaf (k := 46) h46)) (snd_ite (snd_leaf (k := 49) h49) (snd_ite (snd_leaf (k := 50) h50) (snd_leaf (k := 51) h51)))) (snd_ite (snd_ite (snd_leaf (k := 52) h52) (snd_leaf (k := 53) h53)) (snd_ite (snd_leaf (k := 56) h56) (snd_ite (snd_leaf (k := 59) h59) (snd_leaf (k := 62) h62))))))

def kX11_layHead : Nat → Stq := fun pc => if pc < 54 then (if pc < 26 then (if pc < 12 then (if pc < 6 then (if pc < 2 then (if pc < 1 then (if pc = 0 then s_ald 0 1 else s_bad) else (if pc = 1 then s_ald 0 2 else s_bad)) else (if pc < 5 then (if pc = 2 then s_getf 10 14 5 else s_bad) else (if pc = 5 then s_ild 1 6 else s_bad))) else (if pc < 10 then (if pc < 7 then (if pc = 6 then s_iald 7 else s_bad) else (if pc = 7 then s_invv 10 1 pX11_layRank 10 else s_bad)) else (if pc < 11 then (if pc = 10 then s_push (.int 1) 11 else s_bad) else (if pc = 11 then s_ist 3 12 else s_bad)))) else (if pc < 20 then (if pc < 14 then (if pc < 13 then (if pc = 12 then s_ild 3 13 else s_bad) else (if pc = 13 then s_ald 0 14 else s_bad)) else (if pc < 17 then (if pc = 14 then s_invv 10 0 pX11_many 17 else s_bad) else (if pc = 17 then s_icgt 38 20 else s_bad))) else (if pc < 24 then (if pc < 21 then (if pc = 20 then s_ald 0 21 else s_bad) else (if pc = 21 then s_getf 10 20 24 else s_bad)) else (if pc < 25 then (if pc = 24 then s_ild 3 25 else s_bad) else (if pc = 25 then s_ald 0 26 else s_bad))))) else (if pc < 40 then (if pc < 32 then (if pc < 30 then (if pc < 29 then (if pc = 26 then s_getf 10 12 29 else s_bad) else (if pc = 29 then s_ild 3 30 else s_bad)) else (if pc < 31 then (if pc = 30 then s_iald 31 else s_bad) else (if pc = 31 then s_iast 32 else s_bad))) else (if pc < 38 then (if pc < 35 then (if pc = 32 then s_inc 3 1 35 else s_bad) else (if pc = 35 then s_goto 12 else s_bad)) else (if pc < 39 then (if pc = 38 then s_ald 0 39 else s_bad) else (if pc = 39 then s_ald 0 40 else s_bad)))) else (if pc < 48 then (if pc < 44 then (if pc < 43 then (if pc = 40 then s_getf 10 14 43 else s_bad) else (if pc = 43 then s_ild 2 44 else s_bad)) else (if pc < 45 then (if pc = 44 then s_iald 45 else s_bad) else (if pc = 45 then s_invv 10 1 pX11_layRank 48 else s_bad))) else (if pc < 52 then (if pc < 49 then (if pc = 48 then s_ald 0 49 else s_bad) else (if pc = 49 then s_getf 10 21 52 else s_bad)) else (if pc < 53 then (if pc = 52 then s_ast 3 53 else s_bad) else (if pc = 53 then s_push (.int 1) 54 else s_bad)))))) else (if pc < 84 then (if pc < 70 then (if pc < 62 then (if pc < 58 then (if pc < 56 then (if pc = 54 then s_ist 4 56 else s_bad) else (if pc = 56 then s_ild 4 58 else s_bad)) else (if pc < 59 then (if pc = 58 then s_ald 0 59 else s_bad) else (if pc = 59 then s_invv 10 0 pX11_many 62 else s_bad))) else (if pc < 66 then (if pc < 65 then (if pc = 62 then s_icgt 87 65 else s_bad) else (if pc = 65 then s_ald 3 66 else s_bad)) else (if pc < 67 then (if pc = 66 then s_ald 0 67 else s_bad) else (if pc = 67 then s_getf 10 20 70 else s_bad)))) else (if pc < 77 then (if pc < 73 then (if pc < 72 then (if pc = 70 then s_ild 4 72 else s_bad) else (if pc = 72 then s_iald 73 else s_bad)) else (if pc < 74 then (if pc = 73 then s_ald 0 74 else s_bad) else (if pc = 74 then s_getf 10 12 77 else s_bad))) else (if pc < 80 then (if pc < 79 then (if pc = 77 then s_ild 4 79 else s_bad) else (if pc = 79 then s_iald 80 else s_bad)) else (if pc < 81 then (if pc = 80 then s_iast 81 else s_bad) else (if pc = 81 then s_inc 4 1 84 else s_bad))))) else (if pc < 100 then (if pc < 92 then (if pc < 88 then (if pc < 87 then (if pc = 84 then s_goto 56 else s_bad) else (if pc = 87 then s_push (.int 1) 88 else s_bad)) else (if pc < 90 then (if pc = 88 then s_ist 4 90 else s_bad) else (if pc = 90 then s_ild 4 92 else s_bad))) else (if pc < 96 then (if pc < 93 then (if pc = 92 then s_ald 0 93 else s_bad) else (if pc = 93 then s_invv 10 0 pX11_many 96 else s_bad)) else (if pc < 99 then (if pc = 96 then s_icgt 116 99 else s_bad) else (if pc = 99 then s_ald 0 100 else s_bad)))) else (if pc < 108 then (if pc < 105 then (if pc < 103 then (if pc = 100 then s_getf 10 12 103 else s_bad) else (if pc = 103 then s_ild 4 105 else s_bad)) else (if pc < 106 then (if pc = 105 then s_ald 3 106 else s_bad) else (if pc = 106 then s_ild 4 108 else s_bad))) else (if pc < 110 then (if pc < 109 then (if pc = 108 then s_iald 109 else s_bad) else (if pc = 109 then s_iast 110 else s_bad)) else (if pc < 113 then (if pc = 110 then s_inc 4 1 113 else s_bad) else (if pc < 116 then (if pc = 113 then s_goto 90 else s_bad) else (if pc = 116 then s_vret else s_bad)))))))
set_option maxRecDepth 20000 in
theorem sX11_layHead : ∀ pc, Snd 2 RX11 cX11_layHead 5 none (inM "layHead") pc (kX11_layHead pc) := by
  have h0 : Snd 2 RX11 cX11_layHead 5 none (inM "layHead") 0 (s_ald 0 1) := snd_aload_n (j := 0) (by decide +kernel) rfl
  have h1 : Snd 2 RX11 cX11_layHead 5 none (inM "layHead") 1 (s_ald 0 2) := snd_aload_n (j := 0) (by decide +kernel) rfl
  have h2 : Snd 2 RX11 cX11_layHead 5 none (inM "layHead") 2 (s_getf 10 14 5) := snd_getf (T := TX11) (f := 14) cI_10 (by decide) g_783 (by decide +kernel)
  have h5 : Snd 2 RX11 cX11_layHead 5 none (inM "layHead") 5 (s_ild 1 6) := snd_iload_n (j := 1) (by decide +kernel) rfl
  have h6 : Snd 2 RX11 cX11_layHead 5 none (inM "layHead") 6 (s_iald 7) := snd_iald (by decide +kernel)
  have h7 : Snd 2 RX11 cX11_layHead 5 none (inM "layHead") 7 (s_invv 10 1 pX11_layRank 10) := snd_invv cI_10 oX11_layRank (by decide) (by decide) g_982 g_979 g_981 g_46 g_81 ⟨by decide, by decide, by decide +kernel⟩ (by decide +kernel)
  have h10 : Snd 2 RX11 cX11_layHead 5 none (inM "layHead") 10 (s_push (.int 1) 11) := snd_iconst (n := 1) (by decide +kernel) (by decide)
  have h11 : Snd 2 RX11 cX11_layHead 5 none (inM "layHead") 11 (s_ist 3 12) := snd_istore_n (j := 3) (by decide +kernel) rfl
  have h12 : Snd 2 RX11 cX11_layHead 5 none (inM "layHead") 12 (s_ild 3 13) := snd_iload_n (j := 3) (by decide +kernel) rfl
  have h13 : Snd 2 RX11 cX11_layHead 5 none (inM "layHead") 13 (s_ald 0 14) := snd_aload_n (j := 0) (by decide +kernel) rfl
  have h14 : Snd 2 RX11 cX11_layHead 5 none (inM "layHead") 14 (s_invv 10 0 pX11_many 17) := snd_invv cI_10 oX11_many (by decide) (by decide) g_856 g_853 g_855 g_24 g_81 ⟨by decide, by decide, by decide +kernel⟩ (by decide +kernel)
  have h17 : Snd 2 RX11 cX11_layHead 5 none (inM "layHead") 17 (s_icgt 38 20) := snd_icgt (off := 21) (by decide +kernel) (by decide)
  have h20 : Snd 2 RX11 cX11_layHead 5 none (inM "layHead") 20 (s_ald 0 21) := snd_aload_n (j := 0) (by decide +kernel) rfl
  have h21 : Snd 2 RX11 cX11_layHead 5 none (inM "layHead") 21 (s_getf 10 20 24) := snd_getf (T := TX11) (f := 20) cI_10 (by decide) g_789 (by decide +kernel)
  have h24 : Snd 2 RX11 cX11_layHead 5 none (inM "layHead") 24 (s_ild 3 25) := snd_iload_n (j := 3) (by decide +kernel) rfl
  have h25 : Snd 2 RX11 cX11_layHead 5 none (inM "layHead") 25 (s_ald 0 26) := snd_aload_n (j := 0) (by decide +kernel) rfl
  have h26 : Snd 2 RX11 cX11_layHead 5 none (inM "layHead") 26 (s_getf 10 12 29) := snd_getf (T := TX11) (f := 12) cI_10 (by decide) g_781 (by decide +kernel)
  have h29 : Snd 2 RX11 cX11_layHead 5 none (inM "layHead") 29 (s_ild 3 30) := snd_iload_n (j := 3) (by decide +kernel) rfl
  have h30 : Snd 2 RX11 cX11_layHead 5 none (inM "layHead") 30 (s_iald 31) := snd_iald (by decide +kernel)
  have h31 : Snd 2 RX11 cX11_layHead 5 none (inM "layHead") 31 (s_iast 32) := snd_iast (by decide +kernel)
  have h32 : Snd 2 RX11 cX11_layHead 5 none (inM "layHead") 32 (s_inc 3 1 35) := snd_iinc (y := 1) (by decide +kernel) (by decide)
  have h35 : Snd 2 RX11 cX11_layHead 5 none (inM "layHead") 35 (s_goto 12) := snd_goto (off := -23) (by decide +kernel) (by decide)
  have h38 : Snd 2 RX11 cX11_layHead 5 none (inM "layHead") 38 (s_ald 0 39) := snd_aload_n (j := 0) (by decide +kernel) rfl
  have h39 : Snd 2 RX11 cX11_layHead 5 none (inM "layHead") 39 (s_ald 0 40) := snd_aload_n (j := 0) (by decide +kernel) rfl
  have h40 : Snd 2 RX11 cX11_layHead 5 none (inM "layHead") 40 (s_getf 10 14 43) := snd_getf (T := TX11) (f := 14) cI_10 (by decide) g_783 (by decide +kernel)
  have h43 : Snd 2 RX11 cX11_layHead 5 none (inM "layHead") 43 (s_ild 2 44) := snd_iload_n (j := 2) (by decide +kernel) rfl
  have h44 : Snd 2 RX11 cX11_layHead 5 none (inM "layHead") 44 (s_iald 45) := snd_iald (by decide +kernel)
  have h45 : Snd 2 RX11 cX11_layHead 5 none (inM "layHead") 45 (s_invv 10 1 pX11_layRank 48) := snd_invv cI_10 oX11_layRank (by decide) (by decide) g_982 g_979 g_981 g_46 g_81 ⟨by decide, by decide, by decide +kernel⟩ (by decide +kernel)
  have h48 : Snd 2 RX11 cX11_layHead 5 none (inM "layHead") 48 (s_ald 0 49) := snd_aload_n (j := 0) (by decide +kernel) rfl
  have h49 : Snd 2 RX11 cX11_layHead 5 none (inM "layHead") 49 (s_getf 10 21 52) := snd_getf (T := TX11) (f := 21) cI_10 (by decide) g_790 (by decide +kernel)
  have h52 : Snd 2 RX11 cX11_layHead 5 none (inM "layHead") 52 (s_ast 3 53) := snd_astore_n (j := 3) (by decide +kernel) rfl
  have h53 : Snd 2 RX11 cX11_layHead 5 none (inM "layHead") 53 (s_push (.int 1) 54) := snd_iconst (n := 1) (by decide +kernel) (by decide)
  have h54 : Snd 2 RX11 cX11_layHead 5 none (inM "layHead") 54 (s_ist 4 56) := snd_istore (by decide +kernel)
  have h56 : Snd 2 RX11 cX11_layHead 5 none (inM "layHead") 56 (s_ild 4 58) := snd_iload (by decide +kernel)
  have h58 : Snd 2 RX11 cX11_layHead 5 none (inM "layHead") 58 (s_ald 0 59) := snd_aload_n (j := 0) (by decide +kernel) rfl
  have h59 : Snd 2 RX11 cX11_layHead 5 none (inM "layHead") 59 (s_invv 10 0 pX11_many 62) := snd_invv cI_10 oX11_many (by decide) (by decide) g_856 g_853 g_855 g_24 g_81 ⟨by decide, by decide, by decide +kernel⟩ (by decide +kernel)
  have h62 : Snd 2 RX11 cX11_layHead 5 none (inM "layHead") 62 (s_icgt 87 65) := snd_icgt (off := 25) (by decide +kernel) (by decide)
  have h65 : Snd 2 RX11 cX11_layHead 5 none (inM "layHead") 65 (s_ald 3 66) := snd_aload_n (j := 3) (by decide +kernel) rfl
  have h66 : Snd 2 RX11 cX11_layHead 5 none (inM "layHead") 66 (s_ald 0 67) := snd_aload_n (j := 0) (by decide +kernel) rfl
  have h67 : Snd 2 RX11 cX11_layHead 5 none (inM "layHead") 67 (s_getf 10 20 70) := snd_getf (T := TX11) (f := 20) cI_10 (by decide) g_789 (by decide +kernel)
  have h70 : Snd 2 RX11 cX11_layHead 5 none (inM "layHead") 70 (s_ild 4 72) := snd_iload (by decide +kernel)
  have h72 : Snd 2 RX11 cX11_layHead 5 none (inM "layHead") 72 (s_iald 73) := snd_iald (by decide +kernel)
  have h73 : Snd 2 RX11 cX11_layHead 5 none (inM "layHead") 73 (s_ald 0 74) := snd_aload_n (j := 0) (by decide +kernel) rfl
  have h74 : Snd 2 RX11 cX11_layHead 5 none (inM "layHead") 74 (s_getf 10 12 77) := snd_getf (T := TX11) (f := 12) cI_10 (by decide) g_781 (by decide +kernel)
  have h77 : Snd 2 RX11 cX11_layHead 5 none (inM "layHead") 77 (s_ild 4 79) := snd_iload (by decide +kernel)
  have h79 : Snd 2 RX11 cX11_layHead 5 none (inM "layHead") 79 (s_iald 80) := snd_iald (by decide +kernel)
  have h80 : Snd 2 RX11 cX11_layHead 5 none (inM "layHead") 80 (s_iast 81) := snd_iast (by decide +kernel)
  have h81 : Snd 2 RX11 cX11_layHead 5 none (inM "layHead") 81 (s_inc 4 1 84) := snd_iinc (y := 1) (by decide +kernel) (by decide)
  have h84 : Snd 2 RX11 cX11_layHead 5 none (inM "layHead") 84 (s_goto 56) := snd_goto (off := -28) (by decide +kernel) (by decide)
  have h87 : Snd 2 RX11 cX11_layHead 5 none (inM "layHead") 87 (s_push (.int 1) 88) := snd_iconst (n := 1) (by decide +kernel) (by decide)
  have h88 : Snd 2 RX11 cX11_layHead 5 none (inM "layHead") 88 (s_ist 4 90) := snd_istore (by decide +kernel)
  have h90 : Snd 2 RX11 cX11_layHead 5 none (inM "layHead") 90 (s_ild 4 92) := snd_iload (by decide +kernel)
  have h92 : Snd 2 RX11 cX11_layHead 5 none (inM "layHead") 92 (s_ald 0 93) := snd_aload_n (j := 0) (by decide +kernel) rfl
  have h93 : Snd 2 RX11 cX11_layHead 5 none (inM "layHead") 93 (s_invv 10 0 pX11_many 96) := snd_invv cI_10 oX11_many (by decide) (by decide) g_856 g_853 g_855 g_24 g_81 ⟨by decide, by decide, by decide +kernel⟩ (by decide +kernel)
  have h96 : Snd 2 RX11 cX11_layHead 5 none (inM "layHead") 96 (s_icgt 116 99) := snd_icgt (off := 20) (by decide +kernel) (by decide)
  have h99 : Snd 2 RX11 cX11_layHead 5 none (inM "layHead") 99 (s_ald 0 100) := snd_aload_n (j := 0) (by decide +kernel) rfl
  have h100 : Snd 2 RX11 cX11_layHead 5 none (inM "layHead") 100 (s_getf 10 12 103) := snd_getf (T := TX11) (f := 12) cI_10 (by decide) g_781 (by decide +kernel)
  have h103 : Snd 2 RX11 cX11_layHead 5 none (inM "layHead") 103 (s_ild 4 105) := snd_iload (by decide +kernel)
  have h105 : Snd 2 RX11 cX11_layHead 5 none (inM "layHead") 105 (s_ald 3 106) := snd_aload_n (j := 3) (by decide +kernel) rfl
  have h106 : Snd 2 RX11 cX11_layHead 5 none (inM "layHead") 106 (s_ild 4 108) := snd_iload (by decide +kernel)
  have h108 : Snd 2 RX11 cX11_layHead 5 none (inM "layHead") 108 (s_iald 109) := snd_iald (by decide +kernel)
  have h109 : Snd 2 RX11 cX11_layHead 5 none (inM "layHead") 109 (s_iast 110) := snd_iast (by decide +kernel)
  have h110 : Snd 2 RX11 cX11_layHead 5 none (inM "layHead") 110 (s_inc 4 1 113) := snd_iinc (y := 1) (by decide +kernel) (by decide)
  have h113 : Snd 2 RX11 cX11_layHead 5 none (inM "layHead") 113 (s_goto 90) := snd_goto (off := -23) (by decide +kernel) (by decide)
  have h116 : Snd 2 RX11 cX11_layHead 5 none (inM "layHead") 116 (s_vret) := snd_vret (by decide +kernel)
  exact fun pc => snd_ite (snd_ite (snd_ite (snd_ite (snd_ite (snd_ite (snd_leaf (k := 0) h0) (snd_leaf (k := 1) h1)) (snd_ite (snd_leaf (k := 2) h2) (snd_leaf (k := 5) h5))) (snd_ite (snd_ite (snd_leaf (k := 6) h6) (snd_leaf (k := 7) h7)) (snd_ite (snd_leaf (k := 10) h10) (snd_leaf (k := 11) h11)))) (snd_ite (snd_ite (snd_ite (snd_leaf (k := 12) h12) (snd_leaf (k := 13) h13)) (snd_ite (snd_leaf (k := 14) h14) (snd_leaf (k := 17) h17))) (snd_ite (snd_ite (snd_leaf (k := 20) h20) (snd_leaf (k := 21) h21)) (snd_ite (snd_leaf (k := 24) h24) (snd_leaf (k := 25) h25))))) (snd_ite (snd_ite (snd_ite (snd_ite (snd_leaf (k := 26) h26) (snd_leaf (k := 29) h29)) (snd_ite (snd_leaf (k := 30) h30) (snd_leaf (k := 31) h31))) (snd_ite (snd_ite (snd_leaf (k := 32) h32) (snd_leaf (k := 35) h35)) (snd_ite (snd_leaf (k := 38) h38) (snd_leaf (k := 39) h39)))) (snd_ite (snd_ite (snd_ite (snd_leaf (k := 40) h40) (snd_leaf (k := 43) h43)) (snd_ite (snd_leaf (k := 44) h44) (snd_leaf (k := 45) h45))) (snd_ite (snd_ite (snd_leaf (k := 48) h48) (snd_leaf (k := 49) h49)) (snd_ite (snd_leaf (k := 52) h52) (snd_leaf (k := 53) h53)))))) (snd_ite (snd_ite (snd_ite (snd_ite (snd_ite (snd_leaf (k := 54) h54) (snd_leaf (k := 56) h56)) (snd_ite (snd_leaf (k := 58) h58) (snd_leaf (k := 59) h59))) (snd_ite (snd_ite (snd_leaf (k := 62) h62) (snd_leaf (k := 65) h65)) (snd_ite (snd_leaf (k := 66) h66) (snd_leaf (k := 67) h67)))) (snd_ite (snd_ite (snd_ite (snd_leaf (k := 70) h70) (snd_leaf (k := 72) h72)) (snd_ite (snd_leaf (k := 73) h73) (snd_leaf (k := 74) h74))) (snd_ite (snd_ite (snd_leaf (k := 77) h77) (snd_leaf (k := 79) h79)) (snd_ite (snd_leaf (k := 80) h80) (snd_leaf (k := 81) h81))))) (snd_ite (snd_ite (snd_ite (snd_ite (snd_leaf (k := 84) h84) (snd_leaf (k := 87) h87)) (snd_ite (snd_leaf (k := 88) h88) (snd_leaf (k := 90) h90))) (snd_ite (snd_ite (snd_leaf (k := 92) h92) (snd_leaf (k := 93) h93)) (snd_ite (snd_leaf (k := 96) h96) (snd_leaf (k := 99) h99)))) (snd_ite (snd_ite (snd_ite (snd_leaf (k := 100) h100) (snd_leaf (k := 103) h103)) (snd_ite (snd_leaf (k := 105) h105) (snd_leaf (k := 106) h106))) (snd_ite (snd_ite (snd_leaf (k := 108) h108) (snd_leaf (k := 109) h109)) (snd_ite (snd_leaf (k := 110) h110) (snd_ite (snd_leaf (k := 113) h113) (snd_leaf (k := 116) h116)))))))
end
section
def pX11_orderOf : Spc := fun As g Q => ∃ L iF aI aL S l k, g = Mg L iF aI aL ∧ As = [.ref 32, .int (nI l)] ∧ RS (aI 33) S ∧ VS S ∧ l ≤ 2 ∧ 1 ≤ k ∧ k ≤ 40320 ∧ lpw S l k = rds (sN S) ∧ (∀ j, 1 ≤ j → j < k → lpw S l j ≠ rds (sN S)) ∧ ∀ f, Q (some (.int (nI k))) (Mg L iF (up1 aI 38 f) aL)
theorem oX11_orderOf : Ok 3 yX11_orderOf cX11_orderOf 4 (some .int) pX11_orderOf := by
  refine ok_all fun As g Q h => ?_
  obtain ⟨L, iF, aI, aL, S, l, k, rfl, rfl, hR, hS, hl, hk1, hk2, hk3, hk4, hQ⟩ := h
  have hn := hS.1.2
  refine at_of (fun pc => pc == 8) 60 (fun m pc ls st g' => ∃ j b f, pc = 8 ∧ ls = [.ref 32, .int (nI l), .int (nI j), .int (b01 b)] ∧ st = [] ∧ g' = Mg L iF (up1 aI 38 f) aL ∧ m = 50000 - j ∧ j ≤ k ∧ MR (sN S) (lpw S l j) f ∧ (b = true ↔ j < k)) (by decide) rfl sX11_orderOf (nl (n := 2) rfl rfl rfl) ?_ ?_
  · refine ⟨L, iF, aI, aL, rfl, rfl, fun f hf => ?_⟩
    refine ⟨50000, 0, true, f, rfl, rfl, rfl, rfl, rfl, by omega, fun p hp => ?_, ?_⟩
    · rw [hf p (by omega)]
      show _ = nI (dg (rds (sN S)) p + 1)
      rw [dg_rds hn hp]
    · exact ⟨fun _ => by omega, fun _ => rfl⟩
  · rintro m pc ls st g' ⟨j, b, f, rfl, rfl, rfl, rfl, rfl, hj, hf, hb⟩
    refine br_c (fun h => ?_) (fun h => ?_)
    · have hbf : b = false := by
        cases b with
        | false => rfl
        | true => exact absurd h (by decide)
      have e : j = k := by
        rcases Nat.lt_or_ge j k with q | q
        · rw [hb.mpr q] at hbf; cases hbf
        · omega
      subst e
      exact hQ f
    · have hbt : b = true := by
        cases b with
        | true => rfl
        | false => exact absurd rfl h
      have hjk := hb.mp hbt
      refine ⟨L, iF, _, aL, S, l, lpw S l j, rfl, rfl, hR, hS, hl, hf, fun f2 hf2 => ?_⟩
      have hf2 : MR (sN S) (lpw S l (j + 1)) f2 := hf2
      refine ⟨L, iF, _, aL, sN S, lpw S l (j + 1), rfl, rfl, hn, hR.1, hf2, ?_⟩
      have hP := lpw_Pm hS l (j + 1)
      have e2 : nI (rk (sN S) (lpw S l (j + 1))) = 0 ↔ lpw S l (j + 1) = rds (sN S) := by
        have := rkI_eq hn hP (Pm_rds hn)
        rw [rk_rds hn] at this
        exact this
      refine br_c (fun h1 => ?_) (fun h1 => ?_)
      · have h1 := e2.mp h1
        have e : j + 1 = k := by
          rcases Nat.lt_or_ge (j + 1) k with q | q
          · exact absurd h1 (hk4 _ (by omega) q)
          · omega
        refine ⟨50000 - (j + 1), by omega, j + 1, false, f2, rfl, ?_, rfl, ?_, rfl, by omega, hf2, ⟨fun z => (by cases z), fun z => (by omega)⟩⟩
        · show [Value.ref 32, .int (nI l), .int (nI j + 1), .int 0] = _
          rw [nI_1]; rfl
        · show (SH (true, L), iF, up1 (up1 aI 38 f) 38 f2, aL) = _
          rw [up1_up1]
      · have h1 : ¬ lpw S l (j + 1) = rds (sN S) := fun z => h1 (e2.mpr z)
        have e : j + 1 ≠ k := fun e => h1 (by rw [e]; exact hk3)
        refine ⟨50000 - (j + 1), by omega, j + 1, true, f2, rfl, ?_, rfl, ?_, rfl, by omega, hf2, ⟨fun _ => by omega, fun _ => rfl⟩⟩
        · show [Value.ref 32, .int (nI l), .int (nI j + 1), .int 1] = _
          rw [nI_1]; rfl
        · show (SH (true, L), iF, up1 (up1 aI 38 f) 38 f2, aL) = _
          rw [up1_up1]
/-- the i-th plain row -/
def plr (S : Stg) (i : Nat) : Nat := rgTo S 0 (rds (sN S)) i
theorem plr_Pm {S : Stg} (h : VS S) (i : Nat) : Pm (sN S) (plr S i) := rgTo_Pm (Pm_rds h.1.2) i
theorem chOf_0 (S : Stg) (k : Nat) : chOf S 0 k = (sC S).getD k 0 := if_neg (fun z => by omega)
theorem up_3840 {f r f2 r2 : Nat → Int32} (aI : Nat → Nat → Int32) : up1 (up1 (up1 (up1 aI 38 f) 40 r) 40 r2) 38 f2 = up1 (up1 aI 38 f2) 40 r2 := by
  funext a
  unfold up1
  by_cases h39 : a = 40
  · subst h39; simp
  · by_cases h38 : a = 38
    · subst h38; simp
    · simp [h39, h38]
def pX11_layPlain : Spc := fun As g Q => ∃ L iF aI aL S, g = Mg L iF aI aL ∧ As = [.ref 32] ∧ RS (aI 33) S ∧ VS S ∧ ∀ f r, (∀ i, i < (sC S).length → r i = nI (rk (sN S) (plr S i))) → Q none (Mg L (up1 iF 32 (up1 (iF 32) 15 (nI (sC S).length))) (up1 (up1 aI 38 f) 40 r) aL)
theorem oX11_layPlain : Ok 2 yX11_layPlain cX11_layPlain 2 none pX11_layPlain := by
  refine ok_all fun As g Q h => ?_
  obtain ⟨L, iF, aI, aL, S, rfl, rfl, hR, hS, hQ⟩ := h
  have hc := hS.2.1.1
  have hn := hS.1.2
  refine at_of (fun pc => pc == 11) 60 (fun m pc ls st g' => ∃ j f r, pc = 11 ∧ ls = [.ref 32, .int (nI j)] ∧ st = [] ∧ g' = Mg L (up1 iF 32 (up1 (iF 32) 15 (nI j))) (up1 (up1 aI 38 f) 40 r) aL ∧ m = 41 - j ∧ j ≤ (sC S).length ∧ MR (sN S) (plr S j) f ∧ (∀ i, i < j → r i = nI (rk (sN S) (plr S i)))) (by decide) rfl sX11_layPlain (nl (n := 1) rfl rfl rfl) ?_ ?_
  · refine ⟨L, iF, aI, aL, rfl, rfl, fun f hf => ?_⟩
    refine ⟨41, 0, f, aI 40, rfl, rfl, rfl, ?_, rfl, by omega, fun p hp => ?_, fun i hi => absurd hi (by omega)⟩
    · show (SH (true, L), up1 iF 32 (up1 (iF 32) 15 0), up1 aI 38 f, aL) = (SH (true, L), up1 iF 32 (up1 (iF 32) 15 (nI 0)), up1 (up1 aI 38 f) 40 (aI 40), aL)
      have : aI 40 = up1 aI 38 f 40 := (up1_n _ _ (by decide)).symm
      rw [this, up1_id]
      rfl
    · rw [hf p (by omega)]
      show _ = nI (dg (rds (sN S)) p + 1)
      rw [dg_rds hn hp]
  · rintro m pc ls st g' ⟨j, f, r, rfl, rfl, rfl, rfl, rfl, hj, hf, hr⟩
    refine And.intro (vp_in_nI (n := 1) (N := 85) (by omega) (by omega)) ?_
    refine br_c (fun h => ?_) (fun h => ?_)
    · have h : aI 33 1 ≤ nI j := h
      rw [hR.2.1] at h
      have h : (sC S).length ≤ j := (nI_leI (by omega) (by omega)).mp h
      have e : j = (sC S).length := by omega
      subst e
      exact hQ f r hr
    · have h : ¬ aI 33 1 ≤ nI j := h
      rw [hR.2.1] at h
      have h : ¬ (sC S).length ≤ j := fun q => h ((nI_leI (by omega) (by omega)).mpr q)
      have hv := chOf_VM hS (l := 0) (k := j) (by omega)
      refine ⟨L, _, _, aL, sN S, plr S j, rfl, rfl, hn, hR.1, hf, ?_⟩
      refine And.intro (vp_in_nI (by omega) (by omega)) ?_
      have e2 : (2 : Int32) + nI j = nI (2 + j) := nI_add 2 j
      refine And.intro (by rw [e2]; exact vp_in_nI (by omega) (by omega)) ?_
      refine ⟨L, _, _, aL, sN S, chOf S 0 j, plr S j, rfl, ?_, hS.1.1, hn, hv.1, hv.2.2, hR.1, hf, fun f2 hf2 => ?_⟩
      · show [Value.ref 32, .int (aI 33 ((2 : Int32) + nI j).toNatClampNeg)] = _
        rw [e2, cl1 (by omega), hR.2.2.1 j (by omega), chOf_0]
      have hf2 : MR (sN S) (plr S (j + 1)) f2 := hf2
      refine ⟨41 - (j + 1), by omega, j + 1, f2, up1 r j (nI (rk (sN S) (plr S j))), rfl, ?_, rfl, ?_, rfl, by omega, hf2, fun i hi => ?_⟩
      · show [Value.ref 32, .int (nI j + 1)] = _
        rw [nI_1]
      · show (SH (true, L), up1 (up1 iF 32 (up1 (iF 32) 15 (nI j))) 32 (up1 (up1 iF 32 (up1 (iF 32) 15 (nI j)) 32) 15 (nI j + 1)), up1 (up1 (up1 (up1 aI 38 f) 40 r) 40 (up1 (up1 (up1 aI 38 f) 40 r 40) (nI j).toNatClampNeg (nI (rk (sN S) (plr S j))))) 38 f2, aL) = _
        rw [up1_up1, up1_s, up1_up1, nI_1, cl1 (by omega), up1_s, up_3840]
      · by_cases e : i = j
        · subst e; rw [up1_s]
        · rw [up1_n _ _ e]; exact hr i (by omega)
/-- the row with which another lead begins that has row b where a was -/
theorem head_ex {n a b : Nat} (hn : n ≤ 8) (ha : Pm n a) (hb : Pm n b) : ∃ y, Pm n y ∧ ∀ p, p < n → dg y (dg a p) = dg b p := by
  have h1 : ∀ v, ∃ p, v < n → p < n ∧ dg a p = v := fun v => by
    by_cases hv : v < n
    · obtain ⟨p, h⟩ := ha.onto hv; exact ⟨p, fun _ => h⟩
    · exact ⟨0, fun h => absurd h hv⟩
  obtain ⟨iv, hiv⟩ := Classical.axiomOfChoice h1
  have hd : ∀ v, v < n → dg (pq (fun v => dg b (iv v)) n) v = dg b (iv v) := fun v hv => dg_pq (f := fun v => dg b (iv v)) (fun _ _ => dg_lt _ _) hv
  refine ⟨pq (fun v => dg b (iv v)) n, ⟨pq_lt (fun _ _ => dg_lt _ _), fun v hv => by rw [hd v hv]; exact hb.2.1 _ (hiv v hv).1, fun v w hv hw e => ?_⟩, fun p hp => ?_⟩
  · rw [hd v hv, hd w hw] at e
    have := hb.2.2 _ _ (hiv v hv).1 (hiv w hw).1 e
    rw [← (hiv v hv).2, this, (hiv w hw).2]
  · have hv := ha.2.1 p hp
    rw [hd _ hv]
    have := ha.2.2 (iv (dg a p)) p (hiv _ hv).1 hp (hiv _ hv).2
    rw [this]
theorem head_uniq {n a b x y : Nat} (ha : Pm n a) (hx : x < 8 ^ n) (hy : y < 8 ^ n) (h1 : ∀ p, p < n → dg x (dg a p) = dg b p) (h2 : ∀ p, p < n → dg y (dg a p) = dg b p) : x = y := by
  refine dg_ext hx hy (fun v hv => ?_)
  obtain ⟨p, hp, rfl⟩ := ha.onto hv
  rw [h1 p hp, h2 p hp]
/-- the reference's scratch rows 38, 39, 43, 44 -/
def scr (aI : Nat → Nat → Int32) (f u o w : Nat → Int32) : Nat → Nat → Int32 := up1 (up1 (up1 (up1 aI 38 f) 39 u) 43 o) 44 w
theorem scr_n {aI : Nat → Nat → Int32} {f u o w : Nat → Int32} {k : Nat} (h : k ≠ 38 ∧ k ≠ 39 ∧ k ≠ 43 ∧ k ≠ 44) : scr aI f u o w k = aI k := by
  unfold scr
  rw [up1_n _ _ h.2.2.2, up1_n _ _ h.2.2.1, up1_n _ _ h.2.1, up1_n _ _ h.1]
theorem scr_eq {aI aJ : Nat → Nat → Int32} {f u o w : Nat → Int32} (h : ∀ k, k ≠ 38 → k ≠ 39 → k ≠ 43 → k ≠ 44 → aJ k = aI k) (h1 : aJ 38 = f) (h2 : aJ 39 = u) (h3 : aJ 43 = o) (h4 : aJ 44 = w) : aJ = scr aI f u o w := by
  funext k
  unfold scr up1
  by_cases e4 : k = 44
  · rw [if_pos e4, e4, h4]
  · by_cases e3 : k = 43
    · rw [if_neg e4, if_pos e3, e3, h3]
    · by_cases e2 : k = 39
      · rw [if_neg e4, if_neg e3, if_pos e2, e2, h2]
      · by_cases e1 : k = 38
        · rw [if_neg e4, if_neg e3, if_neg e2, if_pos e1, e1, h1]
        · rw [if_neg e4, if_neg e3, if_neg e2, if_neg e1, h k e1 e2 e3 e4]
def pX11_layHead : Spc := fun As g Q => ∃ L iF aI aL n a b i j y, g = Mg L iF aI aL ∧ As = [.ref 32, .int (nI i), .int (nI j)] ∧ 4 ≤ n ∧ n ≤ 8 ∧ aI 33 0 = nI n ∧ i < 1601 ∧ j < 1601 ∧ aI 40 i = nI (rk n a) ∧ aI 40 j = nI (rk n b) ∧ Pm n a ∧ Pm n b ∧ Pm n y ∧ (∀ p, p < n → dg y (dg a p) = dg b p) ∧ ∀ f u o w, MR n y f → Q none (Mg L iF (scr aI f u o w) aL)
theorem oX11_layHead : Ok 2 yX11_layHead cX11_layHead 5 none pX11_layHead := by
  refine ok_all fun As g Q h => ?_
  obtain ⟨L, iF, aI, aL, n, a, b, i, j, y, rfl, rfl, hn4, hn, hN, hi, hj, hia, hjb, ha, hb, hy, hyd, hQ⟩ := h
  have i0 : vp_in 0 85 := vp_in_nI (n := 0) (N := 85) (by omega) (by omega)
  refine at_of (fun pc => pc == 12 || pc == 56 || pc == 90) 80 (fun m pc ls st g' => (∃ p f u o, pc = 12 ∧ ls = [.ref 32, .int (nI i), .int (nI j), .int (nI (p + 1)), U_] ∧ st = [] ∧ g' = Mg L iF (scr aI f u o (aI 44)) aL ∧ m = 300 - p ∧ p ≤ n ∧ MR n a f ∧ (∀ q, q < p → o (q + 1) = nI (dg a q + 1)))
      ∨ (∃ p f u o w, pc = 56 ∧ ls = [.ref 32, .int (nI i), .int (nI j), .ref 44, .int (nI (p + 1))] ∧ st = [] ∧ g' = Mg L iF (scr aI f u o w) aL ∧ m = 200 - p ∧ p ≤ n ∧ MR n b f ∧ MR n a o ∧ (∀ q, q < p → w (dg a q + 1) = nI (dg b q + 1)))
      ∨ (∃ p f u o w, pc = 90 ∧ ls = [.ref 32, .int (nI i), .int (nI j), .ref 44, .int (nI (p + 1))] ∧ st = [] ∧ g' = Mg L iF (scr aI f u o w) aL ∧ m = 100 - p ∧ p ≤ n ∧ MR n y w ∧ (∀ q, q < p → f (q + 1) = nI (dg y q + 1)))) (by decide) rfl sX11_layHead (nl (n := 3) rfl rfl rfl) ?_ ?_
  · refine And.intro (vp_in_nI (by omega) (by omega)) ?_
    refine ⟨L, iF, aI, aL, n, a, rfl, ?_, hn4, hn, hN, ha, fun f u hf => ?_⟩
    · show [Value.ref 32, .int (aI 40 (nI i).toNatClampNeg)] = _
      rw [cl1 (by omega), hia]
    refine ⟨300, Or.inl ⟨0, f, u, aI 43, rfl, rfl, rfl, ?_, rfl, by omega, hf, fun q hq => absurd hq (by omega)⟩⟩
    show (SH (true, L), iF, up1 (up1 aI 38 f) 39 u, aL) = _
    congr 3
    exact scr_eq (fun k h1 h2 _ _ => by rw [up1_n _ _ h2, up1_n _ _ h1]) rfl rfl rfl rfl
  · rintro m pc ls st g' (⟨p, f, u, o, rfl, rfl, rfl, rfl, rfl, hp, hf, ho⟩ | ⟨p, f, u, o, w, rfl, rfl, rfl, rfl, rfl, hp, hf, ho, hw⟩ | ⟨p, f, u, o, w, rfl, rfl, rfl, rfl, rfl, hp, hw, hf⟩)
    · refine And.intro i0 ?_
      refine br_c (fun h => ?_) (fun h => ?_)
      · have h : aI 33 0 < nI (p + 1) := h
        rw [hN] at h
        have h : n < p + 1 := (nI_ltI (by omega) (by omega)).mp h
        refine And.intro (vp_in_nI (by omega) (by omega)) ?_
        refine ⟨L, iF, _, aL, n, b, rfl, ?_, hn4, hn, hN, hb, fun f2 u2 hf2 => ?_⟩
        · show [Value.ref 32, .int (aI 40 (nI j).toNatClampNeg)] = _
          rw [cl1 (by omega), hjb]
        refine ⟨200, by omega, Or.inr (Or.inl ⟨0, f2, u2, o, aI 44, rfl, rfl, rfl, ?_, rfl, by omega, hf2, fun q hq => ho q (by omega), fun q hq => absurd hq (by omega)⟩)⟩
        show (SH (true, L), iF, up1 (up1 (scr aI f u o (aI 44)) 38 f2) 39 u2, aL) = _
        congr 3
        exact scr_eq (fun k h1 h2 h3 h4 => by rw [up1_n _ _ h2, up1_n _ _ h1, scr_n ⟨h1, h2, h3, h4⟩]) rfl rfl rfl rfl
      · have h : ¬ aI 33 0 < nI (p + 1) := h
        rw [hN] at h
        have h : ¬ n < p + 1 := fun q => h ((nI_ltI (by omega) (by omega)).mpr q)
        refine And.intro (vp_in_nI (by omega) (by omega)) (And.intro (vp_in_nI (by omega) (by omega)) ?_)
        refine ⟨300 - (p + 1), by omega, Or.inl ⟨p + 1, f, u, up1 o (p + 1) (f (p + 1)), rfl, ?_, rfl, ?_, rfl, by omega, hf, fun q hq => ?_⟩⟩
        · show [Value.ref 32, .int (nI i), .int (nI j), .int (nI (p + 1) + 1), U_] = _
          rw [nI_1]
        · show (SH (true, L), iF, up1 (scr aI f u o (aI 44)) 43 (up1 (scr aI f u o (aI 44) 43) (nI (p + 1)).toNatClampNeg (scr aI f u o (aI 44) 38 (nI (p + 1)).toNatClampNeg)), aL) = _
          rw [cl1 (by omega)]
          congr 3
          exact scr_eq (fun k h1 h2 h3 h4 => by rw [up1_n _ _ h3, scr_n ⟨h1, h2, h3, h4⟩]) rfl rfl rfl rfl
        · by_cases e : q = p
          · subst e; rw [up1_s]; exact hf q (by omega)
          · rw [up1_n _ _ (by omega)]; exact ho q (by omega)
    · refine And.intro i0 ?_
      refine br_c (fun h => ?_) (fun h => ?_)
      · have h : aI 33 0 < nI (p + 1) := h
        rw [hN] at h
        have h : n < p + 1 := (nI_ltI (by omega) (by omega)).mp h
        refine ⟨100, by omega, Or.inr (Or.inr ⟨0, f, u, o, w, rfl, rfl, rfl, rfl, rfl, by omega, fun v hv => ?_, fun q hq => absurd hq (by omega)⟩)⟩
        obtain ⟨q, hq, rfl⟩ := ha.onto hv
        rw [hw q (by omega), hyd q hq]
      · have h : ¬ aI 33 0 < nI (p + 1) := h
        rw [hN] at h
        have h : ¬ n < p + 1 := fun q => h ((nI_ltI (by omega) (by omega)).mpr q)
        have hda := ha.2.1 p (by omega)
        have eo : o (nI (p + 1)).toNatClampNeg = nI (dg a p + 1) := by rw [cl1 (by omega)]; exact ho p (by omega)
        refine And.intro (vp_in_nI (by omega) (by omega)) (And.intro (vp_in_nI (by omega) (by omega)) (And.intro ?_ ?_))
        · show vp_in (o (nI (p + 1)).toNatClampNeg) 9
          rw [eo]; exact vp_in_nI (by omega) (by omega)
        refine ⟨200 - (p + 1), by omega, Or.inr (Or.inl ⟨p + 1, f, u, o, up1 w (dg a p + 1) (nI (dg b p + 1)), rfl, ?_, rfl, ?_, rfl, by omega, hf, ho, fun q hq => ?_⟩)⟩
        · show [Value.ref 32, .int (nI i), .int (nI j), .ref 44, .int (nI (p + 1) + 1)] = _
          rw [nI_1]
        · show (SH (true, L), iF, up1 (scr aI f u o w) 44 (up1 (scr aI f u o w 44) (o (nI (p + 1)).toNatClampNeg).toNatClampNeg (f (nI (p + 1)).toNatClampNeg)), aL) = _
          rw [eo, cl1 (by omega), cl1 (by omega), hf p (by omega)]
          congr 3
          exact scr_eq (fun k h1 h2 h3 h4 => by rw [up1_n _ _ h4, scr_n ⟨h1, h2, h3, h4⟩]) rfl rfl rfl rfl
        · by_cases e : q = p
          · subst e; rw [up1_s]
          · rw [up1_n _ _ (fun z => e (ha.2.2 q p (by omega) (by omega) (by omega)))]; exact hw q (by omega)
    · refine And.intro i0 ?_
      refine br_c (fun h => ?_) (fun h => ?_)
      · have h : aI 33 0 < nI (p + 1) := h
        rw [hN] at h
        have h : n < p + 1 := (nI_ltI (by omega) (by omega)).mp h
        exact hQ f u o w (fun q hq => hf q (by omega))
      · have h : ¬ aI 33 0 < nI (p + 1) := h
        rw [hN] at h
        have h : ¬ n < p + 1 := fun q => h ((nI_ltI (by omega) (by omega)).mpr q)
        refine And.intro (vp_in_nI (by omega) (by omega)) (And.intro (vp_in_nI (by omega) (by omega)) ?_)
        refine ⟨100 - (p + 1), by omega, Or.inr (Or.inr ⟨p + 1, up1 f (p + 1) (w (p + 1)), u, o, w, rfl, ?_, rfl, ?_, rfl, by omega, hw, fun q hq => ?_⟩)⟩
        · show [Value.ref 32, .int (nI i), .int (nI j), .ref 44, .int (nI (p + 1) + 1)] = _
          rw [nI_1]
        · show (SH (true, L), iF, up1 (scr aI f u o w) 38 (up1 (scr aI f u o w 38) (nI (p + 1)).toNatClampNeg (w (nI (p + 1)).toNatClampNeg)), aL) = _
          rw [cl1 (by omega)]
          congr 3
          exact scr_eq (fun k h1 h2 h3 h4 => by rw [up1_n _ _ h1, scr_n ⟨h1, h2, h3, h4⟩]) rfl rfl rfl rfl
        · by_cases e : q = p
          · subst e; rw [up1_s]; exact hw q (by omega)
          · rw [up1_n _ _ (by omega)]; exact hf q (by omega)
end
section
/-! what leads can bring: entries (row, the row ahead, the letter, how many leads) -/
abbrev Ent : Type := Nat × Nat × Nat × Nat
def kys (E : List Ent) : List Nat := E.map (fun e => e.1)
def ad (E : List Ent) (e : Ent) : List Ent := if e.1 ∈ kys E then E else E ++ [e]
def adT (S : Stg) (ls : Nat) (e : Ent) (E : List Ent) : Nat → List Ent
  | 0 => E
  | j + 1 => if bq ls j = true then ad (adT S ls e E j) (led S j e.1, e.1, j, e.2.2.2 + 1) else adT S ls e E j
def bfs (S : Stg) (ls : Nat) : Nat → Nat → List Ent → List Ent
  | 0, _, E => E
  | k + 1, i, E => if i < E.length then bfs S ls k (i + 1) (adT S ls (E.getD i (0, 0, 0, 0)) E 3) else E
def BFS (S : Stg) (ls : Nat) : List Ent := bfs S ls 50000 0 [(rds (sN S), 0, 3, 0)]
/-- agreement on all that lasts in the reference (and on the class) -/
def agS (aI aJ : Nat → Nat → Int32) : Prop := ∀ k, k ≤ 37 → aJ k = aI k
theorem agS.rf {aI : Nat → Nat → Int32} : agS aI aI := fun _ _ => rfl
theorem agS.tr {aI aJ aK : Nat → Nat → Int32} (h : agS aI aJ) (h' : agS aJ aK) : agS aI aK := fun k hk => (h' k hk).trans (h k hk)
theorem agS.up {aI aJ : Nat → Nat → Int32} {k : Nat} {f : Nat → Int32} (h : agS aI aJ) (hk : 38 ≤ k) : agS aI (up1 aJ k f) := fun j hj => by rw [up1_n _ _ (by omega)]; exact h j hj
/-- all met numbers are at most the counter -/
def MI (sr : Nat) (met : Nat → Int32) : Prop := ∀ r, r < 40320 → ∃ c, c ≤ sr ∧ met r = nI c
theorem MW.MI {n sr : Nat} {V : List Nat} {met wave : Nat → Int32} (h : MW n sr V met wave) : MI sr met := fun r hr => by
  obtain ⟨c, c1, c2, -⟩ := h.2.2.1 r hr
  exact ⟨c, c1, c2⟩
theorem MI.nil {n sr : Nat} {met wave : Nat → Int32} (h : MI sr met) : MW n (sr + 1) [] met wave := by
  refine ⟨fun x hx => (by cases hx), List.nodup_nil, fun r hr => ?_, fun i hi => absurd hi (Nat.not_lt_zero i)⟩
  obtain ⟨c, c1, c2⟩ := h r hr
  exact ⟨c, by omega, c2, fun e => (by omega), fun ⟨x, hx, _⟩ => (by cases hx)⟩
theorem MI.mono {sr sr' : Nat} {met : Nat → Int32} (h : MI sr met) (hs : sr ≤ sr') : MI sr' met := fun r hr => by
  obtain ⟨c, c1, c2⟩ := h r hr
  exact ⟨c, by omega, c2⟩
/-- the reference's arrays cameFrom, cameBy, deep -/
def BD (n : Nat) (E : List Ent) (cf cb dp : Nat → Int32) : Prop := ∀ e ∈ E, dp (rk n e.1) = nI e.2.2.2 ∧ (0 < e.2.2.2 → cf (rk n e.1) = nI (rk n e.2.1) ∧ cb (rk n e.1) = nI e.2.2.1)
theorem kys_len (E : List Ent) : (kys E).length = E.length := List.length_map _
theorem kys_app (E : List Ent) (e : Ent) : kys (E ++ [e]) = kys E ++ [e.1] := by unfold kys; rw [List.map_append]; rfl
theorem kys_getD {E : List Ent} {i : Nat} (h : i < E.length) : (kys E).getD i 0 = (E.getD i (0, 0, 0, 0)).1 := by
  unfold kys
  rw [List.getD_eq_getElem?_getD, List.getD_eq_getElem?_getD, List.getElem?_map, List.getElem?_eq_getElem h]
  rfl
theorem mem_kys {E : List Ent} {e : Ent} (h : e ∈ E) : e.1 ∈ kys E := List.mem_map_of_mem h
theorem entD_mem {E : List Ent} {i : Nat} (h : i < E.length) : E.getD i (0, 0, 0, 0) ∈ E := by
  rw [List.getD_eq_getElem?_getD, List.getElem?_eq_getElem h]
  exact List.getElem_mem h
end
section
def kX11_layFalseHeads : Nat → Stq := fun pc => if pc < 30 then (if pc < 15 then (if pc < 8 then (if pc < 4 then (if pc < 1 then (if pc = 0 then s_ald 0 1 else s_bad) else (if pc = 1 then s_invv 10 0 pX11_layPlain 4 else s_bad)) else (if pc < 5 then (if pc = 4 then s_ald 0 5 else s_bad) else (if pc = 5 then s_invv 10 0 pX11_beginSearch 8 else s_bad))) else (if pc < 10 then (if pc < 9 then (if pc = 8 then s_push (.int 0) 9 else s_bad) else (if pc = 9 then s_ist 1 10 else s_bad)) else (if pc < 11 then (if pc = 10 then s_frg 2 (s_ild 1 11) else s_bad) else (if pc < 12 then (if pc = 11 then s_ald 0 12 else s_bad) else (if pc = 12 then s_getf 10 15 15 else s_bad))))) else (if pc < 21 then (if pc < 19 then (if pc < 18 then (if pc = 15 then s_icge 65 18 else s_bad) else (if pc = 18 then s_push (.int 0) 19 else s_bad)) else (if pc < 20 then (if pc = 19 then s_ist 2 20 else s_bad) else (if pc = 20 then s_ild 2 21 else s_bad))) else (if pc < 25 then (if pc < 22 then (if pc = 21 then s_ald 0 22 else s_bad) else (if pc = 22 then s_getf 10 15 25 else s_bad)) else (if pc < 28 then (if pc = 25 then s_icge 59 28 else s_bad) else (if pc < 29 then (if pc = 28 then s_ald 0 29 else s_bad) else (if pc = 29 then s_ild 1 30 else s_bad)))))) else (if pc < 45 then (if pc < 38 then (if pc < 34 then (if pc < 31 then (if pc = 30 then s_ild 2 31 else s_bad) else (if pc = 31 then s_invv 10 2 pX11_layHead 34 else s_bad)) else (if pc < 35 then (if pc = 34 then s_ald 0 35 else s_bad) else (if pc = 35 then s_getf 10 12 38 else s_bad))) else (if pc < 40 then (if pc < 39 then (if pc = 38 then s_push (.int 1) 39 else s_bad) else (if pc = 39 then s_iald 40 else s_bad)) else (if pc < 41 then (if pc = 40 then s_push (.int 1) 41 else s_bad) else (if pc < 44 then (if pc = 41 then s_icne 53 44 else s_bad) else (if pc = 44 then s_ald 0 45 else s_bad))))) else (if pc < 53 then (if pc < 49 then (if pc < 46 then (if pc = 45 then s_ald 0 46 else s_bad) else (if pc = 46 then s_invv 10 0 pX11_rank 49 else s_bad)) else (if pc < 52 then (if pc = 49 then s_invv 10 1 qX11_meet 52 else s_bad) else (if pc = 52 then s_pop 53 else s_bad))) else (if pc < 59 then (if pc < 56 then (if pc = 53 then s_inc 2 1 56 else s_bad) else (if pc = 56 then s_goto 20 else s_bad)) else (if pc < 62 then (if pc = 59 then s_inc 1 1 62 else s_bad) else (if pc < 65 then (if pc = 62 then s_goto 10 else s_bad) else (if pc = 65 then s_vret else s_bad))))))
set_option maxRecDepth 20000 in
theorem sX11_layFalseHeads : ∀ pc, Snd 3 RX11 cX11_layFalseHeads 3 none (inM "layFalseHeads") pc (kX11_layFalseHeads pc) := by
  have h0 : Snd 3 RX11 cX11_layFalseHeads 3 none (inM "layFalseHeads") 0 (s_ald 0 1) := snd_aload_n (j := 0) (by decide +kernel) rfl
  have h1 : Snd 3 RX11 cX11_layFalseHeads 3 none (inM "layFalseHeads") 1 (s_invv 10 0 pX11_layPlain 4) := snd_invv cI_10 oX11_layPlain (by decide) (by decide) g_1050 g_1047 g_1049 g_59 g_81 ⟨by decide, by decide, by decide +kernel⟩ (by decide +kernel)
  have h4 : Snd 3 RX11 cX11_layFalseHeads 3 none (inM "layFalseHeads") 4 (s_ald 0 5) := snd_aload_n (j := 0) (by decide +kernel) rfl
  have h5 : Snd 3 RX11 cX11_layFalseHeads 3 none (inM "layFalseHeads") 5 (s_invv 10 0 pX11_beginSearch 8) := snd_invv cI_10 oX11_beginSearch (by decide) (by decide) g_1054 g_1051 g_1053 g_60 g_81 ⟨by decide, by decide, by decide +kernel⟩ (by decide +kernel)
  have h8 : Snd 3 RX11 cX11_layFalseHeads 3 none (inM "layFalseHeads") 8 (s_push (.int 0) 9) := snd_iconst (n := 0) (by decide +kernel) (by decide)
  have h9 : Snd 3 RX11 cX11_layFalseHeads 3 none (inM "layFalseHeads") 9 (s_ist 1 10) := snd_istore_n (j := 1) (by decide +kernel) rfl
  have h10 : Snd 3 RX11 cX11_layFalseHeads 3 none (inM "layFalseHeads") 10 (s_frg 2 (s_ild 1 11)) := snd_frg (snd_iload_n (j := 1) (by decide +kernel) rfl)
  have h11 : Snd 3 RX11 cX11_layFalseHeads 3 none (inM "layFalseHeads") 11 (s_ald 0 12) := snd_aload_n (j := 0) (by decide +kernel) rfl
  have h12 : Snd 3 RX11 cX11_layFalseHeads 3 none (inM "layFalseHeads") 12 (s_getf 10 15 15) := snd_getf (T := TX11) (f := 15) cI_10 (by decide) g_784 (by decide +kernel)
  have h15 : Snd 3 RX11 cX11_layFalseHeads 3 none (inM "layFalseHeads") 15 (s_icge 65 18) := snd_icge (off := 50) (by decide +kernel) (by decide)
  have h18 : Snd 3 RX11 cX11_layFalseHeads 3 none (inM "layFalseHeads") 18 (s_push (.int 0) 19) := snd_iconst (n := 0) (by decide +kernel) (by decide)
  have h19 : Snd 3 RX11 cX11_layFalseHeads 3 none (inM "layFalseHeads") 19 (s_ist 2 20) := snd_istore_n (j := 2) (by decide +kernel) rfl
  have h20 : Snd 3 RX11 cX11_layFalseHeads 3 none (inM "layFalseHeads") 20 (s_ild 2 21) := snd_iload_n (j := 2) (by decide +kernel) rfl
  have h21 : Snd 3 RX11 cX11_layFalseHeads 3 none (inM "layFalseHeads") 21 (s_ald 0 22) := snd_aload_n (j := 0) (by decide +kernel) rfl
  have h22 : Snd 3 RX11 cX11_layFalseHeads 3 none (inM "layFalseHeads") 22 (s_getf 10 15 25) := snd_getf (T := TX11) (f := 15) cI_10 (by decide) g_784 (by decide +kernel)
  have h25 : Snd 3 RX11 cX11_layFalseHeads 3 none (inM "layFalseHeads") 25 (s_icge 59 28) := snd_icge (off := 34) (by decide +kernel) (by decide)
  have h28 : Snd 3 RX11 cX11_layFalseHeads 3 none (inM "layFalseHeads") 28 (s_ald 0 29) := snd_aload_n (j := 0) (by decide +kernel) rfl
  have h29 : Snd 3 RX11 cX11_layFalseHeads 3 none (inM "layFalseHeads") 29 (s_ild 1 30) := snd_iload_n (j := 1) (by decide +kernel) rfl
  have h30 : Snd 3 RX11 cX11_layFalseHeads 3 none (inM "layFalseHeads") 30 (s_ild 2 31) := snd_iload_n (j := 2) (by decide +kernel) rfl
  have h31 : Snd 3 RX11 cX11_layFalseHeads 3 none (inM "layFalseHeads") 31 (s_invv 10 2 pX11_layHead 34) := snd_invv cI_10 oX11_layHead (by decide) (by decide) g_1058 g_1055 g_1057 g_61 g_81 ⟨by decide, by decide, by decide +kernel⟩ (by decide +kernel)
  have h34 : Snd 3 RX11 cX11_layFalseHeads 3 none (inM "layFalseHeads") 34 (s_ald 0 35) := snd_aload_n (j := 0) (by decide +kernel) rfl
  have h35 : Snd 3 RX11 cX11_layFalseHeads 3 none (inM "layFalseHeads") 35 (s_getf 10 12 38) := snd_getf (T := TX11) (f := 12) cI_10 (by decide) g_781 (by decide +kernel)
  have h38 : Snd 3 RX11 cX11_layFalseHeads 3 none (inM "layFalseHeads") 38 (s_push (.int 1) 39) := snd_iconst (n := 1) (by decide +kernel) (by decide)
  have h39 : Snd 3 RX11 cX11_layFalseHeads 3 none (inM "layFalseHeads") 39 (s_iald 40) := snd_iald (by decide +kernel)
  have h40 : Snd 3 RX11 cX11_layFalseHeads 3 none (inM "layFalseHeads") 40 (s_push (.int 1) 41) := snd_iconst (n := 1) (by decide +kernel) (by decide)
  have h41 : Snd 3 RX11 cX11_layFalseHeads 3 none (inM "layFalseHeads") 41 (s_icne 53 44) := snd_icne (off := 12) (by decide +kernel) (by decide)
  have h44 : Snd 3 RX11 cX11_layFalseHeads 3 none (inM "layFalseHeads") 44 (s_ald 0 45) := snd_aload_n (j := 0) (by decide +kernel) rfl
  have h45 : Snd 3 RX11 cX11_layFalseHeads 3 none (inM "layFalseHeads") 45 (s_ald 0 46) := snd_aload_n (j := 0) (by decide +kernel) rfl
  have h46 : Snd 3 RX11 cX11_layFalseHeads 3 none (inM "layFalseHeads") 46 (s_invv 10 0 pX11_rank 49) := snd_invv cI_10 oX11_rank (by decide) (by decide) g_978 g_975 g_977 g_45 g_81 ⟨by decide, by decide, by decide +kernel⟩ (by decide +kernel)
  have h49 : Snd 3 RX11 cX11_layFalseHeads 3 none (inM "layFalseHeads") 49 (s_invv 10 1 qX11_meet 52) := snd_invv cI_10 rX11_meet (by decide) (by decide) g_1062 g_1059 g_1061 g_62 g_81 ⟨by decide, by decide, by decide +kernel⟩ (by decide +kernel)
  have h52 : Snd 3 RX11 cX11_layFalseHeads 3 none (inM "layFalseHeads") 52 (s_pop 53) := snd_pop (by decide +kernel)
  have h53 : Snd 3 RX11 cX11_layFalseHeads 3 none (inM "layFalseHeads") 53 (s_inc 2 1 56) := snd_iinc (y := 1) (by decide +kernel) (by decide)
  have h56 : Snd 3 RX11 cX11_layFalseHeads 3 none (inM "layFalseHeads") 56 (s_goto 20) := snd_goto (off := -36) (by decide +kernel) (by decide)
  have h59 : Snd 3 RX11 cX11_layFalseHeads 3 none (inM "layFalseHeads") 59 (s_inc 1 1 62) := snd_iinc (y := 1) (by decide +kernel) (by decide)
  have h62 : Snd 3 RX11 cX11_layFalseHeads 3 none (inM "layFalseHeads") 62 (s_goto 10) := snd_goto (off := -52) (by decide +kernel) (by decide)
  have h65 : Snd 3 RX11 cX11_layFalseHeads 3 none (inM "layFalseHeads") 65 (s_vret) := snd_vret (by decide +kernel)
  exact fun pc => snd_ite (snd_ite (snd_ite (snd_ite (snd_ite (snd_leaf (k := 0) h0) (snd_leaf (k := 1) h1)) (snd_ite (snd_leaf (k := 4) h4) (snd_leaf (k := 5) h5))) (snd_ite (snd_ite (snd_leaf (k := 8) h8) (snd_leaf (k := 9) h9)) (snd_ite (snd_leaf (k := 10) h10) (snd_ite (snd_leaf (k := 11) h11) (snd_leaf (k := 12) h12))))) (snd_ite (snd_ite (snd_ite (snd_leaf (k := 15) h15) (snd_leaf (k := 18) h18)) (snd_ite (snd_leaf (k := 19) h19) (snd_leaf (k := 20) h20))) (snd_ite (snd_ite (snd_leaf (k := 21) h21) (snd_leaf (k := 22) h22)) (snd_ite (snd_leaf (k := 25) h25) (snd_ite (snd_leaf (k := 28) h28) (snd_leaf (k := 29) h29)))))) (snd_ite (snd_ite (snd_ite (snd_ite (snd_leaf (k := 30) h30) (snd_leaf (k := 31) h31)) (snd_ite (snd_leaf (k := 34) h34) (snd_leaf (k := 35) h35))) (snd_ite (snd_ite (snd_leaf (k := 38) h38) (snd_leaf (k := 39) h39)) (snd_ite (snd_leaf (k := 40) h40) (snd_ite (snd_leaf (k := 41) h41) (snd_leaf (k := 44) h44))))) (snd_ite (snd_ite (snd_ite (snd_leaf (k := 45) h45) (snd_leaf (k := 46) h46)) (snd_ite (snd_leaf (k := 49) h49) (snd_leaf (k := 52) h52))) (snd_ite (snd_ite (snd_leaf (k := 53) h53) (snd_leaf (k := 56) h56)) (snd_ite (snd_leaf (k := 59) h59) (snd_ite (snd_leaf (k := 62) h62) (snd_leaf (k := 65) h65))))))

def kX11_goOn : Nat → Stq := fun pc => if pc < 29 then (if pc < 14 then (if pc < 6 then (if pc < 2 then (if pc < 1 then (if pc = 0 then s_ald 0 1 else s_bad) else (if pc = 1 then s_ild 1 2 else s_bad)) else (if pc < 5 then (if pc = 2 then s_invv 10 1 pX11_layRank 5 else s_bad) else (if pc = 5 then s_ald 0 6 else s_bad))) else (if pc < 10 then (if pc < 7 then (if pc = 6 then s_ild 2 7 else s_bad) else (if pc = 7 then s_invv 10 1 pX11_ringLead 10 else s_bad)) else (if pc < 11 then (if pc = 10 then s_ald 0 11 else s_bad) else (if pc = 11 then s_invv 10 0 pX11_rank 14 else s_bad)))) else (if pc < 20 then (if pc < 16 then (if pc < 15 then (if pc = 14 then s_ist 3 15 else s_bad) else (if pc = 15 then s_ald 0 16 else s_bad)) else (if pc < 17 then (if pc = 16 then s_ild 3 17 else s_bad) else (if pc = 17 then s_invv 10 1 qX11_meet 20 else s_bad))) else (if pc < 24 then (if pc < 23 then (if pc = 20 then s_ifeq 51 23 else s_bad) else (if pc = 23 then s_ald 0 24 else s_bad)) else (if pc < 27 then (if pc = 24 then s_getf 10 22 27 else s_bad) else (if pc < 28 then (if pc = 27 then s_ild 3 28 else s_bad) else (if pc = 28 then s_ild 1 29 else s_bad)))))) else (if pc < 41 then (if pc < 35 then (if pc < 31 then (if pc < 30 then (if pc = 29 then s_iast 30 else s_bad) else (if pc = 30 then s_ald 0 31 else s_bad)) else (if pc < 34 then (if pc = 31 then s_getf 10 23 34 else s_bad) else (if pc = 34 then s_ild 3 35 else s_bad))) else (if pc < 37 then (if pc < 36 then (if pc = 35 then s_ild 2 36 else s_bad) else (if pc = 36 then s_iast 37 else s_bad)) else (if pc < 38 then (if pc = 37 then s_ald 0 38 else s_bad) else (if pc = 38 then s_getf 10 24 41 else s_bad)))) else (if pc < 47 then (if pc < 43 then (if pc < 42 then (if pc = 41 then s_ild 3 42 else s_bad) else (if pc = 42 then s_ald 0 43 else s_bad)) else (if pc < 46 then (if pc = 43 then s_getf 10 24 46 else s_bad) else (if pc = 46 then s_ild 1 47 else s_bad))) else (if pc < 49 then (if pc < 48 then (if pc = 47 then s_iald 48 else s_bad) else (if pc = 48 then s_push (.int 1) 49 else s_bad)) else (if pc < 50 then (if pc = 49 then s_iadd 50 else s_bad) else (if pc < 51 then (if pc = 50 then s_iast 51 else s_bad) else (if pc = 51 then s_vret else s_bad))))))
set_option maxRecDepth 20000 in
theorem sX11_goOn : ∀ pc, Snd 3 RX11 cX11_goOn 4 none (inM "goOn") pc (kX11_goOn pc) := by
  have h0 : Snd 3 RX11 cX11_goOn 4 none (inM "goOn") 0 (s_ald 0 1) := snd_aload_n (j := 0) (by decide +kernel) rfl
  have h1 : Snd 3 RX11 cX11_goOn 4 none (inM "goOn") 1 (s_ild 1 2) := snd_iload_n (j := 1) (by decide +kernel) rfl
  have h2 : Snd 3 RX11 cX11_goOn 4 none (inM "goOn") 2 (s_invv 10 1 pX11_layRank 5) := snd_invv cI_10 oX11_layRank (by decide) (by decide) g_982 g_979 g_981 g_46 g_81 ⟨by decide, by decide, by decide +kernel⟩ (by decide +kernel)
  have h5 : Snd 3 RX11 cX11_goOn 4 none (inM "goOn") 5 (s_ald 0 6) := snd_aload_n (j := 0) (by decide +kernel) rfl
  have h6 : Snd 3 RX11 cX11_goOn 4 none (inM "goOn") 6 (s_ild 2 7) := snd_iload_n (j := 2) (by decide +kernel) rfl
  have h7 : Snd 3 RX11 cX11_goOn 4 none (inM "goOn") 7 (s_invv 10 1 pX11_ringLead 10) := snd_invv cI_10 oX11_ringLead (by decide) (by decide) g_1038 g_1035 g_1037 g_57 g_81 ⟨by decide, by decide, by decide +kernel⟩ (by decide +kernel)
  have h10 : Snd 3 RX11 cX11_goOn 4 none (inM "goOn") 10 (s_ald 0 11) := snd_aload_n (j := 0) (by decide +kernel) rfl
  have h11 : Snd 3 RX11 cX11_goOn 4 none (inM "goOn") 11 (s_invv 10 0 pX11_rank 14) := snd_invv cI_10 oX11_rank (by decide) (by decide) g_978 g_975 g_977 g_45 g_81 ⟨by decide, by decide, by decide +kernel⟩ (by decide +kernel)
  have h14 : Snd 3 RX11 cX11_goOn 4 none (inM "goOn") 14 (s_ist 3 15) := snd_istore_n (j := 3) (by decide +kernel) rfl
  have h15 : Snd 3 RX11 cX11_goOn 4 none (inM "goOn") 15 (s_ald 0 16) := snd_aload_n (j := 0) (by decide +kernel) rfl
  have h16 : Snd 3 RX11 cX11_goOn 4 none (inM "goOn") 16 (s_ild 3 17) := snd_iload_n (j := 3) (by decide +kernel) rfl
  have h17 : Snd 3 RX11 cX11_goOn 4 none (inM "goOn") 17 (s_invv 10 1 qX11_meet 20) := snd_invv cI_10 rX11_meet (by decide) (by decide) g_1062 g_1059 g_1061 g_62 g_81 ⟨by decide, by decide, by decide +kernel⟩ (by decide +kernel)
  have h20 : Snd 3 RX11 cX11_goOn 4 none (inM "goOn") 20 (s_ifeq 51 23) := snd_ifeq (off := 31) (by decide +kernel) (by decide)
  have h23 : Snd 3 RX11 cX11_goOn 4 none (inM "goOn") 23 (s_ald 0 24) := snd_aload_n (j := 0) (by decide +kernel) rfl
  have h24 : Snd 3 RX11 cX11_goOn 4 none (inM "goOn") 24 (s_getf 10 22 27) := snd_getf (T := TX11) (f := 22) cI_10 (by decide) g_791 (by decide +kernel)
  have h27 : Snd 3 RX11 cX11_goOn 4 none (inM "goOn") 27 (s_ild 3 28) := snd_iload_n (j := 3) (by decide +kernel) rfl
  have h28 : Snd 3 RX11 cX11_goOn 4 none (inM "goOn") 28 (s_ild 1 29) := snd_iload_n (j := 1) (by decide +kernel) rfl
  have h29 : Snd 3 RX11 cX11_goOn 4 none (inM "goOn") 29 (s_iast 30) := snd_iast (by decide +kernel)
  have h30 : Snd 3 RX11 cX11_goOn 4 none (inM "goOn") 30 (s_ald 0 31) := snd_aload_n (j := 0) (by decide +kernel) rfl
  have h31 : Snd 3 RX11 cX11_goOn 4 none (inM "goOn") 31 (s_getf 10 23 34) := snd_getf (T := TX11) (f := 23) cI_10 (by decide) g_792 (by decide +kernel)
  have h34 : Snd 3 RX11 cX11_goOn 4 none (inM "goOn") 34 (s_ild 3 35) := snd_iload_n (j := 3) (by decide +kernel) rfl
  have h35 : Snd 3 RX11 cX11_goOn 4 none (inM "goOn") 35 (s_ild 2 36) := snd_iload_n (j := 2) (by decide +kernel) rfl
  have h36 : Snd 3 RX11 cX11_goOn 4 none (inM "goOn") 36 (s_iast 37) := snd_iast (by decide +kernel)
  have h37 : Snd 3 RX11 cX11_goOn 4 none (inM "goOn") 37 (s_ald 0 38) := snd_aload_n (j := 0) (by decide +kernel) rfl
  have h38 : Snd 3 RX11 cX11_goOn 4 none (inM "goOn") 38 (s_getf 10 24 41) := snd_getf (T := TX11) (f := 24) cI_10 (by decide) g_793 (by decide +kernel)
  have h41 : Snd 3 RX11 cX11_goOn 4 none (inM "goOn") 41 (s_ild 3 42) := snd_iload_n (j := 3) (by decide +kernel) rfl
  have h42 : Snd 3 RX11 cX11_goOn 4 none (inM "goOn") 42 (s_ald 0 43) := snd_aload_n (j := 0) (by decide +kernel) rfl
  have h43 : Snd 3 RX11 cX11_goOn 4 none (inM "goOn") 43 (s_getf 10 24 46) := snd_getf (T := TX11) (f := 24) cI_10 (by decide) g_793 (by decide +kernel)
  have h46 : Snd 3 RX11 cX11_goOn 4 none (inM "goOn") 46 (s_ild 1 47) := snd_iload_n (j := 1) (by decide +kernel) rfl
  have h47 : Snd 3 RX11 cX11_goOn 4 none (inM "goOn") 47 (s_iald 48) := snd_iald (by decide +kernel)
  have h48 : Snd 3 RX11 cX11_goOn 4 none (inM "goOn") 48 (s_push (.int 1) 49) := snd_iconst (n := 1) (by decide +kernel) (by decide)
  have h49 : Snd 3 RX11 cX11_goOn 4 none (inM "goOn") 49 (s_iadd 50) := snd_iadd (by decide +kernel)
  have h50 : Snd 3 RX11 cX11_goOn 4 none (inM "goOn") 50 (s_iast 51) := snd_iast (by decide +kernel)
  have h51 : Snd 3 RX11 cX11_goOn 4 none (inM "goOn") 51 (s_vret) := snd_vret (by decide +kernel)
  exact fun pc => snd_ite (snd_ite (snd_ite (snd_ite (snd_ite (snd_leaf (k := 0) h0) (snd_leaf (k := 1) h1)) (snd_ite (snd_leaf (k := 2) h2) (snd_leaf (k := 5) h5))) (snd_ite (snd_ite (snd_leaf (k := 6) h6) (snd_leaf (k := 7) h7)) (snd_ite (snd_leaf (k := 10) h10) (snd_leaf (k := 11) h11)))) (snd_ite (snd_ite (snd_ite (snd_leaf (k := 14) h14) (snd_leaf (k := 15) h15)) (snd_ite (snd_leaf (k := 16) h16) (snd_leaf (k := 17) h17))) (snd_ite (snd_ite (snd_leaf (k := 20) h20) (snd_leaf (k := 23) h23)) (snd_ite (snd_leaf (k := 24) h24) (snd_ite (snd_leaf (k := 27) h27) (snd_leaf (k := 28) h28)))))) (snd_ite (snd_ite (snd_ite (snd_ite (snd_leaf (k := 29) h29) (snd_leaf (k := 30) h30)) (snd_ite (snd_leaf (k := 31) h31) (snd_leaf (k := 34) h34))) (snd_ite (snd_ite (snd_leaf (k := 35) h35) (snd_leaf (k := 36) h36)) (snd_ite (snd_leaf (k := 37) h37) (snd_leaf (k := 38) h38)))) (snd_ite (snd_ite (snd_ite (snd_leaf (k := 41) h41) (snd_leaf (k := 42) h42)) (snd_ite (snd_leaf (k := 43) h43) (snd_leaf (k := 46) h46))) (snd_ite (snd_ite (snd_leaf (k := 47) h47) (snd_leaf (k := 48) h48)) (snd_ite (snd_leaf (k := 49) h49) (snd_ite (snd_leaf (k := 50) h50) (snd_leaf (k := 51) h51))))))
end
section
def pX11_goOn : Spc := fun As g Q => ∃ L iF aI aL S sr E e l, g = Mg L iF aI aL ∧ As = [.ref 32, .int (nI (rk (sN S) e.1)), .int (nI l)] ∧ RS (aI 33) S ∧ VS S ∧ sr < 2 ^ 30 ∧ l ≤ 2 ∧ e ∈ E ∧ e.2.2.2 < 50000 ∧ iF 32 17 = nI sr ∧ iF 32 19 = nI E.length ∧ MW (sN S) sr (kys E) (aI 41) (aI 42) ∧ BD (sN S) E (aI 45) (aI 46) (aI 47) ∧
  ∀ iF' aI', agS aI aI' → (∀ k, k ≠ 32 → iF' k = iF k) → (∀ j, j ≠ 19 → iF' 32 j = iF 32 j) → iF' 32 19 = nI (ad E (led S l e.1, e.1, l, e.2.2.2 + 1)).length → MW (sN S) sr (kys (ad E (led S l e.1, e.1, l, e.2.2.2 + 1))) (aI' 41) (aI' 42) → BD (sN S) (ad E (led S l e.1, e.1, l, e.2.2.2 + 1)) (aI' 45) (aI' 46) (aI' 47) → Q none (Mg L iF' aI' aL)
set_option maxHeartbeats 4000000 in
theorem oX11_goOn : Ok 3 yX11_goOn cX11_goOn 4 none pX11_goOn := by
  refine ok_all fun As g Q h => ?_
  obtain ⟨L, iF, aI, aL, S, sr, E, e, l, rfl, rfl, hR, hS, hsr, hl, he, hed, h17, h19, hM, hB, hQ⟩ := h
  have hn := hS.1.2
  have hP := hM.1 _ (mem_kys he)
  have hy := led_Pm (S := S) (l := l) hP
  have hr1 := rk_lt (x := e.1) hn
  have hr2 := rk_lt (x := led S l e.1) hn
  have hf := fct_le _ hn
  refine at_of (fun pc => false) 80 (fun m pc ls st g' => False) (by decide) rfl sX11_goOn (nl (n := 3) rfl rfl rfl) ?_ (fun _ _ _ _ _ h => h.elim)
  refine ⟨L, iF, aI, aL, sN S, e.1, rfl, rfl, hS.1.1, hn, hR.1, hP, fun f u hf1 => ?_⟩
  refine ⟨L, iF, _, aL, S, l, e.1, rfl, rfl, hR, hS, hl, hf1, fun f2 hf2 => ?_⟩
  refine ⟨L, iF, _, aL, sN S, led S l e.1, rfl, rfl, hn, hR.1, hf2, ?_⟩
  refine ⟨L, iF, _, aL, sN S, sr, kys E, led S l e.1, rfl, rfl, hn, hsr, hy, h17, by rw [kys_len]; exact h19, hM, fun hv => ?_, fun hv => ?_⟩
  · refine br_t rfl ?_
    have e1 : ad E (led S l e.1, e.1, l, e.2.2.2 + 1) = E := if_pos hv
    rw [e1] at hQ
    exact hQ iF _ (((agS.rf.up (by omega)).up (by omega)).up (by omega)) (fun _ _ => rfl) (fun _ _ => rfl) h19 hM hB
  · refine br_f (by decide) ?_
    have e1 : ad E (led S l e.1, e.1, l, e.2.2.2 + 1) = E ++ [(led S l e.1, e.1, l, e.2.2.2 + 1)] := if_neg hv
    rw [e1] at hQ
    obtain ⟨hM2, hlt⟩ := hM.add hn hy hv
    have ir : vp_in (nI (rk (sN S) (led S l e.1))) 40320 := vp_in_nI (by omega) (by omega)
    refine And.intro ir (And.intro ir (And.intro (vp_in_nI (by omega) (by omega)) (And.intro ir ?_)))
    refine hQ _ _ ?_ (fun k hk => up1_n _ _ hk) (fun j hj => ?_) ?_ ?_ ?_
    · exact (((((((agS.rf.up (by omega)).up (by omega)).up (by omega)).up (by omega)).up (by omega)).up (by omega)).up (by omega)).up (by omega)
    · show up1 iF 32 (up1 (iF 32) 19 _) 32 j = _
      rw [up1_s, up1_n _ _ hj]
    · show up1 iF 32 (up1 (iF 32) 19 (nI ((kys E).length + 1))) 32 19 = _
      rw [up1_s, up1_s, kys_len, List.length_append]
      rfl
    · rw [kys_app]
      exact hM2
    · intro x hx
      have ecl : (nI (rk (sN S) (led S l e.1))).toNatClampNeg = rk (sN S) (led S l e.1) := cl1 (by omega)
      have ecl2 : (nI (rk (sN S) e.1)).toNatClampNeg = rk (sN S) e.1 := cl1 (by omega)
      show up1 (aI 47) (nI (rk (sN S) (led S l e.1))).toNatClampNeg (aI 47 (nI (rk (sN S) e.1)).toNatClampNeg + 1) (rk (sN S) x.1) = nI x.2.2.2 ∧ (0 < x.2.2.2 → up1 (aI 45) (nI (rk (sN S) (led S l e.1))).toNatClampNeg (nI (rk (sN S) e.1)) (rk (sN S) x.1) = nI (rk (sN S) x.2.1) ∧ up1 (aI 46) (nI (rk (sN S) (led S l e.1))).toNatClampNeg (nI l) (rk (sN S) x.1) = nI x.2.2.1)
      rw [ecl, ecl2, (hB e he).1, nI_1]
      rcases List.mem_append.mp hx with hx | hx
      · have hne : rk (sN S) x.1 ≠ rk (sN S) (led S l e.1) := fun z => hv (by rw [← rk_inj (hM.1 _ (mem_kys hx)) hy z]; exact mem_kys hx)
        rw [up1_n _ _ hne, up1_n _ _ hne, up1_n _ _ hne]
        exact hB x hx
      · rw [List.mem_singleton.mp hx]
        rw [up1_s, up1_s, up1_s]
        exact ⟨rfl, fun _ => ⟨rfl, rfl⟩⟩
/-- the head by which row b is where row a was -/
noncomputable def hdx (n a b : Nat) : Nat := Classical.epsilon (fun y => Pm n y ∧ ∀ p, p < n → dg y (dg a p) = dg b p)
theorem hdx_spec {n a b : Nat} (hn : n ≤ 8) (ha : Pm n a) (hb : Pm n b) : Pm n (hdx n a b) ∧ ∀ p, p < n → dg (hdx n a b) (dg a p) = dg b p := Classical.epsilon_spec (head_ex hn ha hb)
/-- the false heads, in any order -/
def isFH (S : Stg) (V : List Nat) : Prop := ∀ x, x ∈ V ↔ ∃ a b, a < (sC S).length ∧ b < (sC S).length ∧ x = hdx (sN S) (plr S a) (plr S b) ∧ dg x 0 = 0
def pX11_layFalseHeads : Spc := fun As g Q => ∃ L iF aI aL S sr, g = Mg L iF aI aL ∧ As = [.ref 32] ∧ RS (aI 33) S ∧ VS S ∧ sr + 1 < 2 ^ 30 ∧ iF 32 17 = nI sr ∧ MI sr (aI 41) ∧
  ∀ V iF' aI', agS aI aI' → (∀ k, k ≠ 32 → iF' k = iF k) → (∀ j, j ≠ 15 → j ≠ 17 → j ≠ 19 → iF' 32 j = iF 32 j) → iF' 32 17 = nI (sr + 1) → iF' 32 19 = nI V.length → MW (sN S) (sr + 1) V (aI' 41) (aI' 42) → isFH S V → Q none (Mg L iF' aI' aL)
set_option maxHeartbeats 4000000 in
theorem oX11_layFalseHeads : Ok 3 yX11_layFalseHeads cX11_layFalseHeads 3 none pX11_layFalseHeads := by
  refine ok_all fun As g Q h => ?_
  obtain ⟨L, iF, aI, aL, S, sr, rfl, rfl, hR, hS, hsr, h17, hMI, hQ⟩ := h
  have hn := hS.1.2
  have hc := hS.2.1.1
  have key : ∀ (a b : Nat) (iF' aI' : Nat → Nat → Int32) (V : List Nat), True → True := fun _ _ _ _ _ _ => trivial
  refine at_of (fun pc => pc == 10 || pc == 20) 80 (fun m pc ls st g' => (∃ a w V iF' aI', pc = 10 ∧ ls = [.ref 32, .int (nI a), w] ∧ st = [] ∧ g' = Mg L iF' aI' aL ∧ m = 100 * (41 - a) ∧ a ≤ (sC S).length ∧ agS aI aI' ∧ (∀ k, k ≠ 32 → iF' k = iF k) ∧ (∀ j, j ≠ 15 → j ≠ 17 → j ≠ 19 → iF' 32 j = iF 32 j) ∧ iF' 32 15 = nI (sC S).length ∧ iF' 32 17 = nI (sr + 1) ∧ iF' 32 19 = nI V.length ∧ MW (sN S) (sr + 1) V (aI' 41) (aI' 42) ∧ (∀ i, i < (sC S).length → aI' 40 i = nI (rk (sN S) (plr S i))) ∧ (∀ x, x ∈ V ↔ ∃ i j, i < a ∧ j < (sC S).length ∧ x = hdx (sN S) (plr S i) (plr S j) ∧ dg x 0 = 0))
      ∨ (∃ a b V iF' aI', pc = 20 ∧ ls = [.ref 32, .int (nI a), .int (nI b)] ∧ st = [] ∧ g' = Mg L iF' aI' aL ∧ m = 100 * (41 - a) - 1 - b ∧ a < (sC S).length ∧ b ≤ (sC S).length ∧ agS aI aI' ∧ (∀ k, k ≠ 32 → iF' k = iF k) ∧ (∀ j, j ≠ 15 → j ≠ 17 → j ≠ 19 → iF' 32 j = iF 32 j) ∧ iF' 32 15 = nI (sC S).length ∧ iF' 32 17 = nI (sr + 1) ∧ iF' 32 19 = nI V.length ∧ MW (sN S) (sr + 1) V (aI' 41) (aI' 42) ∧ (∀ i, i < (sC S).length → aI' 40 i = nI (rk (sN S) (plr S i))) ∧ (∀ x, x ∈ V ↔ ∃ i j, (i < a ∨ (i = a ∧ j < b)) ∧ j < (sC S).length ∧ x = hdx (sN S) (plr S i) (plr S j) ∧ dg x 0 = 0))) (by decide) rfl sX11_layFalseHeads (nl (n := 1) rfl rfl rfl) ?_ ?_
  · refine ⟨L, iF, aI, aL, S, rfl, rfl, hR, hS, fun f r hr => ?_⟩
    refine ⟨4100, Or.inl ⟨0, U_, [], _, _, rfl, rfl, rfl, rfl, rfl, by omega, ((agS.rf.up (by omega)).up (by omega)), ?_, ?_, ?_, ?_, rfl, ?_, hr, ?_⟩⟩
    · intro k hk
      show up1 (up1 (up1 iF 32 _) 32 _) 32 _ k = _
      rw [up1_n _ _ hk, up1_n _ _ hk, up1_n _ _ hk]
    · intro j j1 j2 j3
      show (up1 (up1 (up1 (iF 32) 15 (nI (sC S).length)) 17 (iF 32 17 + 1)) 19 0) j = _
      rw [up1_n _ _ j3, up1_n _ _ j2, up1_n _ _ j1]
    · rfl
    · show iF 32 17 + 1 = _
      rw [h17, nI_1]
    · exact MI.nil hMI
    · intro x
      constructor
      · intro h; cases h
      · rintro ⟨i, j, h1, -⟩; omega
  · rintro m pc ls st g' (⟨a, w, V, iF', aI', rfl, rfl, rfl, rfl, rfl, ha, g1, g2, g3, g4, g5, g6, g7, g8, g9⟩ | ⟨a, b, V, iF', aI', rfl, rfl, rfl, rfl, rfl, ha, hb, g1, g2, g3, g4, g5, g6, g7, g8, g9⟩)
    · refine br_c (fun h => ?_) (fun h => ?_)
      · have h : iF' 32 15 ≤ nI a := h
        rw [g4] at h
        have h : (sC S).length ≤ a := (nI_leI (by omega) (by omega)).mp h
        refine hQ V iF' aI' g1 g2 g3 g5 g6 g7 (fun x => (g9 x).trans ⟨?_, ?_⟩)
        · rintro ⟨i, j, h1, h2, h3⟩; exact ⟨i, j, by omega, h2, h3⟩
        · rintro ⟨i, j, h1, h2, h3⟩; exact ⟨i, j, by omega, h2, h3⟩
      · have h : ¬ iF' 32 15 ≤ nI a := h
        rw [g4] at h
        have h : ¬ (sC S).length ≤ a := fun q => h ((nI_leI (by omega) (by omega)).mpr q)
        refine ⟨100 * (41 - a) - 1, by omega, Or.inr ⟨a, 0, V, iF', aI', rfl, rfl, rfl, rfl, rfl, by omega, by omega, g1, g2, g3, g4, g5, g6, g7, g8, fun x => (g9 x).trans ⟨?_, ?_⟩⟩⟩
        · rintro ⟨i, j, h1, h2, h3⟩; exact ⟨i, j, Or.inl h1, h2, h3⟩
        · rintro ⟨i, j, h1, h2, h3⟩; exact ⟨i, j, by omega, h2, h3⟩
    · refine br_c (fun h => ?_) (fun h => ?_)
      · have h : iF' 32 15 ≤ nI b := h
        rw [g4] at h
        have h : (sC S).length ≤ b := (nI_leI (by omega) (by omega)).mp h
        refine ⟨100 * (41 - (a + 1)), by omega, Or.inl ⟨a + 1, .int (nI b), V, iF', aI', rfl, ?_, rfl, rfl, rfl, by omega, g1, g2, g3, g4, g5, g6, g7, g8, fun x => (g9 x).trans ⟨?_, ?_⟩⟩⟩
        · show [Value.ref 32, .int (nI a + 1), .int (nI b)] = _
          rw [nI_1]
        · rintro ⟨i, j, h1, h2, h3⟩; exact ⟨i, j, by omega, h2, h3⟩
        · rintro ⟨i, j, h1, h2, h3⟩; exact ⟨i, j, by omega, h2, h3⟩
      · have h : ¬ iF' 32 15 ≤ nI b := h
        rw [g4] at h
        have h : ¬ (sC S).length ≤ b := fun q => h ((nI_leI (by omega) (by omega)).mpr q)
        obtain ⟨y1, y2⟩ := hdx_spec hn (plr_Pm hS a) (plr_Pm hS b)
        have hN : aI' 33 0 = nI (sN S) := by rw [g1 33 (by omega)]; exact hR.1
        refine ⟨L, iF', aI', aL, sN S, plr S a, plr S b, a, b, hdx (sN S) (plr S a) (plr S b), rfl, rfl, hS.1.1, hn, hN, by omega, by omega, g8 a (by omega), g8 b (by omega), plr_Pm hS a, plr_Pm hS b, y1, y2, fun f u o w hf => ?_⟩
        refine And.intro (vp_in_nI (n := 1) (N := 9) (by omega) (by omega)) ?_
        have gs : agS aI (scr aI' f u o w) := fun k hk => by rw [scr_n ⟨by omega, by omega, by omega, by omega⟩]; exact g1 k hk
        have e1 : f 1 = nI (dg (hdx (sN S) (plr S a) (plr S b)) 0 + 1) := hf 0 (by have := hS.1.1; omega)
        have d0 := dg_lt (hdx (sN S) (plr S a) (plr S b)) 0
        have nxt : ∀ iF2 aI2 V2, agS aI aI2 → (∀ k, k ≠ 32 → iF2 k = iF k) → (∀ j, j ≠ 15 → j ≠ 17 → j ≠ 19 → iF2 32 j = iF 32 j) → iF2 32 15 = nI (sC S).length → iF2 32 17 = nI (sr + 1) → iF2 32 19 = nI V2.length → MW (sN S) (sr + 1) V2 (aI2 41) (aI2 42) → (∀ i, i < (sC S).length → aI2 40 i = nI (rk (sN S) (plr S i))) → (∀ x, x ∈ V2 ↔ (x ∈ V ∨ (x = hdx (sN S) (plr S a) (plr S b) ∧ dg x 0 = 0))) → ∃ n', n' < 100 * (41 - a) - 1 - b ∧ ((∃ a' w V iF' aI', 20 = 10 ∧ [Value.ref 32, .int (nI a), .int (nI b + 1)] = [.ref 32, .int (nI a'), w] ∧ ([] : List Value) = [] ∧ Mg L iF2 aI2 aL = Mg L iF' aI' aL ∧ n' = 100 * (41 - a') ∧ a' ≤ (sC S).length ∧ agS aI aI' ∧ (∀ k, k ≠ 32 → iF' k = iF k) ∧ (∀ j, j ≠ 15 → j ≠ 17 → j ≠ 19 → iF' 32 j = iF 32 j) ∧ iF' 32 15 = nI (sC S).length ∧ iF' 32 17 = nI (sr + 1) ∧ iF' 32 19 = nI V.length ∧ MW (sN S) (sr + 1) V (aI' 41) (aI' 42) ∧ (∀ i, i < (sC S).length → aI' 40 i = nI (rk (sN S) (plr S i))) ∧ (∀ x, x ∈ V ↔ ∃ i j, i < a' ∧ j < (sC S).length ∧ x = hdx (sN S) (plr S i) (plr S j) ∧ dg x 0 = 0))
      ∨ (∃ a' b' V iF' aI', 20 = 20 ∧ [Value.ref 32, .int (nI a), .int (nI b + 1)] = [.ref 32, .int (nI a'), .int (nI b')] ∧ ([] : List Value) = [] ∧ Mg L iF2 aI2 aL = Mg L iF' aI' aL ∧ n' = 100 * (41 - a') - 1 - b' ∧ a' < (sC S).length ∧ b' ≤ (sC S).length ∧ agS aI aI' ∧ (∀ k, k ≠ 32 → iF' k = iF k) ∧ (∀ j, j ≠ 15 → j ≠ 17 → j ≠ 19 → iF' 32 j = iF 32 j) ∧ iF' 32 15 = nI (sC S).length ∧ iF' 32 17 = nI (sr + 1) ∧ iF' 32 19 = nI V.length ∧ MW (sN S) (sr + 1) V (aI' 41) (aI' 42) ∧ (∀ i, i < (sC S).length → aI' 40 i = nI (rk (sN S) (plr S i))) ∧ (∀ x, x ∈ V ↔ ∃ i j, (i < a' ∨ (i = a' ∧ j < b')) ∧ j < (sC S).length ∧ x = hdx (sN S) (plr S i) (plr S j) ∧ dg x 0 = 0))) := by
          intro iF2 aI2 V2 k1 k2 k3 k4 k5 k6 k7 k8 k9
          refine ⟨100 * (41 - a) - 1 - (b + 1), by omega, Or.inr ⟨a, b + 1, V2, iF2, aI2, rfl, by rw [nI_1], rfl, rfl, rfl, by omega, by omega, k1, k2, k3, k4, k5, k6, k7, k8, fun x => (k9 x).trans ⟨?_, ?_⟩⟩⟩
          · rintro (hx | ⟨hx, h0⟩)
            · obtain ⟨i, j, h1, h2, h3⟩ := (g9 x).mp hx
              exact ⟨i, j, by omega, h2, h3⟩
            · exact ⟨a, b, Or.inr ⟨rfl, by omega⟩, by omega, hx, h0⟩
          · rintro ⟨i, j, h1, h2, h3, h4⟩
            by_cases hij : i = a ∧ j = b
            · obtain ⟨rfl, rfl⟩ := hij
              exact Or.inr ⟨h3, h4⟩
            · exact Or.inl ((g9 x).mpr ⟨i, j, by omega, h2, h3, h4⟩)
        refine And.intro (fun h1 => ?_) (fun h1 => ?_)
        · have h1 : ¬ f 1 = 1 := h1
          rw [e1] at h1
          have h1 : dg (hdx (sN S) (plr S a) (plr S b)) 0 ≠ 0 := fun z => h1 (by rw [z]; rfl)
          refine nxt iF' (scr aI' f u o w) V gs g2 g3 g4 g5 g6 ?_ ?_ (fun x => ⟨Or.inl, ?_⟩)
          · rw [scr_n (by decide), scr_n (by decide)]; exact g7
          · intro i hi; rw [scr_n (by decide)]; exact g8 i hi
          · rintro (hx | ⟨rfl, h0⟩)
            · exact hx
            · exact absurd h0 h1
        · have h1 : f 1 = 1 := h1
          rw [e1] at h1
          have h1 : dg (hdx (sN S) (plr S a) (plr S b)) 0 + 1 = 1 := (nI_eq (b := 1) (by omega) (by omega)).mp h1
          have hN2 : scr aI' f u o w 33 0 = nI (sN S) := by rw [scr_n (by decide)]; exact hN
          have g72 : MW (sN S) (sr + 1) V (scr aI' f u o w 41) (scr aI' f u o w 42) := by rw [scr_n (by decide), scr_n (by decide)]; exact g7
          have g82 : ∀ i, i < (sC S).length → scr aI' f u o w 40 i = nI (rk (sN S) (plr S i)) := fun i hi => by rw [scr_n (by decide)]; exact g8 i hi
          refine ⟨L, iF', _, aL, sN S, hdx (sN S) (plr S a) (plr S b), rfl, rfl, hn, hN2, hf, ?_⟩
          refine ⟨L, iF', _, aL, sN S, sr + 1, V, hdx (sN S) (plr S a) (plr S b), rfl, rfl, hn, hsr, y1, g5, g6, g72, fun hv => ?_, fun hv => ?_⟩
          · refine nxt iF' (scr aI' f u o w) V gs g2 g3 g4 g5 g6 g72 g82 (fun x => ⟨Or.inl, ?_⟩)
            rintro (hx | ⟨rfl, h0⟩)
            · exact hx
            · exact hv
          · obtain ⟨hM2, hlt⟩ := g72.add hn y1 hv
            refine nxt _ _ (V ++ [hdx (sN S) (plr S a) (plr S b)]) ((gs.up (by omega)).up (by omega)) (fun k hk => ?_) (fun j j1 j2 j3 => ?_) ?_ ?_ ?_ hM2 g82 (fun x => ?_)
            · show up1 iF' 32 _ k = _
              rw [up1_n _ _ hk]; exact g2 k hk
            · show up1 iF' 32 (up1 (iF' 32) 19 _) 32 j = _
              rw [up1_s, up1_n _ _ j3]; exact g3 j j1 j2 j3
            · show up1 iF' 32 (up1 (iF' 32) 19 _) 32 15 = _
              rw [up1_s, up1_n _ _ (by decide)]; exact g4
            · show up1 iF' 32 (up1 (iF' 32) 19 _) 32 17 = _
              rw [up1_s, up1_n _ _ (by decide)]; exact g5
            · show up1 iF' 32 (up1 (iF' 32) 19 (nI (V.length + 1))) 32 19 = _
              rw [up1_s, up1_s, List.length_append]
              rfl
            · rw [List.mem_append, List.mem_singleton]
              constructor
              · rintro (hx | rfl)
                · exact Or.inl hx
                · exact Or.inr ⟨rfl, by omega⟩
              · rintro (hx | ⟨rfl, -⟩)
                · exact Or.inl hx
                · exact Or.inr rfl
end
