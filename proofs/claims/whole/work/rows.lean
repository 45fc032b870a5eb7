section
-- ===== PART A: goes FIRST, ahead of the names: the tables' words, and 'selects' of the private methods out of them =====
/-- a private method of a class that the tables say can be made, by its rows of tables_1 -/
def lw_okq (q : MethodName × Nat) : Prop := (q.1.cls ≠ "java/lang/invoke/MethodHandle" ∧ q.1.cls ≠ "java/lang/invoke/VarHandle") ∧ Cond.instantiable q.1.cls q.2 ∈ tables_1 ∧ Cond.privateMethod q.1 ∈ tables_1 ∧ Cond.instanceMethod q.1 ∈ tables_1
theorem lw_p0 : lw_okq (⟨"TwoViews$Answers", "addUnpinned", "(I)V"⟩, 10) := ⟨⟨by decide +kernel, by decide +kernel⟩, List.mem_of_getElem? (i := 80) (by decide +kernel), List.mem_of_getElem? (i := 264) (by decide +kernel), List.mem_of_getElem? (i := 265) (by decide +kernel)⟩
theorem lw_p1 : lw_okq (⟨"TwoViews$Answers", "narrowTo", "(LTwoViews$Sheet;)V"⟩, 10) := ⟨⟨by decide +kernel, by decide +kernel⟩, List.mem_of_getElem? (i := 80) (by decide +kernel), List.mem_of_getElem? (i := 276) (by decide +kernel), List.mem_of_getElem? (i := 277) (by decide +kernel)⟩
theorem lw_p2 : lw_okq (⟨"TwoViews$Letters", "letterAt", "(I)I"⟩, 3) := ⟨⟨by decide +kernel, by decide +kernel⟩, List.mem_of_getElem? (i := 140) (by decide +kernel), List.mem_of_getElem? (i := 345) (by decide +kernel), List.mem_of_getElem? (i := 346) (by decide +kernel)⟩
theorem lw_p3 : lw_okq (⟨"TwoViews$Letters", "figureAt", "(III)I"⟩, 3) := ⟨⟨by decide +kernel, by decide +kernel⟩, List.mem_of_getElem? (i := 140) (by decide +kernel), List.mem_of_getElem? (i := 349) (by decide +kernel), List.mem_of_getElem? (i := 350) (by decide +kernel)⟩
theorem lw_p4 : lw_okq (⟨"TwoViews$Letters", "readPins", "(I)I"⟩, 3) := ⟨⟨by decide +kernel, by decide +kernel⟩, List.mem_of_getElem? (i := 140) (by decide +kernel), List.mem_of_getElem? (i := 370) (by decide +kernel), List.mem_of_getElem? (i := 371) (by decide +kernel)⟩
theorem lw_p5 : lw_okq (⟨"TwoViews$Filling", "orderRows", "(LTwoViews$Sheet;)V"⟩, 2) := ⟨⟨by decide +kernel, by decide +kernel⟩, List.mem_of_getElem? (i := 180) (by decide +kernel), List.mem_of_getElem? (i := 450) (by decide +kernel), List.mem_of_getElem? (i := 451) (by decide +kernel)⟩
theorem lw_p6 : lw_okq (⟨"TwoViews$Filling", "chooseColumns", "(LTwoViews$Sheet;I)I"⟩, 2) := ⟨⟨by decide +kernel, by decide +kernel⟩, List.mem_of_getElem? (i := 180) (by decide +kernel), List.mem_of_getElem? (i := 469) (by decide +kernel), List.mem_of_getElem? (i := 470) (by decide +kernel)⟩
theorem lw_p7 : lw_okq (⟨"TwoViews$Sheet", "firstColumn", "(I)I"⟩, 7) := ⟨⟨by decide +kernel, by decide +kernel⟩, List.mem_of_getElem? (i := 29) (by decide +kernel), List.mem_of_getElem? (i := 621) (by decide +kernel), List.mem_of_getElem? (i := 622) (by decide +kernel)⟩
theorem lw_p8 : lw_okq (⟨"TwoViews$Walk", "reach", "(LTwoViews$Board;II)V"⟩, 5) := ⟨⟨by decide +kernel, by decide +kernel⟩, List.mem_of_getElem? (i := 193) (by decide +kernel), List.mem_of_getElem? (i := 633) (by decide +kernel), List.mem_of_getElem? (i := 634) (by decide +kernel)⟩
theorem lw_p9 : lw_okq (⟨"TwoViews$Walk", "reachAround", "(LTwoViews$Board;I)V"⟩, 5) := ⟨⟨by decide +kernel, by decide +kernel⟩, List.mem_of_getElem? (i := 193) (by decide +kernel), List.mem_of_getElem? (i := 638) (by decide +kernel), List.mem_of_getElem? (i := 639) (by decide +kernel)⟩
theorem lw_p10 : lw_okq (⟨"TwoViews$Walk", "reachByRows", "(LTwoViews$Board;III)V"⟩, 5) := ⟨⟨by decide +kernel, by decide +kernel⟩, List.mem_of_getElem? (i := 193) (by decide +kernel), List.mem_of_getElem? (i := 642) (by decide +kernel), List.mem_of_getElem? (i := 643) (by decide +kernel)⟩
theorem lw_p11 : lw_okq (⟨"TwoViews$Board", "tellingApart", "(I)I"⟩, 2) := ⟨⟨by decide +kernel, by decide +kernel⟩, List.mem_of_getElem? (i := 23) (by decide +kernel), List.mem_of_getElem? (i := 665) (by decide +kernel), List.mem_of_getElem? (i := 666) (by decide +kernel)⟩
theorem lw_p12 : lw_okq (⟨"TwoViews$Board", "findKeyOfTwo", "()I"⟩, 2) := ⟨⟨by decide +kernel, by decide +kernel⟩, List.mem_of_getElem? (i := 23) (by decide +kernel), List.mem_of_getElem? (i := 672) (by decide +kernel), List.mem_of_getElem? (i := 673) (by decide +kernel)⟩
theorem lw_p13 : lw_okq (⟨"TwoViews$Board", "findKeyOfThree", "()I"⟩, 2) := ⟨⟨by decide +kernel, by decide +kernel⟩, List.mem_of_getElem? (i := 23) (by decide +kernel), List.mem_of_getElem? (i := 678) (by decide +kernel), List.mem_of_getElem? (i := 679) (by decide +kernel)⟩
theorem lw_p14 : lw_okq (⟨"TwoViews$Board", "takesSwitch", "(IIII)Z"⟩, 2) := ⟨⟨by decide +kernel, by decide +kernel⟩, List.mem_of_getElem? (i := 23) (by decide +kernel), List.mem_of_getElem? (i := 692) (by decide +kernel), List.mem_of_getElem? (i := 693) (by decide +kernel)⟩
theorem lw_p15 : lw_okq (⟨"TwoViews$Board", "takesPin", "(II)Z"⟩, 2) := ⟨⟨by decide +kernel, by decide +kernel⟩, List.mem_of_getElem? (i := 23) (by decide +kernel), List.mem_of_getElem? (i := 698) (by decide +kernel), List.mem_of_getElem? (i := 699) (by decide +kernel)⟩
def lw_privs_1 : List (MethodName × Nat) := [(⟨"TwoViews$Answers", "addUnpinned", "(I)V"⟩, 10), (⟨"TwoViews$Answers", "narrowTo", "(LTwoViews$Sheet;)V"⟩, 10), (⟨"TwoViews$Letters", "letterAt", "(I)I"⟩, 3), (⟨"TwoViews$Letters", "figureAt", "(III)I"⟩, 3), (⟨"TwoViews$Letters", "readPins", "(I)I"⟩, 3), (⟨"TwoViews$Filling", "orderRows", "(LTwoViews$Sheet;)V"⟩, 2), (⟨"TwoViews$Filling", "chooseColumns", "(LTwoViews$Sheet;I)I"⟩, 2), (⟨"TwoViews$Sheet", "firstColumn", "(I)I"⟩, 7), (⟨"TwoViews$Walk", "reach", "(LTwoViews$Board;II)V"⟩, 5), (⟨"TwoViews$Walk", "reachAround", "(LTwoViews$Board;I)V"⟩, 5), (⟨"TwoViews$Walk", "reachByRows", "(LTwoViews$Board;III)V"⟩, 5), (⟨"TwoViews$Board", "tellingApart", "(I)I"⟩, 2), (⟨"TwoViews$Board", "findKeyOfTwo", "()I"⟩, 2), (⟨"TwoViews$Board", "findKeyOfThree", "()I"⟩, 2), (⟨"TwoViews$Board", "takesSwitch", "(IIII)Z"⟩, 2), (⟨"TwoViews$Board", "takesPin", "(II)Z"⟩, 2)]
theorem lw_r1 : ∀ q ∈ lw_privs_1, lw_okq q := List.forall_mem_cons.mpr ⟨lw_p0, List.forall_mem_cons.mpr ⟨lw_p1, List.forall_mem_cons.mpr ⟨lw_p2, List.forall_mem_cons.mpr ⟨lw_p3, List.forall_mem_cons.mpr ⟨lw_p4, List.forall_mem_cons.mpr ⟨lw_p5, List.forall_mem_cons.mpr ⟨lw_p6, List.forall_mem_cons.mpr ⟨lw_p7, List.forall_mem_cons.mpr ⟨lw_p8, List.forall_mem_cons.mpr ⟨lw_p9, List.forall_mem_cons.mpr ⟨lw_p10, List.forall_mem_cons.mpr ⟨lw_p11, List.forall_mem_cons.mpr ⟨lw_p12, List.forall_mem_cons.mpr ⟨lw_p13, List.forall_mem_cons.mpr ⟨lw_p14, List.forall_mem_cons.mpr ⟨lw_p15, fun _ h => absurd h List.not_mem_nil⟩⟩⟩⟩⟩⟩⟩⟩⟩⟩⟩⟩⟩⟩⟩⟩
theorem lw_p16 : lw_okq (⟨"TwoViews$Board", "takesTotal", "(III)Z"⟩, 2) := ⟨⟨by decide +kernel, by decide +kernel⟩, List.mem_of_getElem? (i := 23) (by decide +kernel), List.mem_of_getElem? (i := 705) (by decide +kernel), List.mem_of_getElem? (i := 706) (by decide +kernel)⟩
theorem lw_p17 : lw_okq (⟨"TwoViews$PinSets", "listPins", "(LTwoViews$Sheet;)V"⟩, 4) := ⟨⟨by decide +kernel, by decide +kernel⟩, List.mem_of_getElem? (i := 216) (by decide +kernel), List.mem_of_getElem? (i := 733) (by decide +kernel), List.mem_of_getElem? (i := 734) (by decide +kernel)⟩
theorem lw_p18 : lw_okq (⟨"TwoViews$PinSets", "brokenBy", "(LTwoViews$Sheet;I)I"⟩, 4) := ⟨⟨by decide +kernel, by decide +kernel⟩, List.mem_of_getElem? (i := 216) (by decide +kernel), List.mem_of_getElem? (i := 739) (by decide +kernel), List.mem_of_getElem? (i := 740) (by decide +kernel)⟩
theorem lw_p19 : lw_okq (⟨"TwoViews", "drawSwitch", "(II)I"⟩, 13) := ⟨⟨by decide +kernel, by decide +kernel⟩, List.mem_of_getElem? (i := 15) (by decide +kernel), List.mem_of_getElem? (i := 776) (by decide +kernel), List.mem_of_getElem? (i := 777) (by decide +kernel)⟩
theorem lw_p20 : lw_okq (⟨"TwoViewsModel", "readSheet", "()I"⟩, 26) := ⟨⟨by decide +kernel, by decide +kernel⟩, List.mem_of_getElem? (i := 800) (by decide +kernel), List.mem_of_getElem? (i := 901) (by decide +kernel), List.mem_of_getElem? (i := 902) (by decide +kernel)⟩
theorem lw_p21 : lw_okq (⟨"TwoViewsModel", "figure", "(III)I"⟩, 26) := ⟨⟨by decide +kernel, by decide +kernel⟩, List.mem_of_getElem? (i := 800) (by decide +kernel), List.mem_of_getElem? (i := 905) (by decide +kernel), List.mem_of_getElem? (i := 906) (by decide +kernel)⟩
theorem lw_p22 : lw_okq (⟨"TwoViewsModel", "readPins", "(I)I"⟩, 26) := ⟨⟨by decide +kernel, by decide +kernel⟩, List.mem_of_getElem? (i := 800) (by decide +kernel), List.mem_of_getElem? (i := 909) (by decide +kernel), List.mem_of_getElem? (i := 910) (by decide +kernel)⟩
theorem lw_p23 : lw_okq (⟨"TwoViewsModel", "settle", "([I)V"⟩, 26) := ⟨⟨by decide +kernel, by decide +kernel⟩, List.mem_of_getElem? (i := 800) (by decide +kernel), List.mem_of_getElem? (i := 929) (by decide +kernel), List.mem_of_getElem? (i := 930) (by decide +kernel)⟩
theorem lw_p24 : lw_okq (⟨"TwoViewsModel", "list", "([IZ)V"⟩, 26) := ⟨⟨by decide +kernel, by decide +kernel⟩, List.mem_of_getElem? (i := 800) (by decide +kernel), List.mem_of_getElem? (i := 933) (by decide +kernel), List.mem_of_getElem? (i := 934) (by decide +kernel)⟩
theorem lw_p25 : lw_okq (⟨"TwoViewsModel", "findMasks", "([IIZ)V"⟩, 26) := ⟨⟨by decide +kernel, by decide +kernel⟩, List.mem_of_getElem? (i := 800) (by decide +kernel), List.mem_of_getElem? (i := 937) (by decide +kernel), List.mem_of_getElem? (i := 938) (by decide +kernel)⟩
theorem lw_p26 : lw_okq (⟨"TwoViewsModel", "place", "(I)I"⟩, 26) := ⟨⟨by decide +kernel, by decide +kernel⟩, List.mem_of_getElem? (i := 800) (by decide +kernel), List.mem_of_getElem? (i := 953) (by decide +kernel), List.mem_of_getElem? (i := 954) (by decide +kernel)⟩
theorem lw_p27 : lw_okq (⟨"TwoViewsModel", "noLine", "(II)Z"⟩, 26) := ⟨⟨by decide +kernel, by decide +kernel⟩, List.mem_of_getElem? (i := 800) (by decide +kernel), List.mem_of_getElem? (i := 961) (by decide +kernel), List.mem_of_getElem? (i := 962) (by decide +kernel)⟩
theorem lw_p28 : lw_okq (⟨"TwoViewsModel", "noCell", "(I)Z"⟩, 26) := ⟨⟨by decide +kernel, by decide +kernel⟩, List.mem_of_getElem? (i := 800) (by decide +kernel), List.mem_of_getElem? (i := 972) (by decide +kernel), List.mem_of_getElem? (i := 973) (by decide +kernel)⟩
theorem lw_p29 : lw_okq (⟨"TwoViewsModel", "fill", "(I)I"⟩, 26) := ⟨⟨by decide +kernel, by decide +kernel⟩, List.mem_of_getElem? (i := 800) (by decide +kernel), List.mem_of_getElem? (i := 993) (by decide +kernel), List.mem_of_getElem? (i := 994) (by decide +kernel)⟩
theorem lw_p30 : lw_okq (⟨"TwoViewsModel", "orderRows", "()V"⟩, 26) := ⟨⟨by decide +kernel, by decide +kernel⟩, List.mem_of_getElem? (i := 800) (by decide +kernel), List.mem_of_getElem? (i := 997) (by decide +kernel), List.mem_of_getElem? (i := 998) (by decide +kernel)⟩
theorem lw_p31 : lw_okq (⟨"TwoViewsModel", "ahead", "(I)I"⟩, 26) := ⟨⟨by decide +kernel, by decide +kernel⟩, List.mem_of_getElem? (i := 800) (by decide +kernel), List.mem_of_getElem? (i := 1001) (by decide +kernel), List.mem_of_getElem? (i := 1002) (by decide +kernel)⟩
def lw_privs_2 : List (MethodName × Nat) := [(⟨"TwoViews$Board", "takesTotal", "(III)Z"⟩, 2), (⟨"TwoViews$PinSets", "listPins", "(LTwoViews$Sheet;)V"⟩, 4), (⟨"TwoViews$PinSets", "brokenBy", "(LTwoViews$Sheet;I)I"⟩, 4), (⟨"TwoViews", "drawSwitch", "(II)I"⟩, 13), (⟨"TwoViewsModel", "readSheet", "()I"⟩, 26), (⟨"TwoViewsModel", "figure", "(III)I"⟩, 26), (⟨"TwoViewsModel", "readPins", "(I)I"⟩, 26), (⟨"TwoViewsModel", "settle", "([I)V"⟩, 26), (⟨"TwoViewsModel", "list", "([IZ)V"⟩, 26), (⟨"TwoViewsModel", "findMasks", "([IIZ)V"⟩, 26), (⟨"TwoViewsModel", "place", "(I)I"⟩, 26), (⟨"TwoViewsModel", "noLine", "(II)Z"⟩, 26), (⟨"TwoViewsModel", "noCell", "(I)Z"⟩, 26), (⟨"TwoViewsModel", "fill", "(I)I"⟩, 26), (⟨"TwoViewsModel", "orderRows", "()V"⟩, 26), (⟨"TwoViewsModel", "ahead", "(I)I"⟩, 26)]
theorem lw_r2 : ∀ q ∈ lw_privs_2, lw_okq q := List.forall_mem_cons.mpr ⟨lw_p16, List.forall_mem_cons.mpr ⟨lw_p17, List.forall_mem_cons.mpr ⟨lw_p18, List.forall_mem_cons.mpr ⟨lw_p19, List.forall_mem_cons.mpr ⟨lw_p20, List.forall_mem_cons.mpr ⟨lw_p21, List.forall_mem_cons.mpr ⟨lw_p22, List.forall_mem_cons.mpr ⟨lw_p23, List.forall_mem_cons.mpr ⟨lw_p24, List.forall_mem_cons.mpr ⟨lw_p25, List.forall_mem_cons.mpr ⟨lw_p26, List.forall_mem_cons.mpr ⟨lw_p27, List.forall_mem_cons.mpr ⟨lw_p28, List.forall_mem_cons.mpr ⟨lw_p29, List.forall_mem_cons.mpr ⟨lw_p30, List.forall_mem_cons.mpr ⟨lw_p31, fun _ h => absurd h List.not_mem_nil⟩⟩⟩⟩⟩⟩⟩⟩⟩⟩⟩⟩⟩⟩⟩⟩
theorem lw_p32 : lw_okq (⟨"TwoViewsModel", "sure", "([II)I"⟩, 26) := ⟨⟨by decide +kernel, by decide +kernel⟩, List.mem_of_getElem? (i := 800) (by decide +kernel), List.mem_of_getElem? (i := 1021) (by decide +kernel), List.mem_of_getElem? (i := 1022) (by decide +kernel)⟩
theorem lw_p33 : lw_okq (⟨"TwoViewsModel", "yesIn", "([II)I"⟩, 26) := ⟨⟨by decide +kernel, by decide +kernel⟩, List.mem_of_getElem? (i := 800) (by decide +kernel), List.mem_of_getElem? (i := 1025) (by decide +kernel), List.mem_of_getElem? (i := 1026) (by decide +kernel)⟩
theorem lw_p34 : lw_okq (⟨"TwoViewsModel", "note", "()V"⟩, 26) := ⟨⟨by decide +kernel, by decide +kernel⟩, List.mem_of_getElem? (i := 800) (by decide +kernel), List.mem_of_getElem? (i := 1051) (by decide +kernel), List.mem_of_getElem? (i := 1052) (by decide +kernel)⟩
theorem lw_p35 : lw_okq (⟨"TwoViewsModel", "countSwitches", "(I)I"⟩, 26) := ⟨⟨by decide +kernel, by decide +kernel⟩, List.mem_of_getElem? (i := 800) (by decide +kernel), List.mem_of_getElem? (i := 1065) (by decide +kernel), List.mem_of_getElem? (i := 1066) (by decide +kernel)⟩
theorem lw_p36 : lw_okq (⟨"TwoViewsModel", "spread", "()I"⟩, 26) := ⟨⟨by decide +kernel, by decide +kernel⟩, List.mem_of_getElem? (i := 800) (by decide +kernel), List.mem_of_getElem? (i := 1092) (by decide +kernel), List.mem_of_getElem? (i := 1093) (by decide +kernel)⟩
theorem lw_p37 : lw_okq (⟨"TwoViewsModel", "findKey", "()V"⟩, 26) := ⟨⟨by decide +kernel, by decide +kernel⟩, List.mem_of_getElem? (i := 800) (by decide +kernel), List.mem_of_getElem? (i := 1107) (by decide +kernel), List.mem_of_getElem? (i := 1108) (by decide +kernel)⟩
theorem lw_p38 : lw_okq (⟨"TwoViewsModel", "tells", "(I)Z"⟩, 26) := ⟨⟨by decide +kernel, by decide +kernel⟩, List.mem_of_getElem? (i := 800) (by decide +kernel), List.mem_of_getElem? (i := 1111) (by decide +kernel), List.mem_of_getElem? (i := 1112) (by decide +kernel)⟩
theorem lw_p39 : lw_okq (⟨"TwoViewsModel", "cellBit", "(I)I"⟩, 26) := ⟨⟨by decide +kernel, by decide +kernel⟩, List.mem_of_getElem? (i := 800) (by decide +kernel), List.mem_of_getElem? (i := 1115) (by decide +kernel), List.mem_of_getElem? (i := 1116) (by decide +kernel)⟩
theorem lw_p40 : lw_okq (⟨"TwoViewsModel", "does", "(I)Z"⟩, 26) := ⟨⟨by decide +kernel, by decide +kernel⟩, List.mem_of_getElem? (i := 800) (by decide +kernel), List.mem_of_getElem? (i := 1128) (by decide +kernel), List.mem_of_getElem? (i := 1129) (by decide +kernel)⟩
theorem lw_p41 : lw_okq (⟨"TwoViewsModel", "putSwitch", "(IIII)Z"⟩, 26) := ⟨⟨by decide +kernel, by decide +kernel⟩, List.mem_of_getElem? (i := 800) (by decide +kernel), List.mem_of_getElem? (i := 1132) (by decide +kernel), List.mem_of_getElem? (i := 1133) (by decide +kernel)⟩
theorem lw_p42 : lw_okq (⟨"TwoViewsModel", "putPin", "(II)Z"⟩, 26) := ⟨⟨by decide +kernel, by decide +kernel⟩, List.mem_of_getElem? (i := 800) (by decide +kernel), List.mem_of_getElem? (i := 1136) (by decide +kernel), List.mem_of_getElem? (i := 1137) (by decide +kernel)⟩
theorem lw_p43 : lw_okq (⟨"TwoViewsModel", "putTotal", "(III)Z"⟩, 26) := ⟨⟨by decide +kernel, by decide +kernel⟩, List.mem_of_getElem? (i := 800) (by decide +kernel), List.mem_of_getElem? (i := 1140) (by decide +kernel), List.mem_of_getElem? (i := 1141) (by decide +kernel)⟩
theorem lw_p44 : lw_okq (⟨"TwoViewsModel", "agrees", "(I)Z"⟩, 26) := ⟨⟨by decide +kernel, by decide +kernel⟩, List.mem_of_getElem? (i := 800) (by decide +kernel), List.mem_of_getElem? (i := 1157) (by decide +kernel), List.mem_of_getElem? (i := 1158) (by decide +kernel)⟩
theorem lw_p45 : lw_okq (⟨"TwoViewsModel", "weigh", "()I"⟩, 26) := ⟨⟨by decide +kernel, by decide +kernel⟩, List.mem_of_getElem? (i := 800) (by decide +kernel), List.mem_of_getElem? (i := 1165) (by decide +kernel), List.mem_of_getElem? (i := 1166) (by decide +kernel)⟩
theorem lw_p46 : lw_okq (⟨"TwoViewsModel", "listPins", "()I"⟩, 26) := ⟨⟨by decide +kernel, by decide +kernel⟩, List.mem_of_getElem? (i := 800) (by decide +kernel), List.mem_of_getElem? (i := 1169) (by decide +kernel), List.mem_of_getElem? (i := 1170) (by decide +kernel)⟩
theorem lw_p47 : lw_okq (⟨"TwoViewsModel", "holds", "(III)Z"⟩, 26) := ⟨⟨by decide +kernel, by decide +kernel⟩, List.mem_of_getElem? (i := 800) (by decide +kernel), List.mem_of_getElem? (i := 1173) (by decide +kernel), List.mem_of_getElem? (i := 1174) (by decide +kernel)⟩
def lw_privs_3 : List (MethodName × Nat) := [(⟨"TwoViewsModel", "sure", "([II)I"⟩, 26), (⟨"TwoViewsModel", "yesIn", "([II)I"⟩, 26), (⟨"TwoViewsModel", "note", "()V"⟩, 26), (⟨"TwoViewsModel", "countSwitches", "(I)I"⟩, 26), (⟨"TwoViewsModel", "spread", "()I"⟩, 26), (⟨"TwoViewsModel", "findKey", "()V"⟩, 26), (⟨"TwoViewsModel", "tells", "(I)Z"⟩, 26), (⟨"TwoViewsModel", "cellBit", "(I)I"⟩, 26), (⟨"TwoViewsModel", "does", "(I)Z"⟩, 26), (⟨"TwoViewsModel", "putSwitch", "(IIII)Z"⟩, 26), (⟨"TwoViewsModel", "putPin", "(II)Z"⟩, 26), (⟨"TwoViewsModel", "putTotal", "(III)Z"⟩, 26), (⟨"TwoViewsModel", "agrees", "(I)Z"⟩, 26), (⟨"TwoViewsModel", "weigh", "()I"⟩, 26), (⟨"TwoViewsModel", "listPins", "()I"⟩, 26), (⟨"TwoViewsModel", "holds", "(III)Z"⟩, 26)]
theorem lw_r3 : ∀ q ∈ lw_privs_3, lw_okq q := List.forall_mem_cons.mpr ⟨lw_p32, List.forall_mem_cons.mpr ⟨lw_p33, List.forall_mem_cons.mpr ⟨lw_p34, List.forall_mem_cons.mpr ⟨lw_p35, List.forall_mem_cons.mpr ⟨lw_p36, List.forall_mem_cons.mpr ⟨lw_p37, List.forall_mem_cons.mpr ⟨lw_p38, List.forall_mem_cons.mpr ⟨lw_p39, List.forall_mem_cons.mpr ⟨lw_p40, List.forall_mem_cons.mpr ⟨lw_p41, List.forall_mem_cons.mpr ⟨lw_p42, List.forall_mem_cons.mpr ⟨lw_p43, List.forall_mem_cons.mpr ⟨lw_p44, List.forall_mem_cons.mpr ⟨lw_p45, List.forall_mem_cons.mpr ⟨lw_p46, List.forall_mem_cons.mpr ⟨lw_p47, fun _ h => absurd h List.not_mem_nil⟩⟩⟩⟩⟩⟩⟩⟩⟩⟩⟩⟩⟩⟩⟩⟩
theorem lw_p48 : lw_okq (⟨"TwoViewsModel", "openCells", "()I"⟩, 26) := ⟨⟨by decide +kernel, by decide +kernel⟩, List.mem_of_getElem? (i := 800) (by decide +kernel), List.mem_of_getElem? (i := 1211) (by decide +kernel), List.mem_of_getElem? (i := 1212) (by decide +kernel)⟩
def lw_privs_4 : List (MethodName × Nat) := [(⟨"TwoViewsModel", "openCells", "()I"⟩, 26)]
theorem lw_r4 : ∀ q ∈ lw_privs_4, lw_okq q := List.forall_mem_cons.mpr ⟨lw_p48, fun _ h => absurd h List.not_mem_nil⟩
def lw_privs : List (MethodName × Nat) := lw_privs_1 ++ (lw_privs_2 ++ (lw_privs_3 ++ (lw_privs_4)))
def lw_tbl : List Cond := k2_sels lw_privs ++ tables_1
theorem lw_privs_ok : ∀ q ∈ lw_privs, lw_okq q := by
  show ∀ q ∈ lw_privs_1 ++ (lw_privs_2 ++ (lw_privs_3 ++ (lw_privs_4))), lw_okq q
  exact List.forall_mem_append.mpr ⟨lw_r1, List.forall_mem_append.mpr ⟨lw_r2, List.forall_mem_append.mpr ⟨lw_r3, lw_r4⟩⟩⟩
end
section
/-! ===== BEGIN words of one list among another's, by their places ===== -/
theorem goodIn_r {big : List Cond} (ws : List Cond) (ps : List Nat) (hp : ws = ps.filterMap (fun i => big[i]?)) (h : ws.all goodWord = true) : GoodIn big ws := by
  intro w hw
  have h1 := List.all_eq_true.mp h w hw
  rw [hp] at hw
  obtain ⟨i, -, hi⟩ := List.mem_filterMap.mp hw
  have hm : w ∈ big := by first | exact List.mem_of_getElem? hi | exact List.getElem?_mem hi
  exact ⟨hm, good_of_word h1⟩
theorem goodIn_app {big a b : List Cond} (ha : GoodIn big a) (hb : GoodIn big b) : GoodIn big (a ++ b) := fun w h => (List.mem_append.mp h).elim (ha w) (hb w)
theorem goodIn_ca {big a b : List Cond} {c : Cond} (ha : GoodIn big (c :: a)) (hb : GoodIn big b) : GoodIn big (c :: (a ++ b)) := fun w h => (List.mem_cons.mp h).elim (fun e => ha w (List.mem_cons.mpr (Or.inl e))) (fun h => (List.mem_append.mp h).elim (fun h => ha w (List.mem_cons.mpr (Or.inr h))) (hb w))
theorem goodIn_sub {big ws : List Cond} (hm : ∀ w ∈ ws, w ∈ big) (h : ws.all goodWord = true) : GoodIn big ws := fun w hw => ⟨hm w hw, good_of_word (List.all_eq_true.mp h w hw)⟩
/-! ===== END ===== -/

/-! ===== BEGIN printed: names, fields, word lists, decode rows ===== -/
def RX0 : String := "TwoViews$Acts"
def TX0 : u_T := fun k => match k with
  | 0 => ("TwoViews$Acts", "before", "[LTwoViews$Sheet;", true)
  | 1 => ("TwoViews$Acts", "next", "I", false)
  | _ => ("TwoViews$Acts", "length", "I", false)
def tyX0 : Nat → FieldType := fun k => match k with
  | 0 => .array (.object "TwoViews$Sheet")
  | 1 => .int
  | _ => .int
theorem nmX0 : ∀ a, a < 3 → ∀ b, b < 3 → a ≠ b → (TX0 a).2.1 ≠ (TX0 b).2.1 := by decide +kernel
theorem tyX0_ok : ∀ k, k < 3 → parseFieldDescriptor (TX0 k).2.2.1 = some (tyX0 k) := by decide +kernel
abbrev cX0_init : ByteArray := prog_2_method_1_code
def yX0_init : MethodName := ⟨RX0, "<init>", "()V"⟩
abbrev cX0_add : ByteArray := prog_2_method_2_code
def yX0_add : MethodName := ⟨RX0, "add", "(LTwoViews$Sheet;)V"⟩
abbrev cX0_takeBack : ByteArray := prog_2_method_3_code
def yX0_takeBack : MethodName := ⟨RX0, "takeBack", "(LTwoViews$Sheet;)V"⟩
def RX1 : String := "TwoViews$Answers"
def TX1 : u_T := fun k => match k with
  | 0 => ("TwoViews$Answers", "unpinned", "[I", true)
  | 1 => ("TwoViews$Answers", "unpinnedSize", "I", false)
  | 2 => ("TwoViews$Answers", "planes", "[I", true)
  | 3 => ("TwoViews$Answers", "size", "I", false)
  | 4 => ("TwoViews$Answers", "edition", "I", false)
  | 5 => ("TwoViews$Answers", "always", "I", false)
  | 6 => ("TwoViews$Answers", "ever", "I", false)
  | 7 => ("TwoViews$Answers", "listedTotals", "J", false)
  | 8 => ("TwoViews$Answers", "listedPinned", "I", false)
  | _ => ("TwoViews$Answers", "listedYes", "I", false)
def tyX1 : Nat → FieldType := fun k => match k with
  | 0 => .array .int
  | 1 => .int
  | 2 => .array .int
  | 3 => .int
  | 4 => .int
  | 5 => .int
  | 6 => .int
  | 7 => .long
  | 8 => .int
  | _ => .int
theorem nmX1 : ∀ a, a < 10 → ∀ b, b < 10 → a ≠ b → (TX1 a).2.1 ≠ (TX1 b).2.1 := by decide +kernel
theorem tyX1_ok : ∀ k, k < 10 → parseFieldDescriptor (TX1 k).2.2.1 = some (tyX1 k) := by decide +kernel
abbrev cX1_init : ByteArray := prog_3_method_1_code
def yX1_init : MethodName := ⟨RX1, "<init>", "()V"⟩
abbrev cX1_listFor : ByteArray := prog_3_method_2_code
def yX1_listFor : MethodName := ⟨RX1, "listFor", "(LTwoViews$Sheet;)V"⟩
abbrev cX1_columnsWith : ByteArray := prog_3_method_3_code
def yX1_columnsWith : MethodName := ⟨RX1, "columnsWith", "(LTwoViews$Sheet;I)I"⟩
abbrev cX1_addFrom : ByteArray := prog_3_method_4_code
def yX1_addFrom : MethodName := ⟨RX1, "addFrom", "(LTwoViews$Answers;LTwoViews$Sheet;IIIII)V"⟩
abbrev cX1_addUnpinned : ByteArray := prog_3_method_5_code
def yX1_addUnpinned : MethodName := ⟨RX1, "addUnpinned", "(I)V"⟩
abbrev cX1_narrowTo : ByteArray := prog_3_method_6_code
def yX1_narrowTo : MethodName := ⟨RX1, "narrowTo", "(LTwoViews$Sheet;)V"⟩
abbrev cX1_numberOf : ByteArray := prog_3_method_7_code
def yX1_numberOf : MethodName := ⟨RX1, "numberOf", "(I)I"⟩
abbrev cX1_openCells : ByteArray := prog_3_method_8_code
def yX1_openCells : MethodName := ⟨RX1, "openCells", "()I"⟩
abbrev cX1_sureAt : ByteArray := prog_3_method_9_code
def yX1_sureAt : MethodName := ⟨RX1, "sureAt", "(I)I"⟩
abbrev cX1_yesAt : ByteArray := prog_3_method_10_code
def yX1_yesAt : MethodName := ⟨RX1, "yesAt", "(I)I"⟩
def RX2 : String := "TwoViews$Board"
def TX2 : u_T := fun k => match k with
  | 0 => ("TwoViews$Board", "sheet", "LTwoViews$Sheet;", true)
  | _ => ("TwoViews$Board", "list", "LTwoViews$Answers;", true)
def tyX2 : Nat → FieldType := fun k => match k with
  | 0 => .object "TwoViews$Sheet"
  | _ => .object "TwoViews$Answers"
theorem nmX2 : ∀ a, a < 2 → ∀ b, b < 2 → a ≠ b → (TX2 a).2.1 ≠ (TX2 b).2.1 := by decide +kernel
theorem tyX2_ok : ∀ k, k < 2 → parseFieldDescriptor (TX2 k).2.2.1 = some (tyX2 k) := by decide +kernel
abbrev cX2_init : ByteArray := prog_4_method_1_code
def yX2_init : MethodName := ⟨RX2, "<init>", "()V"⟩
abbrev cX2_settle : ByteArray := prog_4_method_2_code
def yX2_settle : MethodName := ⟨RX2, "settle", "()V"⟩
abbrev cX2_planeAt : ByteArray := prog_4_method_3_code
def yX2_planeAt : MethodName := ⟨RX2, "planeAt", "(I)I"⟩
abbrev cX2_switchRefusal : ByteArray := prog_4_method_4_code
def yX2_switchRefusal : MethodName := ⟨RX2, "switchRefusal", "(IIII)I"⟩
abbrev cX2_makeSwitch : ByteArray := prog_4_method_5_code
def yX2_makeSwitch : MethodName := ⟨RX2, "makeSwitch", "(IIII)V"⟩
abbrev cX2_totalRefusal : ByteArray := prog_4_method_6_code
def yX2_totalRefusal : MethodName := ⟨RX2, "totalRefusal", "(III)I"⟩
abbrev cX2_pinRefusal : ByteArray := prog_4_method_7_code
def yX2_pinRefusal : MethodName := ⟨RX2, "pinRefusal", "(II)I"⟩
abbrev cX2_takes : ByteArray := prog_4_method_8_code
def yX2_takes : MethodName := ⟨RX2, "takes", "(I)Z"⟩
abbrev cX2_takesSwitch : ByteArray := prog_4_method_9_code
def yX2_takesSwitch : MethodName := ⟨RX2, "takesSwitch", "(IIII)Z"⟩
abbrev cX2_takesPin : ByteArray := prog_4_method_10_code
def yX2_takesPin : MethodName := ⟨RX2, "takesPin", "(II)Z"⟩
abbrev cX2_takesTotal : ByteArray := prog_4_method_11_code
def yX2_takesTotal : MethodName := ⟨RX2, "takesTotal", "(III)Z"⟩
abbrev cX2_findKey : ByteArray := prog_4_method_12_code
def yX2_findKey : MethodName := ⟨RX2, "findKey", "()I"⟩
abbrev cX2_findKeyOfTwo : ByteArray := prog_4_method_13_code
def yX2_findKeyOfTwo : MethodName := ⟨RX2, "findKeyOfTwo", "()I"⟩
abbrev cX2_findKeyOfThree : ByteArray := prog_4_method_14_code
def yX2_findKeyOfThree : MethodName := ⟨RX2, "findKeyOfThree", "()I"⟩
abbrev cX2_tellingApart : ByteArray := prog_4_method_15_code
def yX2_tellingApart : MethodName := ⟨RX2, "tellingApart", "(I)I"⟩
def RX3 : String := "TwoViews$Filling"
def TX3 : u_T := fun k => match k with
  | 0 => ("TwoViews$Filling", "order", "[I", true)
  | _ => ("TwoViews$Filling", "lack", "[I", true)
def tyX3 : Nat → FieldType := fun k => match k with
  | 0 => .array .int
  | _ => .array .int
theorem nmX3 : ∀ a, a < 2 → ∀ b, b < 2 → a ≠ b → (TX3 a).2.1 ≠ (TX3 b).2.1 := by decide +kernel
theorem tyX3_ok : ∀ k, k < 2 → parseFieldDescriptor (TX3 k).2.2.1 = some (tyX3 k) := by decide +kernel
abbrev cX3_init : ByteArray := prog_5_method_1_code
def yX3_init : MethodName := ⟨RX3, "<init>", "()V"⟩
abbrev cX3_failsAt : ByteArray := prog_5_method_2_code
def yX3_failsAt : MethodName := ⟨RX3, "failsAt", "(LTwoViews$Sheet;)I"⟩
abbrev cX3_roomOf : ByteArray := prog_5_method_3_code
def yX3_roomOf : MethodName := ⟨RX3, "roomOf", "(LTwoViews$Sheet;I)I"⟩
abbrev cX3_orderRows : ByteArray := prog_5_method_4_code
def yX3_orderRows : MethodName := ⟨RX3, "orderRows", "(LTwoViews$Sheet;)V"⟩
abbrev cX3_fill : ByteArray := prog_5_method_5_code
def yX3_fill : MethodName := ⟨RX3, "fill", "(LTwoViews$Sheet;)I"⟩
abbrev cX3_chooseColumns : ByteArray := prog_5_method_6_code
def yX3_chooseColumns : MethodName := ⟨RX3, "chooseColumns", "(LTwoViews$Sheet;I)I"⟩
def RX4 : String := "TwoViews$Letters"
def TX4 : u_T := fun k => match k with
  | 0 => ("TwoViews$Letters", "letters", "[I", true)
  | 1 => ("TwoViews$Letters", "length", "I", false)
  | _ => ("TwoViews$Letters", "draft", "LTwoViews$Sheet;", true)
def tyX4 : Nat → FieldType := fun k => match k with
  | 0 => .array .int
  | 1 => .int
  | _ => .object "TwoViews$Sheet"
theorem nmX4 : ∀ a, a < 3 → ∀ b, b < 3 → a ≠ b → (TX4 a).2.1 ≠ (TX4 b).2.1 := by decide +kernel
theorem tyX4_ok : ∀ k, k < 3 → parseFieldDescriptor (TX4 k).2.2.1 = some (tyX4 k) := by decide +kernel
abbrev cX4_init : ByteArray := prog_6_method_1_code
def yX4_init : MethodName := ⟨RX4, "<init>", "()V"⟩
abbrev cX4_append : ByteArray := prog_6_method_2_code
def yX4_append : MethodName := ⟨RX4, "append", "(I)Z"⟩
abbrev cX4_readSheet : ByteArray := prog_6_method_3_code
def yX4_readSheet : MethodName := ⟨RX4, "readSheet", "()I"⟩
abbrev cX4_readPins : ByteArray := prog_6_method_4_code
def yX4_readPins : MethodName := ⟨RX4, "readPins", "(I)I"⟩
abbrev cX4_letterAt : ByteArray := prog_6_method_5_code
def yX4_letterAt : MethodName := ⟨RX4, "letterAt", "(I)I"⟩
abbrev cX4_figureAt : ByteArray := prog_6_method_6_code
def yX4_figureAt : MethodName := ⟨RX4, "figureAt", "(III)I"⟩
def RX5 : String := "TwoViews$PinSets"
def TX5 : u_T := fun k => match k with
  | 0 => ("TwoViews$PinSets", "cells", "[I", true)
  | 1 => ("TwoViews$PinSets", "breaking", "[I", true)
  | 2 => ("TwoViews$PinSets", "left", "[I", true)
  | _ => ("TwoViews$PinSets", "pins", "I", false)
def tyX5 : Nat → FieldType := fun k => match k with
  | 0 => .array .int
  | 1 => .array .int
  | 2 => .array .int
  | _ => .int
theorem nmX5 : ∀ a, a < 4 → ∀ b, b < 4 → a ≠ b → (TX5 a).2.1 ≠ (TX5 b).2.1 := by decide +kernel
theorem tyX5_ok : ∀ k, k < 4 → parseFieldDescriptor (TX5 k).2.2.1 = some (tyX5 k) := by decide +kernel
abbrev cX5_init : ByteArray := prog_7_method_1_code
def yX5_init : MethodName := ⟨RX5, "<init>", "()V"⟩
abbrev cX5_weigh : ByteArray := prog_7_method_2_code
def yX5_weigh : MethodName := ⟨RX5, "weigh", "(LTwoViews$Board;)V"⟩
abbrev cX5_listPins : ByteArray := prog_7_method_3_code
def yX5_listPins : MethodName := ⟨RX5, "listPins", "(LTwoViews$Sheet;)V"⟩
abbrev cX5_brokenBy : ByteArray := prog_7_method_4_code
def yX5_brokenBy : MethodName := ⟨RX5, "brokenBy", "(LTwoViews$Sheet;I)I"⟩
abbrev cX5_orders : ByteArray := prog_7_method_5_code
def yX5_orders : MethodName := ⟨RX5, "orders", "(I)I"⟩
abbrev cX5_fewerInAllOrders : ByteArray := prog_7_method_6_code
def yX5_fewerInAllOrders : MethodName := ⟨RX5, "fewerInAllOrders", "(I)I"⟩
abbrev cX5_chancesOfOne : ByteArray := prog_7_method_7_code
def yX5_chancesOfOne : MethodName := ⟨RX5, "chancesOfOne", "(I)I"⟩
def RX6 : String := "TwoViews$Sheet"
def TX6 : u_T := fun k => match k with
  | 0 => ("TwoViews$Sheet", "h", "I", false)
  | 1 => ("TwoViews$Sheet", "w", "I", false)
  | 2 => ("TwoViews$Sheet", "rowTotals", "[I", true)
  | 3 => ("TwoViews$Sheet", "columnTotals", "[I", true)
  | 4 => ("TwoViews$Sheet", "pinned", "I", false)
  | 5 => ("TwoViews$Sheet", "pinnedYes", "I", false)
  | _ => ("TwoViews$Sheet", "plane", "I", false)
def tyX6 : Nat → FieldType := fun k => match k with
  | 0 => .int
  | 1 => .int
  | 2 => .array .int
  | 3 => .array .int
  | 4 => .int
  | 5 => .int
  | _ => .int
theorem nmX6 : ∀ a, a < 7 → ∀ b, b < 7 → a ≠ b → (TX6 a).2.1 ≠ (TX6 b).2.1 := by decide +kernel
theorem tyX6_ok : ∀ k, k < 7 → parseFieldDescriptor (TX6 k).2.2.1 = some (tyX6 k) := by decide +kernel
abbrev cX6_init : ByteArray := prog_8_method_1_code
def yX6_init : MethodName := ⟨RX6, "<init>", "()V"⟩
abbrev cX6_become : ByteArray := prog_8_method_2_code
def yX6_become : MethodName := ⟨RX6, "become", "(LTwoViews$Sheet;)V"⟩
abbrev cX6_cells : ByteArray := prog_8_method_3_code
def yX6_cells : MethodName := ⟨RX6, "cells", "()I"⟩
abbrev cX6_hasRow : ByteArray := prog_8_method_4_code
def yX6_hasRow : MethodName := ⟨RX6, "hasRow", "(I)Z"⟩
abbrev cX6_hasColumn : ByteArray := prog_8_method_5_code
def yX6_hasColumn : MethodName := ⟨RX6, "hasColumn", "(I)Z"⟩
abbrev cX6_hasCell : ByteArray := prog_8_method_6_code
def yX6_hasCell : MethodName := ⟨RX6, "hasCell", "(I)Z"⟩
abbrev cX6_totalCount : ByteArray := prog_8_method_7_code
def yX6_totalCount : MethodName := ⟨RX6, "totalCount", "(I)I"⟩
abbrev cX6_hasTotal : ByteArray := prog_8_method_8_code
def yX6_hasTotal : MethodName := ⟨RX6, "hasTotal", "(II)Z"⟩
abbrev cX6_mostTotal : ByteArray := prog_8_method_9_code
def yX6_mostTotal : MethodName := ⟨RX6, "mostTotal", "(I)I"⟩
abbrev cX6_totalOf : ByteArray := prog_8_method_10_code
def yX6_totalOf : MethodName := ⟨RX6, "totalOf", "(II)I"⟩
abbrev cX6_putTotal : ByteArray := prog_8_method_11_code
def yX6_putTotal : MethodName := ⟨RX6, "putTotal", "(III)V"⟩
abbrev cX6_together : ByteArray := prog_8_method_12_code
def yX6_together : MethodName := ⟨RX6, "together", "(I)I"⟩
abbrev cX6_totalsAsNumber : ByteArray := prog_8_method_13_code
def yX6_totalsAsNumber : MethodName := ⟨RX6, "totalsAsNumber", "()J"⟩
abbrev cX6_pinOf : ByteArray := prog_8_method_14_code
def yX6_pinOf : MethodName := ⟨RX6, "pinOf", "(I)I"⟩
abbrev cX6_putPin : ByteArray := prog_8_method_15_code
def yX6_putPin : MethodName := ⟨RX6, "putPin", "(II)V"⟩
abbrev cX6_pinCount : ByteArray := prog_8_method_16_code
def yX6_pinCount : MethodName := ⟨RX6, "pinCount", "()I"⟩
abbrev cX6_bitAt : ByteArray := prog_8_method_17_code
def yX6_bitAt : MethodName := ⟨RX6, "bitAt", "(II)I"⟩
abbrev cX6_placed : ByteArray := prog_8_method_18_code
def yX6_placed : MethodName := ⟨RX6, "placed", "(II)I"⟩
abbrev cX6_columnsOf : ByteArray := prog_8_method_19_code
def yX6_columnsOf : MethodName := ⟨RX6, "columnsOf", "(II)I"⟩
abbrev cX6_giving : ByteArray := prog_8_method_20_code
def yX6_giving : MethodName := ⟨RX6, "giving", "(III)I"⟩
abbrev cX6_isSwitch : ByteArray := prog_8_method_21_code
def yX6_isSwitch : MethodName := ⟨RX6, "isSwitch", "(IIIII)Z"⟩
abbrev cX6_switched : ByteArray := prog_8_method_22_code
def yX6_switched : MethodName := ⟨RX6, "switched", "(IIIII)I"⟩
abbrev cX6_switchCount : ByteArray := prog_8_method_23_code
def yX6_switchCount : MethodName := ⟨RX6, "switchCount", "()I"⟩
abbrev cX6_firstSwitch : ByteArray := prog_8_method_24_code
def yX6_firstSwitch : MethodName := ⟨RX6, "firstSwitch", "()I"⟩
abbrev cX6_firstColumn : ByteArray := prog_8_method_25_code
def yX6_firstColumn : MethodName := ⟨RX6, "firstColumn", "(I)I"⟩
def RX7 : String := "TwoViews$Walk"
def TX7 : u_T := fun k => match k with
  | 0 => ("TwoViews$Walk", "steps", "[I", true)
  | 1 => ("TwoViews$Walk", "queue", "[I", true)
  | 2 => ("TwoViews$Walk", "found", "I", false)
  | 3 => ("TwoViews$Walk", "walkedEdition", "I", false)
  | _ => ("TwoViews$Walk", "walkedPlane", "I", false)
def tyX7 : Nat → FieldType := fun k => match k with
  | 0 => .array .int
  | 1 => .array .int
  | 2 => .int
  | 3 => .int
  | _ => .int
theorem nmX7 : ∀ a, a < 5 → ∀ b, b < 5 → a ≠ b → (TX7 a).2.1 ≠ (TX7 b).2.1 := by decide +kernel
theorem tyX7_ok : ∀ k, k < 5 → parseFieldDescriptor (TX7 k).2.2.1 = some (tyX7 k) := by decide +kernel
abbrev cX7_init : ByteArray := prog_9_method_1_code
def yX7_init : MethodName := ⟨RX7, "<init>", "()V"⟩
abbrev cX7_goFrom : ByteArray := prog_9_method_2_code
def yX7_goFrom : MethodName := ⟨RX7, "goFrom", "(LTwoViews$Board;)V"⟩
abbrev cX7_stepsTo : ByteArray := prog_9_method_3_code
def yX7_stepsTo : MethodName := ⟨RX7, "stepsTo", "(I)I"⟩
abbrev cX7_reach : ByteArray := prog_9_method_4_code
def yX7_reach : MethodName := ⟨RX7, "reach", "(LTwoViews$Board;II)V"⟩
abbrev cX7_reachAround : ByteArray := prog_9_method_5_code
def yX7_reachAround : MethodName := ⟨RX7, "reachAround", "(LTwoViews$Board;I)V"⟩
abbrev cX7_reachByRows : ByteArray := prog_9_method_6_code
def yX7_reachByRows : MethodName := ⟨RX7, "reachByRows", "(LTwoViews$Board;III)V"⟩
def RX8 : String := "TwoViews"
def TX8 : u_T := fun k => match k with
  | 0 => ("TwoViews", "now", "LTwoViews$Board;", true)
  | 1 => ("TwoViews", "trial", "LTwoViews$Board;", true)
  | 2 => ("TwoViews", "text", "LTwoViews$Letters;", true)
  | 3 => ("TwoViews", "acts", "LTwoViews$Acts;", true)
  | 4 => ("TwoViews", "filling", "LTwoViews$Filling;", true)
  | 5 => ("TwoViews", "walk", "LTwoViews$Walk;", true)
  | 6 => ("TwoViews", "pinSets", "LTwoViews$PinSets;", true)
  | 7 => ("TwoViews", "slots", "[LTwoViews$Sheet;", true)
  | 8 => ("TwoViews", "isKept", "[Z", true)
  | 9 => ("TwoViews", "seenYes", "I", false)
  | 10 => ("TwoViews", "seenNo", "I", false)
  | 11 => ("TwoViews", "seenCount", "I", false)
  | _ => ("TwoViews", "theSeed", "J", false)
def tyX8 : Nat → FieldType := fun k => match k with
  | 0 => .object "TwoViews$Board"
  | 1 => .object "TwoViews$Board"
  | 2 => .object "TwoViews$Letters"
  | 3 => .object "TwoViews$Acts"
  | 4 => .object "TwoViews$Filling"
  | 5 => .object "TwoViews$Walk"
  | 6 => .object "TwoViews$PinSets"
  | 7 => .array (.object "TwoViews$Sheet")
  | 8 => .array .boolean
  | 9 => .int
  | 10 => .int
  | 11 => .int
  | _ => .long
theorem nmX8 : ∀ a, a < 13 → ∀ b, b < 13 → a ≠ b → (TX8 a).2.1 ≠ (TX8 b).2.1 := by decide +kernel
theorem tyX8_ok : ∀ k, k < 13 → parseFieldDescriptor (TX8 k).2.2.1 = some (tyX8 k) := by decide +kernel
abbrev cX8_init : ByteArray := prog_1_method_1_code
def yX8_init : MethodName := ⟨RX8, "<init>", "()V"⟩
abbrev cX8_write : ByteArray := prog_1_method_2_code
def yX8_write : MethodName := ⟨RX8, "write", "(I)I"⟩
abbrev cX8_wipe : ByteArray := prog_1_method_3_code
def yX8_wipe : MethodName := ⟨RX8, "wipe", "()I"⟩
abbrev cX8_fault : ByteArray := prog_1_method_4_code
def yX8_fault : MethodName := ⟨RX8, "fault", "()I"⟩
abbrev cX8_sheet : ByteArray := prog_1_method_5_code
def yX8_sheet : MethodName := ⟨RX8, "sheet", "()I"⟩
abbrev cX8_total : ByteArray := prog_1_method_6_code
def yX8_total : MethodName := ⟨RX8, "total", "(II)I"⟩
abbrev cX8_pin : ByteArray := prog_1_method_7_code
def yX8_pin : MethodName := ⟨RX8, "pin", "(I)I"⟩
abbrev cX8_test : ByteArray := prog_1_method_8_code
def yX8_test : MethodName := ⟨RX8, "test", "()I"⟩
abbrev cX8_filled : ByteArray := prog_1_method_9_code
def yX8_filled : MethodName := ⟨RX8, "filled", "(I)I"⟩
abbrev cX8_mended : ByteArray := prog_1_method_10_code
def yX8_mended : MethodName := ⟨RX8, "mended", "(I)I"⟩
abbrev cX8_answers : ByteArray := prog_1_method_11_code
def yX8_answers : MethodName := ⟨RX8, "answers", "()I"⟩
abbrev cX8_cell : ByteArray := prog_1_method_12_code
def yX8_cell : MethodName := ⟨RX8, "cell", "(II)I"⟩
abbrev cX8_odds : ByteArray := prog_1_method_13_code
def yX8_odds : MethodName := ⟨RX8, "odds", "(IZ)I"⟩
abbrev cX8_ask : ByteArray := prog_1_method_14_code
def yX8_ask : MethodName := ⟨RX8, "ask", "(I)I"⟩
abbrev cX8_plane : ByteArray := prog_1_method_15_code
def yX8_plane : MethodName := ⟨RX8, "plane", "()I"⟩
abbrev cX8_go : ByteArray := prog_1_method_16_code
def yX8_go : MethodName := ⟨RX8, "go", "(I)I"⟩
abbrev cX8_swap : ByteArray := prog_1_method_17_code
def yX8_swap : MethodName := ⟨RX8, "swap", "(IIII)I"⟩
abbrev cX8_setTotal : ByteArray := prog_1_method_18_code
def yX8_setTotal : MethodName := ⟨RX8, "setTotal", "(III)I"⟩
abbrev cX8_setPin : ByteArray := prog_1_method_19_code
def yX8_setPin : MethodName := ⟨RX8, "setPin", "(II)I"⟩
abbrev cX8_undo : ByteArray := prog_1_method_20_code
def yX8_undo : MethodName := ⟨RX8, "undo", "()I"⟩
abbrev cX8_switches : ByteArray := prog_1_method_21_code
def yX8_switches : MethodName := ⟨RX8, "switches", "(I)I"⟩
abbrev cX8_reached : ByteArray := prog_1_method_22_code
def yX8_reached : MethodName := ⟨RX8, "reached", "()I"⟩
abbrev cX8_apart : ByteArray := prog_1_method_23_code
def yX8_apart : MethodName := ⟨RX8, "apart", "(I)I"⟩
abbrev cX8_key : ByteArray := prog_1_method_24_code
def yX8_key : MethodName := ⟨RX8, "key", "(I)I"⟩
abbrev cX8_judge : ByteArray := prog_1_method_25_code
def yX8_judge : MethodName := ⟨RX8, "judge", "(IJ)I"⟩
abbrev cX8_see : ByteArray := prog_1_method_26_code
def yX8_see : MethodName := ⟨RX8, "see", "(II)I"⟩
abbrev cX8_unsee : ByteArray := prog_1_method_27_code
def yX8_unsee : MethodName := ⟨RX8, "unsee", "()I"⟩
abbrev cX8_which : ByteArray := prog_1_method_28_code
def yX8_which : MethodName := ⟨RX8, "which", "(I)I"⟩
abbrev cX8_share : ByteArray := prog_1_method_29_code
def yX8_share : MethodName := ⟨RX8, "share", "(IZ)I"⟩
abbrev cX8_loose : ByteArray := prog_1_method_30_code
def yX8_loose : MethodName := ⟨RX8, "loose", "(IZ)I"⟩
abbrev cX8_seed : ByteArray := prog_1_method_31_code
def yX8_seed : MethodName := ⟨RX8, "seed", "(J)J"⟩
abbrev cX8_drawn : ByteArray := prog_1_method_32_code
def yX8_drawn : MethodName := ⟨RX8, "drawn", "(I)I"⟩
abbrev cX8_drawSwitch : ByteArray := prog_1_method_33_code
def yX8_drawSwitch : MethodName := ⟨RX8, "drawSwitch", "(II)I"⟩
abbrev cX8_keep : ByteArray := prog_1_method_34_code
def yX8_keep : MethodName := ⟨RX8, "keep", "(I)I"⟩
abbrev cX8_again : ByteArray := prog_1_method_35_code
def yX8_again : MethodName := ⟨RX8, "again", "(I)I"⟩
abbrev cX8_count : ByteArray := prog_1_method_36_code
def yX8_count : MethodName := ⟨RX8, "count", "(I)I"⟩
abbrev cX8_bitOf : ByteArray := prog_1_method_37_code
def yX8_bitOf : MethodName := ⟨RX8, "bitOf", "(I)I"⟩
abbrev cX8_columnBit : ByteArray := prog_1_method_38_code
def yX8_columnBit : MethodName := ⟨RX8, "columnBit", "(I)I"⟩
abbrev cX8_yesIn : ByteArray := prog_1_method_39_code
def yX8_yesIn : MethodName := ⟨RX8, "yesIn", "(II)I"⟩
abbrev cX8_leastCell : ByteArray := prog_1_method_40_code
def yX8_leastCell : MethodName := ⟨RX8, "leastCell", "(I)I"⟩
abbrev cX8_remainder : ByteArray := prog_1_method_41_code
def yX8_remainder : MethodName := ⟨RX8, "remainder", "(II)I"⟩
abbrev cX8_power : ByteArray := prog_1_method_42_code
def yX8_power : MethodName := ⟨RX8, "power", "(II)I"⟩
abbrev cX8_inLeastTerms : ByteArray := prog_1_method_43_code
def yX8_inLeastTerms : MethodName := ⟨RX8, "inLeastTerms", "(IIZ)I"⟩
abbrev cX8_greatestDivisor : ByteArray := prog_1_method_44_code
def yX8_greatestDivisor : MethodName := ⟨RX8, "greatestDivisor", "(II)I"⟩
def RX9 : String := "TwoViewsModel"
def TX9 : u_T := fun k => match k with
  | 0 => ("TwoViewsModel", "thrown", "I", false)
  | 1 => ("TwoViewsModel", "text", "[I", true)
  | 2 => ("TwoViewsModel", "textSize", "I", false)
  | 3 => ("TwoViewsModel", "readPage", "[I", true)
  | 4 => ("TwoViewsModel", "page", "[I", true)
  | 5 => ("TwoViewsModel", "trial", "[I", true)
  | 6 => ("TwoViewsModel", "book", "[I", true)
  | 7 => ("TwoViewsModel", "doings", "I", false)
  | 8 => ("TwoViewsModel", "kept", "[I", true)
  | 9 => ("TwoViewsModel", "isKept", "[Z", true)
  | 10 => ("TwoViewsModel", "seen", "I", false)
  | 11 => ("TwoViewsModel", "seenCell", "[I", true)
  | 12 => ("TwoViewsModel", "seenIs", "[I", true)
  | 13 => ("TwoViewsModel", "seed", "J", false)
  | 14 => ("TwoViewsModel", "mask", "[I", true)
  | 15 => ("TwoViewsModel", "masks", "[I", true)
  | 16 => ("TwoViewsModel", "all", "[I", true)
  | 17 => ("TwoViewsModel", "many", "I", false)
  | 18 => ("TwoViewsModel", "steps", "[I", true)
  | 19 => ("TwoViewsModel", "line", "[I", true)
  | 20 => ("TwoViewsModel", "order", "[I", true)
  | 21 => ("TwoViewsModel", "lack", "[I", true)
  | 22 => ("TwoViewsModel", "kinds", "[I", true)
  | 23 => ("TwoViewsModel", "worth", "[I", true)
  | 24 => ("TwoViewsModel", "keySize", "I", false)
  | _ => ("TwoViewsModel", "keyCells", "I", false)
def tyX9 : Nat → FieldType := fun k => match k with
  | 0 => .int
  | 1 => .array .int
  | 2 => .int
  | 3 => .array .int
  | 4 => .array .int
  | 5 => .array .int
  | 6 => .array .int
  | 7 => .int
  | 8 => .array .int
  | 9 => .array .boolean
  | 10 => .int
  | 11 => .array .int
  | 12 => .array .int
  | 13 => .long
  | 14 => .array .int
  | 15 => .array .int
  | 16 => .array .int
  | 17 => .int
  | 18 => .array .int
  | 19 => .array .int
  | 20 => .array .int
  | 21 => .array .int
  | 22 => .array .int
  | 23 => .array .int
  | 24 => .int
  | _ => .int
theorem nmX9 : ∀ a, a < 26 → ∀ b, b < 26 → a ≠ b → (TX9 a).2.1 ≠ (TX9 b).2.1 := by decide +kernel
theorem tyX9_ok : ∀ k, k < 26 → parseFieldDescriptor (TX9 k).2.2.1 = some (tyX9 k) := by decide +kernel
abbrev cX9_init : ByteArray := prog_11_method_1_code
def yX9_init : MethodName := ⟨RX9, "<init>", "()V"⟩
abbrev cX9_in : ByteArray := prog_11_method_3_code
def yX9_in : MethodName := ⟨RX9, "in", "(JJJ)Z"⟩
abbrev cX9_has : ByteArray := prog_11_method_4_code
def yX9_has : MethodName := ⟨RX9, "has", "(II)Z"⟩
abbrev cX9_ones : ByteArray := prog_11_method_5_code
def yX9_ones : MethodName := ⟨RX9, "ones", "(I)I"⟩
abbrev cX9_cells : ByteArray := prog_11_method_6_code
def yX9_cells : MethodName := ⟨RX9, "cells", "([I)I"⟩
abbrev cX9_isYes : ByteArray := prog_11_method_7_code
def yX9_isYes : MethodName := ⟨RX9, "isYes", "([III)Z"⟩
abbrev cX9_noCell : ByteArray := prog_11_method_8_code
def yX9_noCell : MethodName := ⟨RX9, "noCell", "(I)Z"⟩
abbrev cX9_lay : ByteArray := prog_11_method_9_code
def yX9_lay : MethodName := ⟨RX9, "lay", "([I[I)V"⟩
abbrev cX9_write : ByteArray := prog_11_method_10_code
def yX9_write : MethodName := ⟨RX9, "write", "(I)I"⟩
abbrev cX9_wipe : ByteArray := prog_11_method_11_code
def yX9_wipe : MethodName := ⟨RX9, "wipe", "()I"⟩
abbrev cX9_figure : ByteArray := prog_11_method_12_code
def yX9_figure : MethodName := ⟨RX9, "figure", "(III)I"⟩
abbrev cX9_pinned : ByteArray := prog_11_method_13_code
def yX9_pinned : MethodName := ⟨RX9, "pinned", "([I)I"⟩
abbrev cX9_isFullRow : ByteArray := prog_11_method_14_code
def yX9_isFullRow : MethodName := ⟨RX9, "isFullRow", "([II)Z"⟩
abbrev cX9_readPins : ByteArray := prog_11_method_15_code
def yX9_readPins : MethodName := ⟨RX9, "readPins", "(I)I"⟩
abbrev cX9_readSheet : ByteArray := prog_11_method_16_code
def yX9_readSheet : MethodName := ⟨RX9, "readSheet", "()I"⟩
abbrev cX9_fault : ByteArray := prog_11_method_17_code
def yX9_fault : MethodName := ⟨RX9, "fault", "()I"⟩
abbrev cX9_findMasks : ByteArray := prog_11_method_18_code
def yX9_findMasks : MethodName := ⟨RX9, "findMasks", "([IIZ)V"⟩
abbrev cX9_packed : ByteArray := prog_11_method_19_code
def yX9_packed : MethodName := ⟨RX9, "packed", "(II)I"⟩
abbrev cX9_target : ByteArray := prog_11_method_20_code
def yX9_target : MethodName := ⟨RX9, "target", "([I)I"⟩
abbrev cX9_list : ByteArray := prog_11_method_21_code
def yX9_list : MethodName := ⟨RX9, "list", "([IZ)V"⟩
abbrev cX9_place : ByteArray := prog_11_method_22_code
def yX9_place : MethodName := ⟨RX9, "place", "(I)I"⟩
abbrev cX9_settle : ByteArray := prog_11_method_23_code
def yX9_settle : MethodName := ⟨RX9, "settle", "([I)V"⟩
abbrev cX9_sheet : ByteArray := prog_11_method_24_code
def yX9_sheet : MethodName := ⟨RX9, "sheet", "()I"⟩
abbrev cX9_noLine : ByteArray := prog_11_method_25_code
def yX9_noLine : MethodName := ⟨RX9, "noLine", "(II)Z"⟩
abbrev cX9_totalAt : ByteArray := prog_11_method_26_code
def yX9_totalAt : MethodName := ⟨RX9, "totalAt", "(II)I"⟩
abbrev cX9_total : ByteArray := prog_11_method_27_code
def yX9_total : MethodName := ⟨RX9, "total", "(II)I"⟩
abbrev cX9_pin : ByteArray := prog_11_method_28_code
def yX9_pin : MethodName := ⟨RX9, "pin", "(I)I"⟩
abbrev cX9_sum : ByteArray := prog_11_method_29_code
def yX9_sum : MethodName := ⟨RX9, "sum", "([III)I"⟩
abbrev cX9_greatest : ByteArray := prog_11_method_30_code
def yX9_greatest : MethodName := ⟨RX9, "greatest", "([II)I"⟩
abbrev cX9_tested : ByteArray := prog_11_method_31_code
def yX9_tested : MethodName := ⟨RX9, "tested", "([I)I"⟩
abbrev cX9_test : ByteArray := prog_11_method_32_code
def yX9_test : MethodName := ⟨RX9, "test", "()I"⟩
abbrev cX9_orderRows : ByteArray := prog_11_method_33_code
def yX9_orderRows : MethodName := ⟨RX9, "orderRows", "()V"⟩
abbrev cX9_ahead : ByteArray := prog_11_method_34_code
def yX9_ahead : MethodName := ⟨RX9, "ahead", "(I)I"⟩
abbrev cX9_fill : ByteArray := prog_11_method_35_code
def yX9_fill : MethodName := ⟨RX9, "fill", "(I)I"⟩
abbrev cX9_filled : ByteArray := prog_11_method_36_code
def yX9_filled : MethodName := ⟨RX9, "filled", "(I)I"⟩
abbrev cX9_mended : ByteArray := prog_11_method_37_code
def yX9_mended : MethodName := ⟨RX9, "mended", "(I)I"⟩
abbrev cX9_answers : ByteArray := prog_11_method_38_code
def yX9_answers : MethodName := ⟨RX9, "answers", "()I"⟩
abbrev cX9_yesIn : ByteArray := prog_11_method_39_code
def yX9_yesIn : MethodName := ⟨RX9, "yesIn", "([II)I"⟩
abbrev cX9_sure : ByteArray := prog_11_method_40_code
def yX9_sure : MethodName := ⟨RX9, "sure", "([II)I"⟩
abbrev cX9_cell : ByteArray := prog_11_method_41_code
def yX9_cell : MethodName := ⟨RX9, "cell", "(II)I"⟩
abbrev cX9_divisor : ByteArray := prog_11_method_42_code
def yX9_divisor : MethodName := ⟨RX9, "divisor", "(II)I"⟩
abbrev cX9_fraction : ByteArray := prog_11_method_43_code
def yX9_fraction : MethodName := ⟨RX9, "fraction", "(IIZ)I"⟩
abbrev cX9_odds : ByteArray := prog_11_method_44_code
def yX9_odds : MethodName := ⟨RX9, "odds", "(IZ)I"⟩
abbrev cX9_ask : ByteArray := prog_11_method_45_code
def yX9_ask : MethodName := ⟨RX9, "ask", "(I)I"⟩
abbrev cX9_plane : ByteArray := prog_11_method_46_code
def yX9_plane : MethodName := ⟨RX9, "plane", "()I"⟩
abbrev cX9_note : ByteArray := prog_11_method_47_code
def yX9_note : MethodName := ⟨RX9, "note", "()V"⟩
abbrev cX9_go : ByteArray := prog_11_method_48_code
def yX9_go : MethodName := ⟨RX9, "go", "(I)I"⟩
abbrev cX9_bit : ByteArray := prog_11_method_49_code
def yX9_bit : MethodName := ⟨RX9, "bit", "([III)I"⟩
abbrev cX9_four : ByteArray := prog_11_method_50_code
def yX9_four : MethodName := ⟨RX9, "four", "([IIIII)I"⟩
abbrev cX9_countSwitches : ByteArray := prog_11_method_51_code
def yX9_countSwitches : MethodName := ⟨RX9, "countSwitches", "(I)I"⟩
abbrev cX9_swap : ByteArray := prog_11_method_52_code
def yX9_swap : MethodName := ⟨RX9, "swap", "(IIII)I"⟩
abbrev cX9_setTotal : ByteArray := prog_11_method_53_code
def yX9_setTotal : MethodName := ⟨RX9, "setTotal", "(III)I"⟩
abbrev cX9_tooMany : ByteArray := prog_11_method_54_code
def yX9_tooMany : MethodName := ⟨RX9, "tooMany", "([III)Z"⟩
abbrev cX9_setPin : ByteArray := prog_11_method_55_code
def yX9_setPin : MethodName := ⟨RX9, "setPin", "(II)I"⟩
abbrev cX9_undo : ByteArray := prog_11_method_56_code
def yX9_undo : MethodName := ⟨RX9, "undo", "()I"⟩
abbrev cX9_switches : ByteArray := prog_11_method_57_code
def yX9_switches : MethodName := ⟨RX9, "switches", "(I)I"⟩
abbrev cX9_areFour : ByteArray := prog_11_method_58_code
def yX9_areFour : MethodName := ⟨RX9, "areFour", "(I)Z"⟩
abbrev cX9_spread : ByteArray := prog_11_method_59_code
def yX9_spread : MethodName := ⟨RX9, "spread", "()I"⟩
abbrev cX9_reached : ByteArray := prog_11_method_60_code
def yX9_reached : MethodName := ⟨RX9, "reached", "()I"⟩
abbrev cX9_apart : ByteArray := prog_11_method_61_code
def yX9_apart : MethodName := ⟨RX9, "apart", "(I)I"⟩
abbrev cX9_tells : ByteArray := prog_11_method_62_code
def yX9_tells : MethodName := ⟨RX9, "tells", "(I)Z"⟩
abbrev cX9_cellBit : ByteArray := prog_11_method_63_code
def yX9_cellBit : MethodName := ⟨RX9, "cellBit", "(I)I"⟩
abbrev cX9_findKey : ByteArray := prog_11_method_64_code
def yX9_findKey : MethodName := ⟨RX9, "findKey", "()V"⟩
abbrev cX9_key : ByteArray := prog_11_method_65_code
def yX9_key : MethodName := ⟨RX9, "key", "(I)I"⟩
abbrev cX9_longPower : ByteArray := prog_11_method_66_code
def yX9_longPower : MethodName := ⟨RX9, "longPower", "(JI)J"⟩
abbrev cX9_putTotal : ByteArray := prog_11_method_67_code
def yX9_putTotal : MethodName := ⟨RX9, "putTotal", "(III)Z"⟩
abbrev cX9_putPin : ByteArray := prog_11_method_68_code
def yX9_putPin : MethodName := ⟨RX9, "putPin", "(II)Z"⟩
abbrev cX9_putSwitch : ByteArray := prog_11_method_69_code
def yX9_putSwitch : MethodName := ⟨RX9, "putSwitch", "(IIII)Z"⟩
abbrev cX9_does : ByteArray := prog_11_method_70_code
def yX9_does : MethodName := ⟨RX9, "does", "(I)Z"⟩
abbrev cX9_judge : ByteArray := prog_11_method_71_code
def yX9_judge : MethodName := ⟨RX9, "judge", "(IJ)I"⟩
abbrev cX9_see : ByteArray := prog_11_method_72_code
def yX9_see : MethodName := ⟨RX9, "see", "(II)I"⟩
abbrev cX9_unsee : ByteArray := prog_11_method_73_code
def yX9_unsee : MethodName := ⟨RX9, "unsee", "()I"⟩
abbrev cX9_agrees : ByteArray := prog_11_method_74_code
def yX9_agrees : MethodName := ⟨RX9, "agrees", "(I)Z"⟩
abbrev cX9_which : ByteArray := prog_11_method_75_code
def yX9_which : MethodName := ⟨RX9, "which", "(I)I"⟩
abbrev cX9_listPins : ByteArray := prog_11_method_76_code
def yX9_listPins : MethodName := ⟨RX9, "listPins", "()I"⟩
abbrev cX9_holds : ByteArray := prog_11_method_77_code
def yX9_holds : MethodName := ⟨RX9, "holds", "(III)Z"⟩
abbrev cX9_weigh : ByteArray := prog_11_method_78_code
def yX9_weigh : MethodName := ⟨RX9, "weigh", "()I"⟩
abbrev cX9_factorial : ByteArray := prog_11_method_79_code
def yX9_factorial : MethodName := ⟨RX9, "factorial", "(I)I"⟩
abbrev cX9_share : ByteArray := prog_11_method_80_code
def yX9_share : MethodName := ⟨RX9, "share", "(IZ)I"⟩
abbrev cX9_power : ByteArray := prog_11_method_81_code
def yX9_power : MethodName := ⟨RX9, "power", "(II)I"⟩
abbrev cX9_loose : ByteArray := prog_11_method_82_code
def yX9_loose : MethodName := ⟨RX9, "loose", "(IZ)I"⟩
abbrev cX9_seed : ByteArray := prog_11_method_83_code
def yX9_seed : MethodName := ⟨RX9, "seed", "(J)J"⟩
abbrev cX9_drawn : ByteArray := prog_11_method_84_code
def yX9_drawn : MethodName := ⟨RX9, "drawn", "(I)I"⟩
abbrev cX9_keep : ByteArray := prog_11_method_85_code
def yX9_keep : MethodName := ⟨RX9, "keep", "(I)I"⟩
abbrev cX9_again : ByteArray := prog_11_method_86_code
def yX9_again : MethodName := ⟨RX9, "again", "(I)I"⟩
abbrev cX9_openCells : ByteArray := prog_11_method_87_code
def yX9_openCells : MethodName := ⟨RX9, "openCells", "()I"⟩
abbrev cX9_count : ByteArray := prog_11_method_88_code
def yX9_count : MethodName := ⟨RX9, "count", "(I)I"⟩
def RJ6 : String := "java/lang/Integer"
def TJ6 : u_T := fun k => match k with
  | _ => ("", "", "", false)
def tyJ6 : Nat → FieldType := fun k => match k with
  | _ => .int
theorem nmJ6 : ∀ a, a < 0 → ∀ b, b < 0 → a ≠ b → (TJ6 a).2.1 ≠ (TJ6 b).2.1 := by decide +kernel
theorem tyJ6_ok : ∀ k, k < 0 → parseFieldDescriptor (TJ6 k).2.2.1 = some (tyJ6 k) := by decide +kernel
abbrev cJ6_bitCount_0f7a4 : ByteArray := prog_12_method_49_code
def yJ6_bitCount_0f7a4 : MethodName := ⟨RJ6, "bitCount", "(I)I"⟩
def RJ9 : String := "java/lang/Math"
def TJ9 : u_T := fun k => match k with
  | _ => ("", "", "", false)
def tyJ9 : Nat → FieldType := fun k => match k with
  | _ => .int
theorem nmJ9 : ∀ a, a < 0 → ∀ b, b < 0 → a ≠ b → (TJ9 a).2.1 ≠ (TJ9 b).2.1 := by decide +kernel
theorem tyJ9_ok : ∀ k, k < 0 → parseFieldDescriptor (TJ9 k).2.2.1 = some (tyJ9 k) := by decide +kernel
abbrev cJ9_max_7cf53 : ByteArray := prog_13_method_65_code
def yJ9_max_7cf53 : MethodName := ⟨RJ9, "max", "(II)I"⟩
abbrev cJ9_min_7cf53 : ByteArray := prog_13_method_69_code
def yJ9_min_7cf53 : MethodName := ⟨RJ9, "min", "(II)I"⟩
def RJ10 : String := "java/lang/System"
def TJ10 : u_T := fun k => match k with
  | _ => ("", "", "", false)
def tyJ10 : Nat → FieldType := fun k => match k with
  | _ => .int
theorem nmJ10 : ∀ a, a < 0 → ∀ b, b < 0 → a ≠ b → (TJ10 a).2.1 ≠ (TJ10 b).2.1 := by decide +kernel
theorem tyJ10_ok : ∀ k, k < 0 → parseFieldDescriptor (TJ10 k).2.2.1 = some (tyJ10 k) := by decide +kernel
def RL : String := "TwoViewsLaw"
abbrev cL_law : ByteArray := code
def yL_law : MethodName := ⟨RL, "law", "([I)Z"⟩
abbrev vwCl : List vw_C := [(RX0, TX0, 3), (RX1, TX1, 10), (RX2, TX2, 2), (RX3, TX3, 2), (RX4, TX4, 3), (RX5, TX5, 4), (RX6, TX6, 7), (RX7, TX7, 5), (RX8, TX8, 13), (RX9, TX9, 26)]
end
section
/-! the words of the tables that go with every method -/
def mTb : List Cond := lw_tbl.filter goodWord
theorem mTb_good {w : Cond} (h : w ∈ mTb) : w ∈ lw_tbl ∧ goodWord w = true := List.mem_filter.mp h
theorem mTb_in {big : List Cond} (hb : ∀ w ∈ mTb, w ∈ big) : GoodIn big mTb := fun w hw => ⟨hb w hw, good_of_word (mTb_good hw).2⟩
theorem mt {i : Nat} {w : Cond} (h : tables_1[i]? = some w) (hg : goodWord w = true) : w ∈ mTb := List.mem_filter.mpr ⟨List.mem_append_right _ (List.mem_of_getElem? h), hg⟩
theorem ms {i : Nat} {w : Cond} (h : (k2_sels lw_privs)[i]? = some w) (hg : goodWord w = true) : w ∈ mTb := List.mem_filter.mpr ⟨List.mem_append_left _ (List.mem_of_getElem? h), hg⟩
theorem mt_ws (ws : List Cond) (ps : List Nat) (h : ws = ps.filterMap (fun i => tables_1[i]?)) (hg : ws.all goodWord = true) : ∀ w ∈ ws, w ∈ mTb := by
  intro w hw
  have h1 := List.all_eq_true.mp hg w hw
  rw [h] at hw
  obtain ⟨i, -, hi⟩ := List.mem_filterMap.mp hw
  exact mt hi h1
/-! memory: int slots and long slots of cells by their numbers -/
abbrev mH : Type := (Nat → Nat → Int32) × (Nat → Nat → Int64)
def mgi (h : mH) (a k : Nat) : Int32 := h.1 a k
def mgl (h : mH) (a k : Nat) : Int64 := h.2 a k
def msi (h : mH) (a k : Nat) (v : Int32) : mH := (fun b j => if b = a ∧ j = k then v else h.1 b j, h.2)
def msl (h : mH) (a k : Nat) (v : Int64) : mH := (h.1, fun b j => if b = a ∧ j = k then v else h.2 b j)
def mcp (h : mH) (a b n : Nat) : mH := (fun c j => if c = b ∧ j < n then h.1 a j else h.1 c j, h.2)
/-- kinds of the cells: 0 to 9 a class, 50 boolean[2], 60 Sheet[14], 61 Sheet[2], 100 + n an int[n] -/
def mKL : List Nat := [8, 2, 6, 104, 105, 1, 410, 410, 2, 6, 104, 105, 1, 410, 410, 4, 140, 6, 104, 105, 0, 60,
  6, 104, 105, 6, 104, 105, 6, 104, 105, 6, 104, 105, 6, 104, 105, 6, 104, 105, 6, 104, 105,
  6, 104, 105, 6, 104, 105, 6, 104, 105, 6, 104, 105, 6, 104, 105, 6, 104, 105, 6, 104, 105,
  3, 104, 105, 7, 410, 410, 5, 106, 164, 164, 61, 50, 6, 104, 105, 6, 104, 105,
  9, 140, 132, 132, 132, 548, 164, 50, 106, 106, 140, 104, 1100, 1100, 1100, 104, 105, 106, 164]
def mk (i : Nat) : Nat := mKL.getD i 999
/-- number of fields of a class -/
def mNf : Nat → Nat := fun c => match c with
  | 0 => 3 | 1 => 10 | 2 => 2 | 3 => 2 | 4 => 3 | 5 => 4 | 6 => 7 | 7 => 5 | 8 => 13 | 9 => 26 | _ => 0
/-- a field's kind: 0 int, 1 long, t + 2 the cell t behind -/
def mFL : Nat → List Nat := fun c => match c with
  | 0 => [3, 0, 0] | 1 => [3, 0, 4, 0, 0, 0, 0, 1, 0, 0] | 2 => [3, 6] | 3 => [3, 4] | 4 => [3, 0, 4] | 5 => [3, 4, 5, 0]
  | 6 => [0, 0, 3, 4, 0, 0, 0] | 7 => [3, 4, 0, 0, 0] | 8 => [3, 10, 17, 22, 66, 69, 72, 76, 77, 0, 0, 0, 1]
  | 9 => [0, 3, 0, 4, 5, 6, 7, 0, 8, 9, 0, 10, 11, 1, 12, 13, 14, 0, 15, 16, 17, 18, 19, 20, 0, 0] | _ => []
def mfk (c k : Nat) : Nat := (mFL c).getD k 0
abbrev mG : Type := va_G × (ClassId × ClassId × ClassId) × (Nat → Nat) × Nat × (Nat × Nat × Nat)
abbrev mad (g : mG) (i : Nat) : Nat := g.2.2.1 i
abbrev mnn (g : mG) : Nat := g.2.2.2.1
def mfv (g : mG) (h : mH) (i c k : Nat) : Value := match mfk c k with
  | 0 => .int (mgi h i k)
  | 1 => .long (mgl h i k)
  | t + 2 => .ref (mad g (i + t))
def mFs (g : mG) (h : mH) (i c : Nat) : List Value := (List.range (mNf c)).map (mfv g h i c)
def mEn (g : mG) (h : mH) (i : Nat) : va_E :=
  if mk i < 10 then .inr (mk i, mFs g h i (mk i))
  else if mk i = 50 then .inl (g.2.1.2.1, 2, .inl (mgi h i))
  else if mk i = 60 then .inl (g.2.1.2.2, 14, .inr (.inr (.inr (.inr fun j => some (mad g (22 + 3 * j))))))
  else if mk i = 61 then .inl (g.2.1.2.2, 2, .inr (.inr (.inr (.inr fun j => some (mad g (76 + 3 * j))))))
  else .inl (g.2.1.1, mk i - 100, .inl (mgi h i))
def mWd (g : mG) (h : mH) : va_W := (List.range (mnn g)).map fun i => (mad g i, mEn g h i)
def mA (g : mG) : Nat → Prop := fun q => ∃ i, i < mnn g ∧ q = mad g i
def mInj (g : mG) : Prop := ∀ i j, i < mnn g → j < mnn g → mad g i = mad g j → i = j
def mOK (g : mG) : Prop := mnn g = 82 ∨ mnn g = 101
theorem mWd_at {g : mG} {h : mH} {i : Nat} (hi : i < mnn g) : (mWd g h)[i]? = some (mad g i, mEn g h i) := by
  simp [mWd, hi]
theorem mWd_get {g : mG} {h : mH} {i : Nat} {q : Nat × va_E} (hq : (mWd g h)[i]? = some q) : i < mnn g ∧ q = (mad g i, mEn g h i) := by
  have hi : i < mnn g := by
    have := (List.getElem?_eq_some_iff.mp hq).1
    simpa [mWd] using this
  rw [mWd_at hi] at hq
  exact ⟨hi, (Option.some.inj hq).symm⟩
theorem mWd_D {g : mG} {h : mH} (hj : mInj g) : va_D (mA g) (mWd g h) := by
  refine ⟨fun i j p q hp hq e => ?_, fun k q hq => ?_⟩
  · obtain ⟨h1, rfl⟩ := mWd_get hp
    obtain ⟨h2, rfl⟩ := mWd_get hq
    exact hj i j h1 h2 e
  · obtain ⟨h1, rfl⟩ := mWd_get hq
    exact ⟨k, h1, rfl⟩
theorem mWd_set {g : mG} {h h' : mH} {i : Nat} {x : va_E} (hx : x = mEn g h' i) (ho : ∀ j, j ≠ i → mEn g h' j = mEn g h j) : (mWd g h).set i (mad g i, x) = mWd g h' := by
  subst hx
  refine List.ext_getElem? fun j => ?_
  by_cases hj : j < mnn g
  · rw [mWd_at hj, List.getElem?_set]
    by_cases e : i = j
    · subst e
      rw [if_pos rfl, if_pos (by simpa [mWd] using hj)]
    · rw [if_neg e, mWd_at hj, ho j (fun q => e q.symm)]
  · have e1 : ((mWd g h).set i (mad g i, mEn g h' i))[j]? = none := by
      rw [List.getElem?_eq_none_iff]; simp [mWd]; omega
    have e2 : (mWd g h')[j]? = none := by
      rw [List.getElem?_eq_none_iff]; simp [mWd]; omega
    rw [e1, e2]
theorem mFs_at {g : mG} {h : mH} {i c k : Nat} (hk : k < mNf c) : (mFs g h i c)[k]? = some (mfv g h i c k) := by
  simp [mFs, hk]
theorem mFs_len {g : mG} {h : mH} {i c : Nat} : (mFs g h i c).length = mNf c := by simp [mFs]
theorem mFs_set {g : mG} {h h' : mH} {i c k : Nat} (ho : ∀ j, j ≠ k → mfv g h' i c j = mfv g h i c j) : (mFs g h i c).set k (mfv g h' i c k) = mFs g h' i c := by
  refine List.ext_getElem? fun j => ?_
  by_cases hj : j < mNf c
  · rw [mFs_at hj, List.getElem?_set]
    by_cases e : k = j
    · subst e
      rw [if_pos rfl, if_pos (by rw [mFs_len]; exact hj)]
    · rw [if_neg e, mFs_at hj, ho j (fun q => e q.symm)]
  · rw [List.getElem?_eq_none_iff.mpr (by rw [List.length_set, mFs_len]; omega), List.getElem?_eq_none_iff.mpr (by rw [mFs_len]; omega)]
theorem mgi_msi (h : mH) (a k b j : Nat) (v : Int32) : mgi (msi h a k v) b j = if b = a ∧ j = k then v else mgi h b j := rfl
theorem mgl_msi (h : mH) (a k b j : Nat) (v : Int32) : mgl (msi h a k v) b j = mgl h b j := rfl
theorem mgi_msl (h : mH) (a k b j : Nat) (v : Int64) : mgi (msl h a k v) b j = mgi h b j := rfl
theorem mgl_msl (h : mH) (a k b j : Nat) (v : Int64) : mgl (msl h a k v) b j = if b = a ∧ j = k then v else mgl h b j := rfl
theorem mEn_ne {g : mG} {h : mH} {i j : Nat} (hne : j ≠ i) (k : Nat) (v : Int32) : mEn g (msi h i k v) j = mEn g h j := by
  have e1 : ∀ q, mgi (msi h i k v) j q = mgi h j q := fun q => by rw [mgi_msi, if_neg (fun z => hne z.1)]
  have e2 : mgi (msi h i k v) j = mgi h j := funext e1
  have e3 : ∀ c, mFs g (msi h i k v) j c = mFs g h j c := fun c => by
    unfold mFs
    refine List.map_congr_left fun q _ => ?_
    unfold mfv
    split
    · rw [e1]
    · rfl
    · rfl
  unfold mEn
  rw [e2, e3]
theorem mEn_neL {g : mG} {h : mH} {i j : Nat} (hne : j ≠ i) (k : Nat) (v : Int64) : mEn g (msl h i k v) j = mEn g h j := by
  have e1 : ∀ q, mgl (msl h i k v) j q = mgl h j q := fun q => by rw [mgl_msl, if_neg (fun z => hne z.1)]
  have e3 : ∀ c, mFs g (msl h i k v) j c = mFs g h j c := fun c => by
    unfold mFs
    refine List.map_congr_left fun q _ => ?_
    unfold mfv
    split
    · rfl
    · rw [e1]
    · rfl
  unfold mEn
  rw [e3]
  rfl
end
section
/-! the judgement: from here the method comes to its end with what o says -/
abbrev mD : Type := MethodName × ByteArray × Nat × Option FieldType
def mRm (d : Nat) : Room := { frames := d + 1, cells := 0, slots := 0, locals := 40 * (d + 1) }
def mCx (y : mD) (p : Program) (s : State) (m : MethodId) (args : Array Value) (meth : Method) (c : Code) : Prop :=
  p.tables.exec = Jvm.exec ∧ c.code = y.2.1 ∧ meth.sig.returnType = y.2.2.2 ∧ meth.locks = false ∧ c.maxLocals = y.2.2.1 ∧ s.vm.findClass y.1.cls = some m.cls ∧ ∀ w ∈ mTb, w.before args s = true
def mNest (U : State) : Prop := ∀ a i x hh, Cond.methodLinkNest a i x hh ∈ tables_1 → va_Nw (.methodLinkNest a i x hh) U
def mFirst (j : Nat) : Int32 := [0, 1, 6, 16, 26, 31, 32].getD j 0
def mRows (j : Nat) : Int32 := [0, 1, 2, 4, 8, 16, 3, 5, 6, 9, 10, 12, 17, 18, 20, 24, 7, 11, 13, 14, 19, 21, 22, 25, 26, 28, 15, 23, 27, 29, 30, 31].getD j 0
def mUnits (j : Nat) : Int64 := [1, 100000, 10000000000, 1000000000000000].getD j 0
def va_XL (b L : Nat) (xs : Nat → Int64) (U : State) (H : Heap) : Prop := ∃ scr : Cell, H[b]? = some scr ∧ U.isArrayOf scr .long ∧ scr.vm ≠ .unknown ∧ scr.slots.size = L ∧ ∀ j : Nat, j < L → scr.slots[j]? = some (.long (xs j))
def mStat (g : mG) (U : State) (H : Heap) : Prop :=
  (va_Z "TwoViews$Answers" "FIRST_WITH_YES" "[I" (.ref g.2.2.2.2.1) (mA g) U H ∧ va_X g.2.2.2.2.1 7 mFirst U H ∧ g.2.2.2.2.1 < H.size ∧ ¬ mA g g.2.2.2.2.1) ∧
  (va_Z "TwoViews$Answers" "ROWS_BY_YES" "[I" (.ref g.2.2.2.2.2.1) (mA g) U H ∧ va_X g.2.2.2.2.2.1 32 mRows U H ∧ g.2.2.2.2.2.1 < H.size ∧ ¬ mA g g.2.2.2.2.2.1) ∧
  (va_Z "TwoViews" "DOING_UNITS" "[J" (.ref g.2.2.2.2.2.2) (mA g) U H ∧ va_XL g.2.2.2.2.2.2 4 mUnits U H ∧ g.2.2.2.2.2.2 < H.size ∧ ¬ mA g g.2.2.2.2.2.2)
def mTys (g : mG) : List (ClassId × FieldType) := [(g.2.1.1, .int), (g.2.1.2.1, .boolean), (g.2.1.2.2, .object "TwoViews$Sheet")]
def mSt (g : mG) (U : State) (H : Heap) : Prop := va_K g.1 vwCl (mTys g) U ∧ mInj g ∧ mNest U ∧ mStat g U H
def mP (g : mG) (h : mH) (U : State) : Prop := va_P g.1 vwCl (mWd g h) U.heap ∧ mSt g U U.heap
def mQ (g : mG) (r : Option Value × mH) : Array Value → State → Outcome → State → Prop := fun _ st oc t => oc = .returned r.1 ∧ va_P g.1 vwCl (mWd g r.2) t.heap ∧ va_F (mA g) st t
def mw (g : mG) (l : Launch) (d : Nat) (y : mD) {β : Type} (em : β → Option Value × mH) (pc : Nat) (lv : List (Nat × Value)) (st : List Value) (h : mH) (o : Option β) : Prop :=
  ∀ b, o = some b → ∀ (p : Program) (e : Env) (s : State) (m : MethodId) (args : Array Value) (below : List Frame) (meth : Method) (c : Code) (H : Heap) (locs : List Loc) (ls : Array Slot),
    mCx y p s m args meth c → mSt g s s.heap → va_P g.1 vwCl (mWd g h) H → va_S (mA g) s.heap H locs → lv_has ls y.2.2.1 lv →
    W p l e (mRm d) s m args below meth c H locs 0 0 (MQ below (mQ g (em b)) args s 0 0 (mA g)) (F0 m pc ls st)
def mf (g : mG) (l : Launch) (d : Nat) (y : mD) {β : Type} (em : β → Option Value × mH) (as : List Value) (h : mH) (o : Option β) : Prop :=
  ∀ b, o = some b → Met l y.1 (Cond.code y.1 y.2.1 y.2.2.1 y.2.2.2 :: mTb) (mRm d) (va_Pc as (mP g h)) (mQ g (em b)) 0 0 (mA g)
/-! what goes along -/
theorem va_XL.kept {b L : Nat} {xs : Nat → Int64} {U : State} {H H1 : Heap} (h : va_XL b L xs U H) (hq : H1[b]? = H[b]?) : va_XL b L xs U H1 := by
  obtain ⟨scr, h1, h2⟩ := h
  exact ⟨scr, by rw [hq]; exact h1, h2⟩
theorem va_XL.moved {b L : Nat} {xs : Nat → Int64} {u U : State} {H : Heap} (hvm : u.vm.Alike U.vm) (h : va_XL b L xs u H) : va_XL b L xs U H := by
  obtain ⟨scr, h1, h2, h3⟩ := h
  exact ⟨scr, h1, State.isArrayOf_alike hvm h2, h3⟩
theorem mStat.moved {g : mG} {u U : State} {H H1 : Heap} (hvm : u.vm.Alike U.vm) (hz : H.size ≤ H1.size) (hq : ∀ a : Nat, a < H.size → ¬ mA g a → H1[a]? = H[a]?) (h : mStat g u H) : mStat g U H1 := by
  obtain ⟨⟨a1, a2, a3, a4⟩, ⟨b1, b2, b3, b4⟩, c1, c2, c3, c4⟩ := h
  exact ⟨⟨(a1.kept hq).moved hvm, (a2.kept (hq _ a3 a4)).moved hvm, Nat.lt_of_lt_of_le a3 hz, a4⟩, ⟨(b1.kept hq).moved hvm, (b2.kept (hq _ b3 b4)).moved hvm, Nat.lt_of_lt_of_le b3 hz, b4⟩, (c1.kept hq).moved hvm, (c2.kept (hq _ c3 c4)).moved hvm, Nat.lt_of_lt_of_le c3 hz, c4⟩
theorem mSt.warm {g : mG} {s U : State} {H : Heap} {locs : List Loc} (hW : s.WarmedH U.vm) (hS : va_S (mA g) s.heap H locs) (h : mSt g s s.heap) : mSt g U H :=
  ⟨va_K.moved hW.alike h.1, h.2.1, fun a i x hh hm => va_Nw.warmM hW (h.2.2.1 a i x hh hm), h.2.2.2.moved hW.alike hS.1 hS.2.1⟩
theorem mSt.vm {g : mG} {s U : State} {H : Heap} (hv : s.vm = U.vm) (h : mSt g s H) : mSt g U H :=
  have hA : s.vm.Alike U.vm := by rw [hv]; exact Vm.Alike.refl U.vm
  ⟨va_K.moved hA h.1, h.2.1, fun a i x hh hm => va_Nw.same rfl hv (h.2.2.1 a i x hh hm), h.2.2.2.moved hA (Nat.le_refl _) (fun _ _ _ => rfl)⟩
theorem mP.blind {g : mG} {h : mH} (as : List Value) : FrameBlind (va_Pc as (mP g h)) := by
  intro a U f mk q
  obtain ⟨q1, q2, q3⟩ := q
  exact ⟨q1, q2, mSt.vm (s := U) (U := U.calling f mk a) rfl q3⟩
theorem mf_of {g : mG} {l : Launch} {d : Nat} {y : mD} {β : Type} {em : β → Option Value × mH} {as : List Value} {h : mH} {o : Option β} (hy : plainName y.1.cls = true) (hl : (lg_sl as).length ≤ y.2.2.1)
    (k : mw g l d y em 0 (lv_args 0 as) [] h o) : mf g l d y em as h o := by
  intro b hb
  refine Met.ofW (cc := y.2.1) (maxL := y.2.2.1) (ret := y.2.2.2) hy rfl ?_
  intro p e s m args below meth c s₁ B hml hv
  obtain ⟨rfl, hP, hS⟩ := hv
  have hts := atoms_spec (ws := Cond.code y.1 y.2.1 y.2.2.1 y.2.2.2 :: mTb) B.pre
  have hown : s.vm.findClass y.1.cls = some m.cls := findClass_of_methodNamed B.named
  have hl' := lv_entry as (n := y.2.2.1) hl
  rw [lg_entry_eq]
  exact k b hb p e s m _ below meth c s.heap [] _ ⟨B.exec, B.bytes, B.returns, B.notSynchronized, hml, hown, fun w hw => hts w (List.mem_cons_of_mem _ hw)⟩ hS hP va_S.rf hl'
def xrem (x z : Int32) : Int32 := x - x / z * z
def xlrem (x z : Int64) : Int64 := x - x / z * z
section MR
variable {g : mG} {l : Launch} {d : Nat} {y : mD} {β : Type} {em : β → Option Value × mH} {pc n : Nat} {lv : List (Nat × Value)} {st : List Value} {h : mH} {o : Option β}
theorem mw_sub {lv' : List (Nat × Value)} (ks : List Nat) (hk : lv_pick lv ks = lv') (k : mw g l d y em pc lv' st h o) : mw g l d y em pc lv st h o :=
  fun b hb p e s m args below meth c H locs ls C S P F hl => k b hb p e s m args below meth c H locs ls C S P F (lv_sub hl ks hk)
theorem mw_none : mw g l d y em pc lv st h (none : Option β) := fun b hb => by cases hb
theorem mw_eq {o' : Option β} (e : o = o') (k : mw g l d y em pc lv st h o') : mw g l d y em pc lv st h o := e ▸ k
theorem mw_iconst {i : Int} {v : Int32} (hd : decode y.2.1 pc = .ok (.iconst i, 1)) (hn : pc + 1 = n) (hv : Int32.ofInt i = v) (k : mw g l d y em n lv (.int v :: st) h o) : mw g l d y em pc lv st h o := by
  subst hn
  exact fun b hb p e s m args below meth c H locs ls C S P F hl => lv_iconst C.1 C.2.1 hd hv (k b hb p e s m args below meth c H locs ls C S P F hl)
theorem mw_bipush {i : Int} {v : Int32} (hd : decode y.2.1 pc = .ok (.bipush i, 2)) (hn : pc + 2 = n) (hv : (Int8.ofInt i).toInt32 = v) (k : mw g l d y em n lv (.int v :: st) h o) : mw g l d y em pc lv st h o := by
  subst hn
  exact fun b hb p e s m args below meth c H locs ls C S P F hl => lv_bipush C.1 C.2.1 hd hv (k b hb p e s m args below meth c H locs ls C S P F hl)
theorem mw_sipush {i : Int} {v : Int32} (hd : decode y.2.1 pc = .ok (.sipush i, 3)) (hn : pc + 3 = n) (hv : (Int16.ofInt i).toInt32 = v) (k : mw g l d y em n lv (.int v :: st) h o) : mw g l d y em pc lv st h o := by
  subst hn
  exact fun b hb p e s m args below meth c H locs ls C S P F hl => lv_sipush C.1 C.2.1 hd hv (k b hb p e s m args below meth c H locs ls C S P F hl)
theorem mw_lconst {i : Fin 2} {v : Int64} (hd : decode y.2.1 pc = .ok (.lconst i, 1)) (hn : pc + 1 = n) (hv : Int64.ofNat i = v) (k : mw g l d y em n lv (.long v :: st) h o) : mw g l d y em pc lv st h o := by
  subst hn
  exact fun b hb p e s m args below meth c H locs ls C S P F hl => lv_lconst C.1 C.2.1 hd hv (k b hb p e s m args below meth c H locs ls C S P F hl)
theorem mw_ldcw {i : Nat} {v : Int32} (hd : decode y.2.1 pc = .ok (.ldc_w i, 3)) (hn : pc + 3 = n) (hc : Cond.constant y.1.cls i v ∈ mTb) (k : mw g l d y em n lv (.int v :: st) h o) : mw g l d y em pc lv st h o := by
  subst hn
  exact fun b hb p e s m args below meth c H locs ls C S P F hl => lv_ldcw C.1 C.2.1 C.2.2.2.2.2.1 (C.2.2.2.2.2.2 _ hc) hd (k b hb p e s m args below meth c H locs ls C S P F hl)
theorem mw_ldc2 {i : Nat} {v : Int64} (hd : decode y.2.1 pc = .ok (.ldc2_w i, 3)) (hn : pc + 3 = n) (hc : Cond.constantLong y.1.cls i v ∈ mTb) (k : mw g l d y em n lv (.long v :: st) h o) : mw g l d y em pc lv st h o := by
  subst hn
  exact fun b hb p e s m args below meth c H locs ls C S P F hl => lv_ldc2 C.1 C.2.1 C.2.2.2.2.2.1 (C.2.2.2.2.2.2 _ hc) hd (k b hb p e s m args below meth c H locs ls C S P F hl)
theorem mw_iload_n {q : Nat} {i : Fin 4} {j : Nat} {x : Int32} (hd : decode y.2.1 pc = .ok (.iload_n i, 1)) (hn : pc + 1 = n) (hi : (i : Nat) = j) (hq : lv[q]? = some (j, .int x)) (k : mw g l d y em n lv (.int x :: st) h o) : mw g l d y em pc lv st h o := by
  subst hn
  exact fun b hb p e s m args below meth c H locs ls C S P F hl => lv_iload_n C.1 C.2.1 hd hi (lv_at hl q hq) (k b hb p e s m args below meth c H locs ls C S P F hl)
theorem mw_iload {q : Nat} {j : Nat} {x : Int32} (hd : decode y.2.1 pc = .ok (.iload j, 2)) (hn : pc + 2 = n) (hq : lv[q]? = some (j, .int x)) (k : mw g l d y em n lv (.int x :: st) h o) : mw g l d y em pc lv st h o := by
  subst hn
  exact fun b hb p e s m args below meth c H locs ls C S P F hl => lv_iload C.1 C.2.1 hd (lv_at hl q hq) (k b hb p e s m args below meth c H locs ls C S P F hl)
theorem mw_lload_n {q : Nat} {i : Fin 4} {j : Nat} {x : Int64} (hd : decode y.2.1 pc = .ok (.lload_n i, 1)) (hn : pc + 1 = n) (hi : (i : Nat) = j) (hq : lv[q]? = some (j, .long x)) (k : mw g l d y em n lv (.long x :: st) h o) : mw g l d y em pc lv st h o := by
  subst hn
  exact fun b hb p e s m args below meth c H locs ls C S P F hl => lv_lload_n C.1 C.2.1 hd hi (lv_at hl q hq) (k b hb p e s m args below meth c H locs ls C S P F hl)
theorem mw_lload {q : Nat} {j : Nat} {x : Int64} (hd : decode y.2.1 pc = .ok (.lload j, 2)) (hn : pc + 2 = n) (hq : lv[q]? = some (j, .long x)) (k : mw g l d y em n lv (.long x :: st) h o) : mw g l d y em pc lv st h o := by
  subst hn
  exact fun b hb p e s m args below meth c H locs ls C S P F hl => lv_lload C.1 C.2.1 hd (lv_at hl q hq) (k b hb p e s m args below meth c H locs ls C S P F hl)
theorem mw_aload_n {q : Nat} {i : Fin 4} {j : Nat} {x : Nat} (hd : decode y.2.1 pc = .ok (.aload_n i, 1)) (hn : pc + 1 = n) (hi : (i : Nat) = j) (hq : lv[q]? = some (j, .ref x)) (k : mw g l d y em n lv (.ref x :: st) h o) : mw g l d y em pc lv st h o := by
  subst hn
  exact fun b hb p e s m args below meth c H locs ls C S P F hl => lv_aload_n C.1 C.2.1 hd hi (lv_at hl q hq) (k b hb p e s m args below meth c H locs ls C S P F hl)
theorem mw_aload {q : Nat} {j : Nat} {x : Nat} (hd : decode y.2.1 pc = .ok (.aload j, 2)) (hn : pc + 2 = n) (hq : lv[q]? = some (j, .ref x)) (k : mw g l d y em n lv (.ref x :: st) h o) : mw g l d y em pc lv st h o := by
  subst hn
  exact fun b hb p e s m args below meth c H locs ls C S P F hl => lv_aload C.1 C.2.1 hd (lv_at hl q hq) (k b hb p e s m args below meth c H locs ls C S P F hl)
theorem mw_istore_n {i : Fin 4} {j : Nat} {x : Int32} {lv' : List (Nat × Value)} (hd : decode y.2.1 pc = .ok (.istore_n i, 1)) (hn : pc + 1 = n) (hi : (i : Nat) = j) (hj : j < y.2.2.1) (hl' : (j, Value.int x) :: lv.filter (fun q => !(q.1 == j) && !(q.1 + 1 == j && q.2.category == 2)) = lv') (k : mw g l d y em n lv' st h o) : mw g l d y em pc lv (.int x :: st) h o := by
  subst hn
  exact fun b hb p e s m args below meth c H locs ls C S P F hl => lv_istore_n C.1 C.2.1 hd hi hl hj hl' (fun ls' hl2 => k b hb p e s m args below meth c H locs ls' C S P F hl2)
theorem mw_istore {j : Nat} {x : Int32} {lv' : List (Nat × Value)} (hd : decode y.2.1 pc = .ok (.istore j, 2)) (hn : pc + 2 = n) (hj : j < y.2.2.1) (hl' : (j, Value.int x) :: lv.filter (fun q => !(q.1 == j) && !(q.1 + 1 == j && q.2.category == 2)) = lv') (k : mw g l d y em n lv' st h o) : mw g l d y em pc lv (.int x :: st) h o := by
  subst hn
  exact fun b hb p e s m args below meth c H locs ls C S P F hl => lv_istore C.1 C.2.1 hd hl hj hl' (fun ls' hl2 => k b hb p e s m args below meth c H locs ls' C S P F hl2)
theorem mw_astore_n {i : Fin 4} {j : Nat} {x : Nat} {lv' : List (Nat × Value)} (hd : decode y.2.1 pc = .ok (.astore_n i, 1)) (hn : pc + 1 = n) (hi : (i : Nat) = j) (hj : j < y.2.2.1) (hl' : (j, Value.ref x) :: lv.filter (fun q => !(q.1 == j) && !(q.1 + 1 == j && q.2.category == 2)) = lv') (k : mw g l d y em n lv' st h o) : mw g l d y em pc lv (.ref x :: st) h o := by
  subst hn
  exact fun b hb p e s m args below meth c H locs ls C S P F hl => lv_astore_n C.1 C.2.1 hd hi hl hj hl' (fun ls' hl2 => k b hb p e s m args below meth c H locs ls' C S P F hl2)
theorem mw_astore {j : Nat} {x : Nat} {lv' : List (Nat × Value)} (hd : decode y.2.1 pc = .ok (.astore j, 2)) (hn : pc + 2 = n) (hj : j < y.2.2.1) (hl' : (j, Value.ref x) :: lv.filter (fun q => !(q.1 == j) && !(q.1 + 1 == j && q.2.category == 2)) = lv') (k : mw g l d y em n lv' st h o) : mw g l d y em pc lv (.ref x :: st) h o := by
  subst hn
  exact fun b hb p e s m args below meth c H locs ls C S P F hl => lv_astore C.1 C.2.1 hd hl hj hl' (fun ls' hl2 => k b hb p e s m args below meth c H locs ls' C S P F hl2)
theorem mw_lstore_n {i : Fin 4} {j : Nat} {x : Int64} {lv' : List (Nat × Value)} (hd : decode y.2.1 pc = .ok (.lstore_n i, 1)) (hn : pc + 1 = n) (hi : (i : Nat) = j) (hj : j + 1 < y.2.2.1) (hl' : (j, Value.long x) :: lv.filter (fun q => !(q.1 == j) && (!(q.1 == j + 1) && !(q.1 + 1 == j && q.2.category == 2))) = lv') (k : mw g l d y em n lv' st h o) : mw g l d y em pc lv (.long x :: st) h o := by
  subst hn
  exact fun b hb p e s m args below meth c H locs ls C S P F hl => lv_lstore_n C.1 C.2.1 hd hi hl hj hl' (fun ls' hl2 => k b hb p e s m args below meth c H locs ls' C S P F hl2)
theorem mw_lstore {j : Nat} {x : Int64} {lv' : List (Nat × Value)} (hd : decode y.2.1 pc = .ok (.lstore j, 2)) (hn : pc + 2 = n) (hj : j + 1 < y.2.2.1) (hl' : (j, Value.long x) :: lv.filter (fun q => !(q.1 == j) && (!(q.1 == j + 1) && !(q.1 + 1 == j && q.2.category == 2))) = lv') (k : mw g l d y em n lv' st h o) : mw g l d y em pc lv (.long x :: st) h o := by
  subst hn
  exact fun b hb p e s m args below meth c H locs ls C S P F hl => lv_lstore C.1 C.2.1 hd hl hj hl' (fun ls' hl2 => k b hb p e s m args below meth c H locs ls' C S P F hl2)
theorem mw_iinc {q j : Nat} {i : Int} {x v : Int32} {lv' : List (Nat × Value)} (hd : decode y.2.1 pc = .ok (.iinc j i, 3)) (hn : pc + 3 = n) (hq : lv[q]? = some (j, .int x)) (hv : x + Int32.ofInt i = v) (hj : j < y.2.2.1) (hl' : (j, Value.int v) :: lv.filter (fun q => !(q.1 == j) && !(q.1 + 1 == j && q.2.category == 2)) = lv') (k : mw g l d y em n lv' st h o) : mw g l d y em pc lv st h o := by
  subst hn
  exact fun b hb p e s m args below meth c H locs ls C S P F hl => lv_iinc C.1 C.2.1 hd hl hq hv hj hl' (fun ls' hl2 => k b hb p e s m args below meth c H locs ls' C S P F hl2)
theorem mw_goto {off : Int} (hd : decode y.2.1 pc = .ok (.goto off, 3)) (hn : (pc : Int) + off = (n : Int)) (k : mw g l d y em n lv st h o) : mw g l d y em pc lv st h o :=
  fun b hb p e s m args below meth c H locs ls C S P F hl => lv_goto C.1 C.2.1 hd hn (k b hb p e s m args below meth c H locs ls C S P F hl)
theorem mw_dup {va : Value} (hd : decode y.2.1 pc = .ok (.dup, 1)) (hn : pc + 1 = n) (hva : va.category = 1) (k : mw g l d y em n lv (va :: va :: st) h o) : mw g l d y em pc lv (va :: st) h o := by
  subst hn
  exact fun b hb p e s m args below meth c H locs ls C S P F hl => lv_dup C.1 C.2.1 hd hva (k b hb p e s m args below meth c H locs ls C S P F hl)
theorem mw_pop {va : Value} (hd : decode y.2.1 pc = .ok (.pop, 1)) (hn : pc + 1 = n) (hva : va.category = 1) (k : mw g l d y em n lv (st) h o) : mw g l d y em pc lv (va :: st) h o := by
  subst hn
  exact fun b hb p e s m args below meth c H locs ls C S P F hl => lv_pop C.1 C.2.1 hd hva (k b hb p e s m args below meth c H locs ls C S P F hl)
theorem mw_dup2 {va vb : Value} (hd : decode y.2.1 pc = .ok (.dup2, 1)) (hn : pc + 1 = n) (hva : va.category = 1) (hvb : vb.category = 1) (k : mw g l d y em n lv (va :: vb :: va :: vb :: st) h o) : mw g l d y em pc lv (va :: vb :: st) h o := by
  subst hn
  exact fun b hb p e s m args below meth c H locs ls C S P F hl => lv_dup2_11 C.1 C.2.1 hd hva hvb (k b hb p e s m args below meth c H locs ls C S P F hl)
theorem mw_idiv {x z : Int32} (hd : decode y.2.1 pc = .ok (.idiv, 1)) (hn : pc + 1 = n) (hz : ¬ z = 0) (k : mw g l d y em n lv (.int (x / z) :: st) h o) : mw g l d y em pc lv (.int z :: .int x :: st) h o := by
  subst hn
  exact fun b hb p e s m args below meth c H locs ls C S P F hl => lv_idiv C.1 C.2.1 hd hz (k b hb p e s m args below meth c H locs ls C S P F hl)
theorem mw_irem {x z : Int32} (hd : decode y.2.1 pc = .ok (.irem, 1)) (hn : pc + 1 = n) (hz : ¬ z = 0) (k : mw g l d y em n lv (.int (xrem x z) :: st) h o) : mw g l d y em pc lv (.int z :: .int x :: st) h o := by
  subst hn
  exact fun b hb p e s m args below meth c H locs ls C S P F hl => lv_irem C.1 C.2.1 hd hz (k b hb p e s m args below meth c H locs ls C S P F hl)
theorem mw_ldiv {x z : Int64} (hd : decode y.2.1 pc = .ok (.ldiv, 1)) (hn : pc + 1 = n) (hz : ¬ z = 0) (k : mw g l d y em n lv (.long (x / z) :: st) h o) : mw g l d y em pc lv (.long z :: .long x :: st) h o := by
  subst hn
  exact fun b hb p e s m args below meth c H locs ls C S P F hl => lv_ldiv C.1 C.2.1 hd hz (k b hb p e s m args below meth c H locs ls C S P F hl)
theorem mw_lrem {x z : Int64} (hd : decode y.2.1 pc = .ok (.lrem, 1)) (hn : pc + 1 = n) (hz : ¬ z = 0) (k : mw g l d y em n lv (.long (xlrem x z) :: st) h o) : mw g l d y em pc lv (.long z :: .long x :: st) h o := by
  subst hn
  exact fun b hb p e s m args below meth c H locs ls C S P F hl => lv_lrem C.1 C.2.1 hd hz (k b hb p e s m args below meth c H locs ls C S P F hl)
theorem mw_iadd {x z : Int32} (hd : decode y.2.1 pc = .ok (.iadd, 1)) (hn : pc + 1 = n) (k : mw g l d y em n lv (.int (x + z) :: st) h o) : mw g l d y em pc lv (.int z :: .int x :: st) h o := by
  subst hn
  exact fun b hb p e s m args below meth c H locs ls C S P F hl => lv_iadd C.1 C.2.1 hd (k b hb p e s m args below meth c H locs ls C S P F hl)
theorem mw_isub {x z : Int32} (hd : decode y.2.1 pc = .ok (.isub, 1)) (hn : pc + 1 = n) (k : mw g l d y em n lv (.int (x - z) :: st) h o) : mw g l d y em pc lv (.int z :: .int x :: st) h o := by
  subst hn
  exact fun b hb p e s m args below meth c H locs ls C S P F hl => lv_isub C.1 C.2.1 hd (k b hb p e s m args below meth c H locs ls C S P F hl)
theorem mw_imul {x z : Int32} (hd : decode y.2.1 pc = .ok (.imul, 1)) (hn : pc + 1 = n) (k : mw g l d y em n lv (.int (x * z) :: st) h o) : mw g l d y em pc lv (.int z :: .int x :: st) h o := by
  subst hn
  exact fun b hb p e s m args below meth c H locs ls C S P F hl => lv_imul C.1 C.2.1 hd (k b hb p e s m args below meth c H locs ls C S P F hl)
theorem mw_iand {x z : Int32} (hd : decode y.2.1 pc = .ok (.iand, 1)) (hn : pc + 1 = n) (k : mw g l d y em n lv (.int (x &&& z) :: st) h o) : mw g l d y em pc lv (.int z :: .int x :: st) h o := by
  subst hn
  exact fun b hb p e s m args below meth c H locs ls C S P F hl => lv_iand C.1 C.2.1 hd (k b hb p e s m args below meth c H locs ls C S P F hl)
theorem mw_ior {x z : Int32} (hd : decode y.2.1 pc = .ok (.ior, 1)) (hn : pc + 1 = n) (k : mw g l d y em n lv (.int (x ||| z) :: st) h o) : mw g l d y em pc lv (.int z :: .int x :: st) h o := by
  subst hn
  exact fun b hb p e s m args below meth c H locs ls C S P F hl => lv_ior C.1 C.2.1 hd (k b hb p e s m args below meth c H locs ls C S P F hl)
theorem mw_ixor {x z : Int32} (hd : decode y.2.1 pc = .ok (.ixor, 1)) (hn : pc + 1 = n) (k : mw g l d y em n lv (.int (x ^^^ z) :: st) h o) : mw g l d y em pc lv (.int z :: .int x :: st) h o := by
  subst hn
  exact fun b hb p e s m args below meth c H locs ls C S P F hl => lv_ixor C.1 C.2.1 hd (k b hb p e s m args below meth c H locs ls C S P F hl)
theorem mw_ishl {x z : Int32} (hd : decode y.2.1 pc = .ok (.ishl, 1)) (hn : pc + 1 = n) (k : mw g l d y em n lv (.int (x <<< (z &&& 31)) :: st) h o) : mw g l d y em pc lv (.int z :: .int x :: st) h o := by
  subst hn
  exact fun b hb p e s m args below meth c H locs ls C S P F hl => lv_ishl C.1 C.2.1 hd (k b hb p e s m args below meth c H locs ls C S P F hl)
theorem mw_ishr {x z : Int32} (hd : decode y.2.1 pc = .ok (.ishr, 1)) (hn : pc + 1 = n) (k : mw g l d y em n lv (.int (x >>> (z &&& 31)) :: st) h o) : mw g l d y em pc lv (.int z :: .int x :: st) h o := by
  subst hn
  exact fun b hb p e s m args below meth c H locs ls C S P F hl => lv_ishr C.1 C.2.1 hd (k b hb p e s m args below meth c H locs ls C S P F hl)
theorem mw_ladd {x z : Int64} (hd : decode y.2.1 pc = .ok (.ladd, 1)) (hn : pc + 1 = n) (k : mw g l d y em n lv (.long (x + z) :: st) h o) : mw g l d y em pc lv (.long z :: .long x :: st) h o := by
  subst hn
  exact fun b hb p e s m args below meth c H locs ls C S P F hl => lv_ladd C.1 C.2.1 hd (k b hb p e s m args below meth c H locs ls C S P F hl)
theorem mw_lsub {x z : Int64} (hd : decode y.2.1 pc = .ok (.lsub, 1)) (hn : pc + 1 = n) (k : mw g l d y em n lv (.long (x - z) :: st) h o) : mw g l d y em pc lv (.long z :: .long x :: st) h o := by
  subst hn
  exact fun b hb p e s m args below meth c H locs ls C S P F hl => lv_lsub C.1 C.2.1 hd (k b hb p e s m args below meth c H locs ls C S P F hl)
theorem mw_lmul {x z : Int64} (hd : decode y.2.1 pc = .ok (.lmul, 1)) (hn : pc + 1 = n) (k : mw g l d y em n lv (.long (x * z) :: st) h o) : mw g l d y em pc lv (.long z :: .long x :: st) h o := by
  subst hn
  exact fun b hb p e s m args below meth c H locs ls C S P F hl => lv_lmul C.1 C.2.1 hd (k b hb p e s m args below meth c H locs ls C S P F hl)
theorem mw_land {x z : Int64} (hd : decode y.2.1 pc = .ok (.land, 1)) (hn : pc + 1 = n) (k : mw g l d y em n lv (.long (x &&& z) :: st) h o) : mw g l d y em pc lv (.long z :: .long x :: st) h o := by
  subst hn
  exact fun b hb p e s m args below meth c H locs ls C S P F hl => lv_land C.1 C.2.1 hd (k b hb p e s m args below meth c H locs ls C S P F hl)
theorem mw_lor {x z : Int64} (hd : decode y.2.1 pc = .ok (.lor, 1)) (hn : pc + 1 = n) (k : mw g l d y em n lv (.long (x ||| z) :: st) h o) : mw g l d y em pc lv (.long z :: .long x :: st) h o := by
  subst hn
  exact fun b hb p e s m args below meth c H locs ls C S P F hl => lv_lor C.1 C.2.1 hd (k b hb p e s m args below meth c H locs ls C S P F hl)
def xushr (x z : Int32) : Int32 := (x.toUInt32 >>> (z.toUInt32 &&& Int32.toUInt32 31)).toInt32
theorem mw_iushr {x z : Int32} (hd : decode y.2.1 pc = .ok (.iushr, 1)) (hn : pc + 1 = n) (k : mw g l d y em n lv (.int (xushr x z) :: st) h o) : mw g l d y em pc lv (.int z :: .int x :: st) h o := by
  subst hn
  exact fun b hb p e s m args below meth c H locs ls C S P F hl => lv_iushr C.1 C.2.1 hd rfl (k b hb p e s m args below meth c H locs ls C S P F hl)
def xlushr (x : Int64) (z : Int32) : Int64 := (x.toUInt64 >>> (z.toInt64.toUInt64 &&& Int64.toUInt64 63)).toInt64
theorem mw_lushr {x : Int64} {z : Int32} (hd : decode y.2.1 pc = .ok (.lushr, 1)) (hn : pc + 1 = n) (k : mw g l d y em n lv (.long (xlushr x z) :: st) h o) : mw g l d y em pc lv (.int z :: .long x :: st) h o := by
  subst hn
  exact fun b hb p e s m args below meth c H locs ls C S P F hl => lv_lushr C.1 C.2.1 hd rfl (k b hb p e s m args below meth c H locs ls C S P F hl)
def xlshl (x : Int64) (z : Int32) : Int64 := x <<< (z.toInt64 &&& 63)
theorem mw_lshl {x : Int64} {z : Int32} (hd : decode y.2.1 pc = .ok (.lshl, 1)) (hn : pc + 1 = n) (k : mw g l d y em n lv (.long (xlshl x z) :: st) h o) : mw g l d y em pc lv (.int z :: .long x :: st) h o := by
  subst hn
  exact fun b hb p e s m args below meth c H locs ls C S P F hl => lv_lshl C.1 C.2.1 hd rfl (k b hb p e s m args below meth c H locs ls C S P F hl)
theorem mw_i2l {x : Int32} (hd : decode y.2.1 pc = .ok (.i2l, 1)) (hn : pc + 1 = n) (k : mw g l d y em n lv (.long x.toInt64 :: st) h o) : mw g l d y em pc lv (.int x :: st) h o := by
  subst hn
  exact fun b hb p e s m args below meth c H locs ls C S P F hl => lv_i2l C.1 C.2.1 hd rfl (k b hb p e s m args below meth c H locs ls C S P F hl)
theorem mw_l2i {x : Int64} (hd : decode y.2.1 pc = .ok (.l2i, 1)) (hn : pc + 1 = n) (k : mw g l d y em n lv (.int x.toInt32 :: st) h o) : mw g l d y em pc lv (.long x :: st) h o := by
  subst hn
  exact fun b hb p e s m args below meth c H locs ls C S P F hl => lv_l2i C.1 C.2.1 hd rfl (k b hb p e s m args below meth c H locs ls C S P F hl)
theorem mw_lcmp {x z : Int64} (hd : decode y.2.1 pc = .ok (.lcmp, 1)) (hn : pc + 1 = n) (k : mw g l d y em n lv (.int (lg_cmp x z) :: st) h o) : mw g l d y em pc lv (.long z :: .long x :: st) h o := by
  subst hn
  exact fun b hb p e s m args below meth c H locs ls C S P F hl => W.lcmp C.1 C.2.1 hd (k b hb p e s m args below meth c H locs ls C S P F hl)
theorem mw_if_eq {x : Int32} {off : Int} {t : Nat} {P : Prop} [Decidable P] {o1 o2 : Option β} (hd : decode y.2.1 pc = .ok (.ifCond .eq off, 3)) (hn : pc + 3 = n) (ht : (pc : Int) + off = (t : Int)) (hP : P ↔ x = 0) (kt : P → mw g l d y em t lv st h o1) (kf : ¬ P → mw g l d y em n lv st h o2) : mw g l d y em pc lv (.int x :: st) h (if P then o1 else o2) := by
  subst hn
  intro b hb p e s m args below meth c H locs ls C S P' F hl
  by_cases q : P
  · rw [if_pos q] at hb
    exact lv_if_eq C.1 C.2.1 hd ht (fun _ => kt q b hb p e s m args below meth c H locs ls C S P' F hl) (fun r => absurd (hP.mp q) (by first | exact r | simpa using r))
  · rw [if_neg q] at hb
    exact lv_if_eq C.1 C.2.1 hd ht (fun r => absurd (hP.mpr (by first | exact r | simpa using r)) q) (fun _ => kf q b hb p e s m args below meth c H locs ls C S P' F hl)
theorem mw_icmp_eq {x z : Int32} {off : Int} {t : Nat} {P : Prop} [Decidable P] {o1 o2 : Option β} (hd : decode y.2.1 pc = .ok (.if_icmp .eq off, 3)) (hn : pc + 3 = n) (ht : (pc : Int) + off = (t : Int)) (hP : P ↔ x = z) (kt : P → mw g l d y em t lv st h o1) (kf : ¬ P → mw g l d y em n lv st h o2) : mw g l d y em pc lv (.int z :: .int x :: st) h (if P then o1 else o2) := by
  subst hn
  intro b hb p e s m args below meth c H locs ls C S P' F hl
  by_cases q : P
  · rw [if_pos q] at hb
    exact lv_icmp_eq C.1 C.2.1 hd ht (fun _ => kt q b hb p e s m args below meth c H locs ls C S P' F hl) (fun r => absurd (hP.mp q) (by first | exact r | simpa using r))
  · rw [if_neg q] at hb
    exact lv_icmp_eq C.1 C.2.1 hd ht (fun r => absurd (hP.mpr (by first | exact r | simpa using r)) q) (fun _ => kf q b hb p e s m args below meth c H locs ls C S P' F hl)
theorem mw_if_ne {x : Int32} {off : Int} {t : Nat} {P : Prop} [Decidable P] {o1 o2 : Option β} (hd : decode y.2.1 pc = .ok (.ifCond .ne off, 3)) (hn : pc + 3 = n) (ht : (pc : Int) + off = (t : Int)) (hP : P ↔ ¬ x = 0) (kt : P → mw g l d y em t lv st h o1) (kf : ¬ P → mw g l d y em n lv st h o2) : mw g l d y em pc lv (.int x :: st) h (if P then o1 else o2) := by
  subst hn
  intro b hb p e s m args below meth c H locs ls C S P' F hl
  by_cases q : P
  · rw [if_pos q] at hb
    exact lv_if_ne C.1 C.2.1 hd ht (fun _ => kt q b hb p e s m args below meth c H locs ls C S P' F hl) (fun r => absurd (hP.mp q) (by first | exact r | simpa using r))
  · rw [if_neg q] at hb
    exact lv_if_ne C.1 C.2.1 hd ht (fun r => absurd (hP.mpr (by first | exact r | simpa using r)) q) (fun _ => kf q b hb p e s m args below meth c H locs ls C S P' F hl)
theorem mw_icmp_ne {x z : Int32} {off : Int} {t : Nat} {P : Prop} [Decidable P] {o1 o2 : Option β} (hd : decode y.2.1 pc = .ok (.if_icmp .ne off, 3)) (hn : pc + 3 = n) (ht : (pc : Int) + off = (t : Int)) (hP : P ↔ ¬ x = z) (kt : P → mw g l d y em t lv st h o1) (kf : ¬ P → mw g l d y em n lv st h o2) : mw g l d y em pc lv (.int z :: .int x :: st) h (if P then o1 else o2) := by
  subst hn
  intro b hb p e s m args below meth c H locs ls C S P' F hl
  by_cases q : P
  · rw [if_pos q] at hb
    exact lv_icmp_ne C.1 C.2.1 hd ht (fun _ => kt q b hb p e s m args below meth c H locs ls C S P' F hl) (fun r => absurd (hP.mp q) (by first | exact r | simpa using r))
  · rw [if_neg q] at hb
    exact lv_icmp_ne C.1 C.2.1 hd ht (fun r => absurd (hP.mpr (by first | exact r | simpa using r)) q) (fun _ => kf q b hb p e s m args below meth c H locs ls C S P' F hl)
theorem mw_if_lt {x : Int32} {off : Int} {t : Nat} {P : Prop} [Decidable P] {o1 o2 : Option β} (hd : decode y.2.1 pc = .ok (.ifCond .lt off, 3)) (hn : pc + 3 = n) (ht : (pc : Int) + off = (t : Int)) (hP : P ↔ x < 0) (kt : P → mw g l d y em t lv st h o1) (kf : ¬ P → mw g l d y em n lv st h o2) : mw g l d y em pc lv (.int x :: st) h (if P then o1 else o2) := by
  subst hn
  intro b hb p e s m args below meth c H locs ls C S P' F hl
  by_cases q : P
  · rw [if_pos q] at hb
    exact lv_if_lt C.1 C.2.1 hd ht (fun _ => kt q b hb p e s m args below meth c H locs ls C S P' F hl) (fun r => absurd (hP.mp q) (by first | exact r | simpa using r))
  · rw [if_neg q] at hb
    exact lv_if_lt C.1 C.2.1 hd ht (fun r => absurd (hP.mpr (by first | exact r | simpa using r)) q) (fun _ => kf q b hb p e s m args below meth c H locs ls C S P' F hl)
theorem mw_icmp_lt {x z : Int32} {off : Int} {t : Nat} {P : Prop} [Decidable P] {o1 o2 : Option β} (hd : decode y.2.1 pc = .ok (.if_icmp .lt off, 3)) (hn : pc + 3 = n) (ht : (pc : Int) + off = (t : Int)) (hP : P ↔ x < z) (kt : P → mw g l d y em t lv st h o1) (kf : ¬ P → mw g l d y em n lv st h o2) : mw g l d y em pc lv (.int z :: .int x :: st) h (if P then o1 else o2) := by
  subst hn
  intro b hb p e s m args below meth c H locs ls C S P' F hl
  by_cases q : P
  · rw [if_pos q] at hb
    exact lv_icmp_lt C.1 C.2.1 hd ht (fun _ => kt q b hb p e s m args below meth c H locs ls C S P' F hl) (fun r => absurd (hP.mp q) (by first | exact r | simpa using r))
  · rw [if_neg q] at hb
    exact lv_icmp_lt C.1 C.2.1 hd ht (fun r => absurd (hP.mpr (by first | exact r | simpa using r)) q) (fun _ => kf q b hb p e s m args below meth c H locs ls C S P' F hl)
theorem mw_if_ge {x : Int32} {off : Int} {t : Nat} {P : Prop} [Decidable P] {o1 o2 : Option β} (hd : decode y.2.1 pc = .ok (.ifCond .ge off, 3)) (hn : pc + 3 = n) (ht : (pc : Int) + off = (t : Int)) (hP : P ↔ 0 ≤ x) (kt : P → mw g l d y em t lv st h o1) (kf : ¬ P → mw g l d y em n lv st h o2) : mw g l d y em pc lv (.int x :: st) h (if P then o1 else o2) := by
  subst hn
  intro b hb p e s m args below meth c H locs ls C S P' F hl
  by_cases q : P
  · rw [if_pos q] at hb
    exact lv_if_ge C.1 C.2.1 hd ht (fun _ => kt q b hb p e s m args below meth c H locs ls C S P' F hl) (fun r => absurd (hP.mp q) (by first | exact r | simpa using r))
  · rw [if_neg q] at hb
    exact lv_if_ge C.1 C.2.1 hd ht (fun r => absurd (hP.mpr (by first | exact r | simpa using r)) q) (fun _ => kf q b hb p e s m args below meth c H locs ls C S P' F hl)
theorem mw_icmp_ge {x z : Int32} {off : Int} {t : Nat} {P : Prop} [Decidable P] {o1 o2 : Option β} (hd : decode y.2.1 pc = .ok (.if_icmp .ge off, 3)) (hn : pc + 3 = n) (ht : (pc : Int) + off = (t : Int)) (hP : P ↔ z ≤ x) (kt : P → mw g l d y em t lv st h o1) (kf : ¬ P → mw g l d y em n lv st h o2) : mw g l d y em pc lv (.int z :: .int x :: st) h (if P then o1 else o2) := by
  subst hn
  intro b hb p e s m args below meth c H locs ls C S P' F hl
  by_cases q : P
  · rw [if_pos q] at hb
    exact lv_icmp_ge C.1 C.2.1 hd ht (fun _ => kt q b hb p e s m args below meth c H locs ls C S P' F hl) (fun r => absurd (hP.mp q) (by first | exact r | simpa using r))
  · rw [if_neg q] at hb
    exact lv_icmp_ge C.1 C.2.1 hd ht (fun r => absurd (hP.mpr (by first | exact r | simpa using r)) q) (fun _ => kf q b hb p e s m args below meth c H locs ls C S P' F hl)
theorem mw_if_gt {x : Int32} {off : Int} {t : Nat} {P : Prop} [Decidable P] {o1 o2 : Option β} (hd : decode y.2.1 pc = .ok (.ifCond .gt off, 3)) (hn : pc + 3 = n) (ht : (pc : Int) + off = (t : Int)) (hP : P ↔ 0 < x) (kt : P → mw g l d y em t lv st h o1) (kf : ¬ P → mw g l d y em n lv st h o2) : mw g l d y em pc lv (.int x :: st) h (if P then o1 else o2) := by
  subst hn
  intro b hb p e s m args below meth c H locs ls C S P' F hl
  by_cases q : P
  · rw [if_pos q] at hb
    exact lv_if_gt C.1 C.2.1 hd ht (fun _ => kt q b hb p e s m args below meth c H locs ls C S P' F hl) (fun r => absurd (hP.mp q) (by first | exact r | simpa using r))
  · rw [if_neg q] at hb
    exact lv_if_gt C.1 C.2.1 hd ht (fun r => absurd (hP.mpr (by first | exact r | simpa using r)) q) (fun _ => kf q b hb p e s m args below meth c H locs ls C S P' F hl)
theorem mw_icmp_gt {x z : Int32} {off : Int} {t : Nat} {P : Prop} [Decidable P] {o1 o2 : Option β} (hd : decode y.2.1 pc = .ok (.if_icmp .gt off, 3)) (hn : pc + 3 = n) (ht : (pc : Int) + off = (t : Int)) (hP : P ↔ z < x) (kt : P → mw g l d y em t lv st h o1) (kf : ¬ P → mw g l d y em n lv st h o2) : mw g l d y em pc lv (.int z :: .int x :: st) h (if P then o1 else o2) := by
  subst hn
  intro b hb p e s m args below meth c H locs ls C S P' F hl
  by_cases q : P
  · rw [if_pos q] at hb
    exact lv_icmp_gt C.1 C.2.1 hd ht (fun _ => kt q b hb p e s m args below meth c H locs ls C S P' F hl) (fun r => absurd (hP.mp q) (by first | exact r | simpa using r))
  · rw [if_neg q] at hb
    exact lv_icmp_gt C.1 C.2.1 hd ht (fun r => absurd (hP.mpr (by first | exact r | simpa using r)) q) (fun _ => kf q b hb p e s m args below meth c H locs ls C S P' F hl)
theorem mw_if_le {x : Int32} {off : Int} {t : Nat} {P : Prop} [Decidable P] {o1 o2 : Option β} (hd : decode y.2.1 pc = .ok (.ifCond .le off, 3)) (hn : pc + 3 = n) (ht : (pc : Int) + off = (t : Int)) (hP : P ↔ x ≤ 0) (kt : P → mw g l d y em t lv st h o1) (kf : ¬ P → mw g l d y em n lv st h o2) : mw g l d y em pc lv (.int x :: st) h (if P then o1 else o2) := by
  subst hn
  intro b hb p e s m args below meth c H locs ls C S P' F hl
  by_cases q : P
  · rw [if_pos q] at hb
    exact lv_if_le C.1 C.2.1 hd ht (fun _ => kt q b hb p e s m args below meth c H locs ls C S P' F hl) (fun r => absurd (hP.mp q) (by first | exact r | simpa using r))
  · rw [if_neg q] at hb
    exact lv_if_le C.1 C.2.1 hd ht (fun r => absurd (hP.mpr (by first | exact r | simpa using r)) q) (fun _ => kf q b hb p e s m args below meth c H locs ls C S P' F hl)
theorem mw_icmp_le {x z : Int32} {off : Int} {t : Nat} {P : Prop} [Decidable P] {o1 o2 : Option β} (hd : decode y.2.1 pc = .ok (.if_icmp .le off, 3)) (hn : pc + 3 = n) (ht : (pc : Int) + off = (t : Int)) (hP : P ↔ x ≤ z) (kt : P → mw g l d y em t lv st h o1) (kf : ¬ P → mw g l d y em n lv st h o2) : mw g l d y em pc lv (.int z :: .int x :: st) h (if P then o1 else o2) := by
  subst hn
  intro b hb p e s m args below meth c H locs ls C S P' F hl
  by_cases q : P
  · rw [if_pos q] at hb
    exact lv_icmp_le C.1 C.2.1 hd ht (fun _ => kt q b hb p e s m args below meth c H locs ls C S P' F hl) (fun r => absurd (hP.mp q) (by first | exact r | simpa using r))
  · rw [if_neg q] at hb
    exact lv_icmp_le C.1 C.2.1 hd ht (fun r => absurd (hP.mpr (by first | exact r | simpa using r)) q) (fun _ => kf q b hb p e s m args below meth c H locs ls C S P' F hl)
theorem mw_iret {x : Int32} {b : β} (hd : decode y.2.1 pc = .ok (.ireturn, 1)) (hr : y.2.2.2 = some .int) (he : em b = (some (.int x), h)) : mw g l d y em pc lv [.int x] h (some b) := by
  intro b' hb p e s m args below meth c H locs ls C S P F hl
  cases hb
  exact W.iret C.1 C.2.1 (C.2.2.1.trans hr) (fun t ht hW => by rw [he]; exact ⟨rfl, by rw [ht]; exact P, F.F ht⟩) F.2.2 hd (hlocks := C.2.2.2.1)
theorem mw_zret {x : Int32} {b : β} (hd : decode y.2.1 pc = .ok (.ireturn, 1)) (hr : y.2.2.2 = some .boolean) (hx : x = 0 ∨ x = 1) (he : em b = (some (.int x), h)) : mw g l d y em pc lv [.int x] h (some b) := by
  intro b' hb p e s m args below meth c H locs ls C S P F hl
  cases hb
  exact W.zret C.1 C.2.1 (C.2.2.1.trans hr) (by rcases hx with rfl | rfl <;> rfl) (fun t ht hW => by rw [he]; exact ⟨rfl, by rw [ht]; exact P, F.F ht⟩) F.2.2 hd (hlocks := C.2.2.2.1)
theorem mw_lret {x : Int64} {b : β} (hd : decode y.2.1 pc = .ok (.lreturn, 1)) (hr : y.2.2.2 = some .long) (he : em b = (some (.long x), h)) : mw g l d y em pc lv [.long x] h (some b) := by
  intro b' hb p e s m args below meth c H locs ls C S P F hl
  cases hb
  exact W.lret C.1 C.2.1 (C.2.2.1.trans hr) (fun t ht hW => by rw [he]; exact ⟨rfl, by rw [ht]; exact P, F.F ht⟩) F.2.2 hd (hlocks := C.2.2.2.1)
theorem mw_vret {b : β} (hd : decode y.2.1 pc = .ok (.return_, 1)) (hr : y.2.2.2 = none) (he : em b = (none, h)) : mw g l d y em pc lv [] h (some b) := by
  intro b' hb p e s m args below meth c H locs ls C S P F hl
  cases hb
  exact W.vret C.1 C.2.1 (C.2.2.1.trans hr) (fun t ht hW => by rw [he]; exact ⟨rfl, by rw [ht]; exact P, F.F ht⟩) F.2.2 hd (hlocks := C.2.2.2.1)
end MR
end
section
/-- a cell that is there, of a kind -/
def mkn (g : mG) (a c : Nat) : Prop := a < mnn g ∧ mk a = c
def vwN : List Nat := [3, 10, 2, 2, 3, 4, 7, 5, 13, 26]
theorem mEn_obj {g : mG} {h : mH} {a c : Nat} (ha : mk a = c) (hc : c < 10) : mEn g h a = .inr (c, mFs g h a c) := by
  subst ha
  simp [mEn, hc]
theorem mEn_int {g : mG} {h : mH} {a N : Nat} (ha : mk a = 100 + N) : mEn g h a = .inl (g.2.1.1, N, .inl (mgi h a)) := by
  unfold mEn
  rw [ha, if_neg (by omega), if_neg (by omega), if_neg (by omega), if_neg (by omega)]
  congr 2
  rw [Nat.add_sub_cancel_left]
theorem mEn_bool {g : mG} {h : mH} {a : Nat} (ha : mk a = 50) : mEn g h a = .inl (g.2.1.2.1, 2, .inl (mgi h a)) := by simp [mEn, ha]
theorem mEn_60 {g : mG} {h : mH} {a : Nat} (ha : mk a = 60) : mEn g h a = .inl (g.2.1.2.2, 14, .inr (.inr (.inr (.inr fun j => some (mad g (22 + 3 * j)))))) := by simp [mEn, ha]
theorem mEn_61 {g : mG} {h : mH} {a : Nat} (ha : mk a = 61) : mEn g h a = .inl (g.2.1.2.2, 2, .inr (.inr (.inr (.inr fun j => some (mad g (76 + 3 * j)))))) := by simp [mEn, ha]
theorem mWd_obj {g : mG} {h : mH} {a c : Nat} (ha : mkn g a c) (hc : c < 10) : (mWd g h)[a]? = some (mad g a, .inr (c, mFs g h a c)) := by rw [mWd_at ha.1, mEn_obj ha.2 hc]
theorem mWd_int {g : mG} {h : mH} {a N : Nat} (ha : mkn g a (100 + N)) : (mWd g h)[a]? = some (mad g a, .inl (g.2.1.1, N, .inl (mgi h a))) := by rw [mWd_at ha.1, mEn_int ha.2]
theorem mWd_bool {g : mG} {h : mH} {a : Nat} (ha : mkn g a 50) : (mWd g h)[a]? = some (mad g a, .inl (g.2.1.2.1, 2, .inl (mgi h a))) := by rw [mWd_at ha.1, mEn_bool ha.2]
theorem mWd_60 {g : mG} {h : mH} {a : Nat} (ha : mkn g a 60) : (mWd g h)[a]? = some (mad g a, .inl (g.2.1.2.2, 14, .inr (.inr (.inr (.inr fun j => some (mad g (22 + 3 * j))))))) := by rw [mWd_at ha.1, mEn_60 ha.2]
theorem mWd_61 {g : mG} {h : mH} {a : Nat} (ha : mkn g a 61) : (mWd g h)[a]? = some (mad g a, .inl (g.2.1.2.2, 2, .inr (.inr (.inr (.inr fun j => some (mad g (76 + 3 * j))))))) := by rw [mWd_at ha.1, mEn_61 ha.2]
theorem mfv_int {g : mG} {h : mH} {a c k : Nat} (hk : mfk c k = 0) : mfv g h a c k = .int (mgi h a k) := by unfold mfv; rw [hk]
theorem mfv_long {g : mG} {h : mH} {a c k : Nat} (hk : mfk c k = 1) : mfv g h a c k = .long (mgl h a k) := by unfold mfv; rw [hk]
theorem mfv_ref {g : mG} {h : mH} {a c k t : Nat} (hk : mfk c k = t + 2) : mfv g h a c k = .ref (mad g (a + t)) := by unfold mfv; rw [hk]
theorem mEn_setI {g : mG} {h : mH} {a c k : Nat} {v : Int32} (ha : mk a = c) (hc : c < 10) (hk : mfk c k = 0) : Sum.inr (c, (mFs g h a c).set k (.int v)) = mEn g (msi h a k v) a := by
  have e := mFs_set (g := g) (h := h) (h' := msi h a k v) (i := a) (c := c) (k := k) (fun j hj => by
    unfold mfv
    split
    · rw [mgi_msi, if_neg (fun q => hj q.2)]
    · rfl
    · rfl)
  rw [mfv_int hk, mgi_msi, if_pos ⟨rfl, rfl⟩] at e
  rw [mEn_obj ha hc, e]
theorem mEn_setL {g : mG} {h : mH} {a c k : Nat} {v : Int64} (ha : mk a = c) (hc : c < 10) (hk : mfk c k = 1) : Sum.inr (c, (mFs g h a c).set k (.long v)) = mEn g (msl h a k v) a := by
  have e := mFs_set (g := g) (h := h) (h' := msl h a k v) (i := a) (c := c) (k := k) (fun j hj => by
    unfold mfv
    split
    · rfl
    · rw [mgl_msl, if_neg (fun q => hj q.2)]
    · rfl)
  rw [mfv_long hk, mgl_msl, if_pos ⟨rfl, rfl⟩] at e
  rw [mEn_obj ha hc, e]
/-- a class of ours, with what the tables say of it -/
def mCl (ci : Nat) (C : String) (T : u_T) : Prop := ci < 10 ∧ vwCl[ci]? = some (C, T, mNf ci) ∧ (∀ w ∈ u_ws C T (mNf ci), w ∈ mTb)
def mCt (T : u_T) (ci : Nat) : Prop := ∃ ty0 : Nat → FieldType, (∀ k, k < mNf ci → parseFieldDescriptor (T k).2.2.1 = some (ty0 k)) ∧ (∀ a, a < mNf ci → ∀ b, b < mNf ci → a ≠ b → (T a).2.1 ≠ (T b).2.1)
section MF
variable {g : mG} {l : Launch} {d : Nat} {y : mD} {β : Type} {em : β → Option Value × mH} {pc n : Nat} {lv : List (Nat × Value)} {st : List Value} {h : mH} {o : Option β}
theorem mw_get {ci a k i : Nat} {C : String} {T : u_T} (hC : mCl ci C T) (ha : mkn g a ci) (hk : k < mNf ci) (hT : (T k).1 = C) (hL : Cond.fieldLink y.1.cls i C (T k).2.1 (T k).2.2.1 ∈ mTb) (hd : decode y.2.1 pc = .ok (.getfield i, 3)) (hn : pc + 3 = n) {v : Value} (hv : mfv g h a ci k = v) (kk : mw g l d y em n lv (v :: st) h o) : mw g l d y em pc lv (.ref (mad g a) :: st) h o := by
  subst hn
  intro b hb p e s m args below meth c H locs ls Cx S P F hl
  exact va_get Cx.1 Cx.2.1 Cx.2.2.2.2.2.2 hC.2.2 Cx.2.2.2.2.2.1 S.1 P a (mWd_obj ha hC.1) hC.2.1 k hk (Cx.2.2.2.2.2.2 _ hL) (fun x hx => by rw [← hT]; exact hx) (by rw [mFs_at hk, hv]) hd (kk b hb p e s m args below meth c H locs ls Cx S P F hl)
theorem mw_geti {ci a k i : Nat} {C : String} {T : u_T} (hC : mCl ci C T) (ha : mkn g a ci) (hk : k < mNf ci) (hf : mfk ci k = 0) (hT : (T k).1 = C) (hL : Cond.fieldLink y.1.cls i C (T k).2.1 (T k).2.2.1 ∈ mTb) (hd : decode y.2.1 pc = .ok (.getfield i, 3)) (hn : pc + 3 = n) (kk : mw g l d y em n lv (.int (mgi h a k) :: st) h o) : mw g l d y em pc lv (.ref (mad g a) :: st) h o :=
  mw_get hC ha hk hT hL hd hn (mfv_int hf) kk
theorem mw_getl {ci a k i : Nat} {C : String} {T : u_T} (hC : mCl ci C T) (ha : mkn g a ci) (hk : k < mNf ci) (hf : mfk ci k = 1) (hT : (T k).1 = C) (hL : Cond.fieldLink y.1.cls i C (T k).2.1 (T k).2.2.1 ∈ mTb) (hd : decode y.2.1 pc = .ok (.getfield i, 3)) (hn : pc + 3 = n) (kk : mw g l d y em n lv (.long (mgl h a k) :: st) h o) : mw g l d y em pc lv (.ref (mad g a) :: st) h o :=
  mw_get hC ha hk hT hL hd hn (mfv_long hf) kk
theorem mw_getr {ci a k i t : Nat} {C : String} {T : u_T} (hC : mCl ci C T) (ha : mkn g a ci) (hk : k < mNf ci) (hf : mfk ci k = t + 2) (hT : (T k).1 = C) (hL : Cond.fieldLink y.1.cls i C (T k).2.1 (T k).2.2.1 ∈ mTb) (hd : decode y.2.1 pc = .ok (.getfield i, 3)) (hn : pc + 3 = n) (kk : mw g l d y em n lv (.ref (mad g (a + t)) :: st) h o) : mw g l d y em pc lv (.ref (mad g a) :: st) h o :=
  mw_get hC ha hk hT hL hd hn (mfv_ref hf) kk
theorem mw_puti {ci a k i : Nat} {C : String} {T : u_T} {v : Int32} (hC : mCl ci C T) (hCt : mCt T ci) (ha : mkn g a ci) (hk : k < mNf ci) (hf : mfk ci k = 0) (hT : (T k).1 = C) (hfin : (T k).2.2.2 = false) (hI : (T k).2.2.1 = "I") (hL : Cond.fieldLink y.1.cls i C (T k).2.1 (T k).2.2.1 ∈ mTb) (hd : decode y.2.1 pc = .ok (.putfield i, 3)) (hn : pc + 3 = n) (kk : mw g l d y em n lv st (msi h a k v) o) : mw g l d y em pc lv (.int v :: .ref (mad g a) :: st) h o := by
  subst hn
  intro b hb p e s m args below meth c H locs ls Cx S P F hl
  obtain ⟨ty0, h1, h2⟩ := hCt
  refine va_put Cx.1 Cx.2.1 Cx.2.2.2.2.2.2 hC.2.2 ty0 h1 h2 Cx.2.2.2.2.2.1 S.1 P (mWd_D S.2.1) F a (mWd_obj ha hC.1) hC.2.1 k hk (Cx.2.2.2.2.2.2 _ hL) (fun x hx => by rw [← hT]; exact hx) hfin (ty := .int) (by rw [hI]; decide +kernel) rfl rfl (by rw [mFs_len]; exact hk) hd (fun H1 locs1 P1 D1 F1 => ?_)
  rw [mWd_set (h' := msi h a k v) (mEn_setI ha.2 hC.1 hf) (fun j hj => mEn_ne hj k v)] at P1
  exact kk b hb p e s m args below meth c H1 locs1 ls Cx S P1 F1 hl
theorem mw_putl {ci a k i : Nat} {C : String} {T : u_T} {v : Int64} (hC : mCl ci C T) (hCt : mCt T ci) (ha : mkn g a ci) (hk : k < mNf ci) (hf : mfk ci k = 1) (hT : (T k).1 = C) (hfin : (T k).2.2.2 = false) (hI : (T k).2.2.1 = "J") (hL : Cond.fieldLink y.1.cls i C (T k).2.1 (T k).2.2.1 ∈ mTb) (hd : decode y.2.1 pc = .ok (.putfield i, 3)) (hn : pc + 3 = n) (kk : mw g l d y em n lv st (msl h a k v) o) : mw g l d y em pc lv (.long v :: .ref (mad g a) :: st) h o := by
  subst hn
  intro b hb p e s m args below meth c H locs ls Cx S P F hl
  obtain ⟨ty0, h1, h2⟩ := hCt
  refine va_put Cx.1 Cx.2.1 Cx.2.2.2.2.2.2 hC.2.2 ty0 h1 h2 Cx.2.2.2.2.2.1 S.1 P (mWd_D S.2.1) F a (mWd_obj ha hC.1) hC.2.1 k hk (Cx.2.2.2.2.2.2 _ hL) (fun x hx => by rw [← hT]; exact hx) hfin (ty := .long) (by rw [hI]; decide +kernel) rfl rfl (by rw [mFs_len]; exact hk) hd (fun H1 locs1 P1 D1 F1 => ?_)
  rw [mWd_set (h' := msl h a k v) (mEn_setL ha.2 hC.1 hf) (fun j hj => mEn_neL hj k v)] at P1
  exact kk b hb p e s m args below meth c H1 locs1 ls Cx S P1 F1 hl
/-- an index that is looked at -/
def mck (i : Int32) (N : Nat) (k : Option β) : Option β := if i < 0 ∨ N ≤ i.toNatClampNeg then none else k
theorem mck_ok {i : Int32} {N : Nat} {k : Option β} (hi : vp_in i N) : mck i N k = k := if_neg hi
theorem mw_iald' {a N : Nat} {i : Int32} (ha : mkn g a (100 + N)) (hi : vp_in i N) (hd : decode y.2.1 pc = .ok (.iaload, 1)) (hn : pc + 1 = n) (kk : mw g l d y em n lv (.int (mgi h a i.toNatClampNeg) :: st) h o) : mw g l d y em pc lv (.int i :: .ref (mad g a) :: st) h o := by
  subst hn
  intro b hb p e s m args below meth c H locs ls Cx S P F hl
  exact va_iald Cx.1 Cx.2.1 S.1 P a 0 (mWd_int ha) rfl hi hd (kk b hb p e s m args below meth c H locs ls Cx S P F hl)
theorem mw_iald {a N : Nat} {i : Int32} (ha : mkn g a (100 + N)) (hd : decode y.2.1 pc = .ok (.iaload, 1)) (hn : pc + 1 = n) (kk : mw g l d y em n lv (.int (mgi h a i.toNatClampNeg) :: st) h o) : mw g l d y em pc lv (.int i :: .ref (mad g a) :: st) h (mck i N o) := by
  by_cases hi : vp_in i N
  · rw [mck_ok hi]
    exact mw_iald' ha hi hd hn kk
  · rw [show mck i N o = none from if_pos (Classical.not_not.mp hi)]
    exact mw_none
theorem mw_zald {a : Nat} {i : Int32} (ha : mkn g a 50) (hd : decode y.2.1 pc = .ok (.baload, 1)) (hn : pc + 1 = n) (kk : mw g l d y em n lv (.int (mgi h a i.toNatClampNeg) :: st) h o) : mw g l d y em pc lv (.int i :: .ref (mad g a) :: st) h (mck i 2 o) := by
  subst hn
  by_cases hi : vp_in i 2
  · rw [mck_ok hi]
    intro b hb p e s m args below meth c H locs ls Cx S P F hl
    exact va_zald Cx.1 Cx.2.1 S.1 P a 1 (mWd_bool ha) rfl hi hd (kk b hb p e s m args below meth c H locs ls Cx S P F hl)
  · rw [show mck i 2 o = none from if_pos (Classical.not_not.mp hi)]
    exact mw_none
theorem mEn_setA {g : mG} {h : mH} {a N : Nat} {i : Nat} {v : Int32} (ha : mk a = 100 + N) : Sum.inl (g.2.1.1, N, Sum.inl (upd (mgi h a) i v)) = mEn g (msi h a i v) a := by
  rw [mEn_int ha]
  have e : upd (mgi h a) i v = mgi (msi h a i v) a := by
    funext j
    rw [mgi_msi]
    by_cases e : j = i <;> simp [upd, e]
  rw [e]
theorem mEn_setZ {g : mG} {h : mH} {a : Nat} {i : Nat} {v : Int32} (ha : mk a = 50) : Sum.inl (g.2.1.2.1, 2, Sum.inl (upd (mgi h a) i v)) = mEn g (msi h a i v) a := by
  rw [mEn_bool ha]
  have e : upd (mgi h a) i v = mgi (msi h a i v) a := by
    funext j
    rw [mgi_msi]
    by_cases e : j = i <;> simp [upd, e]
  rw [e]
theorem mw_iast {a N : Nat} {i v : Int32} (ha : mkn g a (100 + N)) (hd : decode y.2.1 pc = .ok (.iastore, 1)) (hn : pc + 1 = n) (kk : mw g l d y em n lv st (msi h a i.toNatClampNeg v) o) : mw g l d y em pc lv (.int v :: .int i :: .ref (mad g a) :: st) h (mck i N o) := by
  subst hn
  by_cases hi : vp_in i N
  · rw [mck_ok hi]
    intro b hb p e s m args below meth c H locs ls Cx S P F hl
    refine va_iast Cx.1 Cx.2.1 S.1 P (mWd_D S.2.1) F a 0 (mWd_int ha) rfl hi hd (fun H1 locs1 P1 D1 F1 => ?_)
    rw [mWd_set (h' := msi h a i.toNatClampNeg v) (mEn_setA ha.2) (fun j hj => mEn_ne hj _ v)] at P1
    exact kk b hb p e s m args below meth c H1 locs1 ls Cx S P1 F1 hl
  · rw [show mck i N o = none from if_pos (Classical.not_not.mp hi)]
    exact mw_none
theorem mw_zast {a : Nat} {i v : Int32} (ha : mkn g a 50) (hv : vp_nar .boolean v = v) (hd : decode y.2.1 pc = .ok (.bastore, 1)) (hn : pc + 1 = n) (kk : mw g l d y em n lv st (msi h a i.toNatClampNeg v) o) : mw g l d y em pc lv (.int v :: .int i :: .ref (mad g a) :: st) h (mck i 2 o) := by
  subst hn
  by_cases hi : vp_in i 2
  · rw [mck_ok hi]
    intro b hb p e s m args below meth c H locs ls Cx S P F hl
    refine va_zast Cx.1 Cx.2.1 S.1 P (mWd_D S.2.1) F a 1 (mWd_bool ha) rfl hi hd (fun H1 locs1 P1 D1 F1 => ?_)
    rw [hv, mWd_set (h' := msi h a i.toNatClampNeg v) (mEn_setZ ha.2) (fun j hj => mEn_ne hj _ v)] at P1
    exact kk b hb p e s m args below meth c H1 locs1 ls Cx S P1 F1 hl
  · rw [show mck i 2 o = none from if_pos (Classical.not_not.mp hi)]
    exact mw_none
theorem mw_aald60 {a : Nat} {i : Int32} (ha : mkn g a 60) (hd : decode y.2.1 pc = .ok (.aaload, 1)) (hn : pc + 1 = n) (kk : vp_in i 14 → mw g l d y em n lv (.ref (mad g (22 + 3 * i.toNatClampNeg)) :: st) h o) : mw g l d y em pc lv (.int i :: .ref (mad g a) :: st) h (mck i 14 o) := by
  subst hn
  by_cases hi : vp_in i 14
  · rw [mck_ok hi]
    intro b hb p e s m args below meth c H locs ls Cx S P F hl
    exact va_aldq Cx.1 Cx.2.1 S.1 P a 2 (mWd_60 ha) rfl hi hd (kk hi b hb p e s m args below meth c H locs ls Cx S P F hl)
  · rw [show mck i 14 o = none from if_pos (Classical.not_not.mp hi)]
    exact mw_none
theorem mw_aald61 {a : Nat} {i : Int32} (ha : mkn g a 61) (hd : decode y.2.1 pc = .ok (.aaload, 1)) (hn : pc + 1 = n) (kk : vp_in i 2 → mw g l d y em n lv (.ref (mad g (76 + 3 * i.toNatClampNeg)) :: st) h o) : mw g l d y em pc lv (.int i :: .ref (mad g a) :: st) h (mck i 2 o) := by
  subst hn
  by_cases hi : vp_in i 2
  · rw [mck_ok hi]
    intro b hb p e s m args below meth c H locs ls Cx S P F hl
    exact va_aldq Cx.1 Cx.2.1 S.1 P a 2 (mWd_61 ha) rfl hi hd (kk hi b hb p e s m args below meth c H locs ls Cx S P F hl)
  · rw [show mck i 2 o = none from if_pos (Classical.not_not.mp hi)]
    exact mw_none
/-! the rows that nobody writes -/
theorem mw_gsF {i : Nat} (hL : Cond.fieldLink y.1.cls i "TwoViews$Answers" "FIRST_WITH_YES" "[I" ∈ mTb) (hd : decode y.2.1 pc = .ok (.getstatic i, 3)) (hn : pc + 3 = n) (kk : mw g l d y em n lv (.ref g.2.2.2.2.1 :: st) h o) : mw g l d y em pc lv st h o := by
  subst hn
  exact fun b hb p e s m args below meth c H locs ls Cx S P F hl => va_gets Cx.1 Cx.2.1 S.2.2.2.1.1 F Cx.2.2.2.2.2.1 (Cx.2.2.2.2.2.2 _ hL) (fun _ hx => hx) hd (kk b hb p e s m args below meth c H locs ls Cx S P F hl)
theorem mw_gsR {i : Nat} (hL : Cond.fieldLink y.1.cls i "TwoViews$Answers" "ROWS_BY_YES" "[I" ∈ mTb) (hd : decode y.2.1 pc = .ok (.getstatic i, 3)) (hn : pc + 3 = n) (kk : mw g l d y em n lv (.ref g.2.2.2.2.2.1 :: st) h o) : mw g l d y em pc lv st h o := by
  subst hn
  exact fun b hb p e s m args below meth c H locs ls Cx S P F hl => va_gets Cx.1 Cx.2.1 S.2.2.2.2.1.1 F Cx.2.2.2.2.2.1 (Cx.2.2.2.2.2.2 _ hL) (fun _ hx => hx) hd (kk b hb p e s m args below meth c H locs ls Cx S P F hl)
theorem mw_gsU {i : Nat} (hL : Cond.fieldLink y.1.cls i "TwoViews" "DOING_UNITS" "[J" ∈ mTb) (hd : decode y.2.1 pc = .ok (.getstatic i, 3)) (hn : pc + 3 = n) (kk : mw g l d y em n lv (.ref g.2.2.2.2.2.2 :: st) h o) : mw g l d y em pc lv st h o := by
  subst hn
  exact fun b hb p e s m args below meth c H locs ls Cx S P F hl => va_gets Cx.1 Cx.2.1 S.2.2.2.2.2.1 F Cx.2.2.2.2.2.1 (Cx.2.2.2.2.2.2 _ hL) (fun _ hx => hx) hd (kk b hb p e s m args below meth c H locs ls Cx S P F hl)
theorem mw_ldF {i : Int32} (hd : decode y.2.1 pc = .ok (.iaload, 1)) (hn : pc + 1 = n) (kk : mw g l d y em n lv (.int (mFirst i.toNatClampNeg) :: st) h o) : mw g l d y em pc lv (.int i :: .ref g.2.2.2.2.1 :: st) h (mck i 7 o) := by
  subst hn
  by_cases hi : vp_in i 7
  · rw [mck_ok hi]
    intro b hb p e s m args below meth c H locs ls Cx S P F hl
    exact va_sld Cx.1 Cx.2.1 S.2.2.2.1.2.1 S.2.2.2.1.2.2.1 S.2.2.2.1.2.2.2 F hi hd (kk b hb p e s m args below meth c H locs ls Cx S P F hl)
  · rw [show mck i 7 o = none from if_pos (Classical.not_not.mp hi)]
    exact mw_none
theorem mw_ldR {i : Int32} (hd : decode y.2.1 pc = .ok (.iaload, 1)) (hn : pc + 1 = n) (kk : mw g l d y em n lv (.int (mRows i.toNatClampNeg) :: st) h o) : mw g l d y em pc lv (.int i :: .ref g.2.2.2.2.2.1 :: st) h (mck i 32 o) := by
  subst hn
  by_cases hi : vp_in i 32
  · rw [mck_ok hi]
    intro b hb p e s m args below meth c H locs ls Cx S P F hl
    exact va_sld Cx.1 Cx.2.1 S.2.2.2.2.1.2.1 S.2.2.2.2.1.2.2.1 S.2.2.2.2.1.2.2.2 F hi hd (kk b hb p e s m args below meth c H locs ls Cx S P F hl)
  · rw [show mck i 32 o = none from if_pos (Classical.not_not.mp hi)]
    exact mw_none
theorem mw_ldU {i : Int32} (hd : decode y.2.1 pc = .ok (.laload, 1)) (hn : pc + 1 = n) (kk : mw g l d y em n lv (.long (mUnits i.toNatClampNeg) :: st) h o) : mw g l d y em pc lv (.int i :: .ref g.2.2.2.2.2.2 :: st) h (mck i 4 o) := by
  subst hn
  by_cases hi : vp_in i 4
  · rw [mck_ok hi]
    intro b hb p e s m args below meth c H locs ls Cx S P F hl
    obtain ⟨-, ⟨scr, h1, h2, h3, h4, h5⟩, hbl, hbA⟩ := S.2.2.2.2.2
    have hlt : i.toNatClampNeg < 4 := Nat.not_le.mp fun q => hi (Or.inr q)
    exact W.lald (v := .long (mUnits i.toNatClampNeg)) Cx.1 Cx.2.1 (by rw [F.2.1 _ hbl hbA]; exact h1) h2 h3 (by rw [h4]; exact hi) (h5 _ hlt) rfl rfl hd (kk b hb p e s m args below meth c H locs ls Cx S P F hl)
  · rw [show mck i 4 o = none from if_pos (Classical.not_not.mp hi)]
    exact mw_none
/-! switches: a case after the other -/
theorem mw_tcase {x v : Int32} {dflt lo hi off : Int} {offs : Array Int} {len t : Nat} {o1 o2 : Option β} (hd : decode y.2.1 pc = .ok (.tableswitch dflt lo hi offs, len)) (h1 : ¬ v.toInt < lo) (h2 : ¬ hi < v.toInt) (ho : offs[(v.toInt - lo).toNat]? = some off) (ht : (pc : Int) + off = (t : Int)) (kt : x = v → mw g l d y em t lv st h o1) (kf : ¬ x = v → mw g l d y em pc lv (.int x :: st) h o2) : mw g l d y em pc lv (.int x :: st) h (if x = v then o1 else o2) := by
  by_cases q : x = v
  · rw [if_pos q]
    have k := kt q
    subst q
    exact fun b hb p e s m args below meth c H locs ls Cx S P F hl => lv_tableIn Cx.1 Cx.2.1 hd h1 h2 ho ht (k b hb p e s m args below meth c H locs ls Cx S P F hl)
  · rw [if_neg q]
    exact kf q
theorem mw_tdef {x : Int32} {dflt lo hi : Int} {offs : Array Int} {len t : Nat} (hd : decode y.2.1 pc = .ok (.tableswitch dflt lo hi offs, len)) (hx : x.toInt < lo ∨ hi < x.toInt) (ht : (pc : Int) + dflt = (t : Int)) (k : mw g l d y em t lv st h o) : mw g l d y em pc lv (.int x :: st) h o :=
  fun b hb p e s m args below meth c H locs ls Cx S P F hl => lv_tableOut Cx.1 Cx.2.1 hd hx ht (k b hb p e s m args below meth c H locs ls Cx S P F hl)
end MF
end
section
section MC
variable {g : mG} {l : Launch} {d : Nat} {y : mD} {β : Type} {em : β → Option Value × mH} {pc n : Nat} {lv : List (Nat × Value)} {st : List Value} {h : mH} {o : Option β}
theorem mw_run {γ : Type} {em' : γ → Option Value × mH} {st' : List Value} {o' : Option γ} {k : γ → Option β} {aa : Array Value} (hn : pc + 3 = n)
    (hr : ∀ b', o' = some b' → ∀ (p : Program) (e : Env) (s : State) (m : MethodId) (args : Array Value) (below : List Frame) (meth : Method) (c : Code) (H : Heap) (locs : List Loc) (ls : Array Slot),
      mCx y p s m args meth c → mSt g s s.heap → va_P g.1 vwCl (mWd g h) H → va_S (mA g) s.heap H locs → lv_has ls y.2.2.1 lv →
      va_Run p l e (mRm d) s m args below meth c H locs 0 0 0 0 (F0 m pc ls st') st (mQ g (em' b') aa) (mA g))
    (kk : ∀ b', o' = some b' → mw g l d y em n lv ((em' b').1.toList ++ st) (em' b').2 (k b')) : mw g l d y em pc lv st' h (o'.bind k) := by
  subst hn
  cases o' with
  | none => exact mw_none
  | some b' =>
    intro b hb p e s m args below meth c H locs ls Cx S P F hl T hT X
    obtain ⟨v, st₀, t, T', L, h0, X', hL, e1, e2, ⟨hv, hP1, hz, hq⟩, stp⟩ := hr b' rfl p e s m args below meth c H locs ls Cx S P F hl T hT X
    cases hv
    rw [h0] at hz hq
    rw [← e1] at hP1 hz hq
    have F' : va_S (mA g) s.heap T'.heap (locs ++ L) := by
      refine ⟨Nat.le_trans F.1 hz, fun q h1 h2 => ?_, fun q hm => ?_⟩
      · rw [hq q (Nat.lt_of_lt_of_le h1 F.1) h2]
        exact F.2.1 q h1 h2
      · rcases List.mem_append.mp hm with hm | hm
        · exact F.2.2 q hm
        · exact hL q hm
    obtain ⟨t2, a1, b1⟩ := kk b' rfl b hb p e s m args below meth c T'.heap (locs ++ L) ls Cx S hP1 F' hl T' rfl X'
    exact ⟨t2, stp t2 a1, b1⟩
/-- what a call needs of the tables -/
def mOk (y' : mD) (N : Nat) : Prop := (y'.1.cls ≠ "java/lang/invoke/MethodHandle" ∧ y'.1.cls ≠ "java/lang/invoke/VarHandle" ∧ (parseMethodDescriptor y'.1.desc).map (fun d => d.parameters.length) = some N) ∧ y'.2.2.1 ≤ 21 ∧ Cond.code y'.1 y'.2.1 y'.2.2.1 y'.2.2.2 ∈ mTb ∧ Cond.initialized y'.1.cls ∈ mTb
theorem mRm_ok {d' d nl : Nat} (h : d' < d) (hl : nl ≤ 21) : (mRm d').frames + 1 ≤ (mRm d).frames ∧ 8 + (nl + 11) + (mRm d').locals ≤ (mRm d).locals := by
  constructor
  · show d' + 1 + 1 ≤ d + 1
    omega
  · show 8 + (nl + 11) + 40 * (d' + 1) ≤ 40 * (d + 1)
    omega
theorem mPre {s : State} {H : Heap} {locs : List Loc} {as : List Value} (S : mSt g s s.heap) (P : va_P g.1 vwCl (mWd g h) H) (F : va_S (mA g) s.heap H locs) : PreS s H (va_Pc as (mP g h)) as :=
  ⟨mP.blind as, fun U hU hW => ⟨rfl, by rw [hU]; exact P, by rw [hU]; exact mSt.warm hW F S⟩⟩
theorem mGood {y' : mD} (hc : Cond.code y'.1 y'.2.1 y'.2.2.1 y'.2.2.2 ∈ mTb) : GoodIn mTb (Cond.code y'.1 y'.2.1 y'.2.2.1 y'.2.2.2 :: mTb) := fun w hw => by
  rcases List.mem_cons.mp hw with rfl | hw
  · exact ⟨hc, good_of_word (mTb_good hc).2⟩
  · exact ⟨hw, good_of_word (mTb_good hw).2⟩
theorem mw_callV {γ : Type} {em' : γ → Option Value × mH} {y' : mD} {d' a i ci N : Nat} {As st' : List Value} {o' : Option γ} {k : γ → Option β} {C : String} {T : u_T} (hC : mCl ci C T) (ha : mkn g a ci) (hM : mf g l d' y' em' (.ref (mad g a) :: As) h o') (hdd : d' < d) (hO : mOk y' N) (hN : As.length = N) (hcls : y'.1.cls = C)
    (h1 : Cond.methodLink y.1.cls i y'.1 ∈ mTb) (h2 : Cond.instanceMethod y'.1 ∈ mTb) (h3 : Cond.selects C y'.1 y'.1 ∈ mTb) (hd : decode y.2.1 pc = .ok (.invokevirtual i, 3)) (hn : pc + 3 = n) (hst : st' = As.reverse ++ .ref (mad g a) :: st) (hroom : (st.map fun v => v.category).sum ≤ 8)
    (kk : ∀ b', o' = some b' → mw g l d y em n lv ((em' b').1.toList ++ st) (em' b').2 (k b')) : mw g l d y em pc lv st' h (o'.bind k) := by
  refine mw_run hn (fun b' hb' p e s m args below meth c H locs ls Cx S P F hl => ?_) kk (aa := (Value.ref (mad g a) :: As).toArray)
  subst hcls
  refine va_runV (As := As) (rest := st) ⟨Cx.1, Cx.2.1, Cx.2.2.2.2.1, Cx.2.2.2.2.2.1, Cx.2.2.2.2.2.2⟩ (hM b' hb') (cwV N Cx.2.2.2.2.2.2 (fun w hw => ?_) rfl rfl rfl ⟨rfl, hO.1⟩ (mRm_ok hdd hO.2.1)) ⟨(mPre S P F).1, va_recv S.1 P hC.2.1 (mWd_obj ha hC.1), (mPre S P F).2⟩ rfl hN hl.1 hst (lv_room hroom) hd ⟨Nat.le_refl _, Nat.le_refl _⟩
  rcases List.mem_append.mp (show w ∈ ([.methodLink y.1.cls i y'.1, .instanceMethod y'.1, .selects y'.1.cls y'.1 y'.1, .initialized y'.1.cls] : List Cond) ++ _ from hw) with hw | hw
  · simp only [List.mem_cons, List.not_mem_nil, or_false] at hw
    rcases hw with rfl | rfl | rfl | rfl
    · exact ⟨h1, good_of_word (mTb_good h1).2⟩
    · exact ⟨h2, good_of_word (mTb_good h2).2⟩
    · exact ⟨h3, good_of_word (mTb_good h3).2⟩
    · exact ⟨hO.2.2.2, good_of_word (mTb_good hO.2.2.2).2⟩
  · exact mGood hO.2.2.1 w hw
theorem mw_callS {γ : Type} {em' : γ → Option Value × mH} {y' : mD} {d' i N : Nat} {As st' : List Value} {o' : Option γ} {k : γ → Option β} (hM : mf g l d' y' em' As h o') (hdd : d' < d) (hO : mOk y' N) (hN : As.length = N)
    (h1 : Cond.methodLink y.1.cls i y'.1 ∈ mTb) (h2 : Cond.static y'.1 ∈ mTb) (hd : decode y.2.1 pc = .ok (.invokestatic i, 3)) (hn : pc + 3 = n) (hst : st' = As.reverse ++ st) (hroom : (st.map fun v => v.category).sum ≤ 8)
    (kk : ∀ b', o' = some b' → mw g l d y em n lv ((em' b').1.toList ++ st) (em' b').2 (k b')) : mw g l d y em pc lv st' h (o'.bind k) := by
  refine mw_run hn (fun b' hb' p e s m args below meth c H locs ls Cx S P F hl => ?_) kk (aa := As.toArray)
  refine va_runS (As := As) (rest := st) ⟨Cx.1, Cx.2.1, Cx.2.2.2.2.1, Cx.2.2.2.2.2.1, Cx.2.2.2.2.2.2⟩ (hM b' hb') (va_cwS N Cx.2.2.2.2.2.2 (fun w hw => ?_) rfl rfl rfl hO.1 (mRm_ok hdd hO.2.1)) (mPre S P F) rfl hN hl.1 hst (lv_room hroom) hd ⟨Nat.le_refl _, Nat.le_refl _⟩
  rcases List.mem_append.mp (show w ∈ ([.methodLink y.1.cls i y'.1, .static y'.1, .initialized y'.1.cls] : List Cond) ++ _ from hw) with hw | hw
  · simp only [List.mem_cons, List.not_mem_nil, or_false] at hw
    rcases hw with rfl | rfl | rfl
    · exact ⟨h1, good_of_word (mTb_good h1).2⟩
    · exact ⟨h2, good_of_word (mTb_good h2).2⟩
    · exact ⟨hO.2.2.2, good_of_word (mTb_good hO.2.2.2).2⟩
  · exact mGood hO.2.2.1 w hw
theorem mw_callN {γ : Type} {em' : γ → Option Value × mH} {y' : mD} {d' i N : Nat} {As st' : List Value} {o' : Option γ} {k : γ → Option β} {host : String} (hM : mf g l d' y' em' As h o') (hdd : d' < d) (hO : mOk y' N) (hN : As.length = N)
    (h1 : Cond.methodLinkNest y.1.cls i y'.1 host ∈ tables_1) (h2 : Cond.static y'.1 ∈ mTb) (hd : decode y.2.1 pc = .ok (.invokestatic i, 3)) (hn : pc + 3 = n) (hst : st' = As.reverse ++ st) (hroom : (st.map fun v => v.category).sum ≤ 8)
    (kk : ∀ b', o' = some b' → mw g l d y em n lv ((em' b').1.toList ++ st) (em' b').2 (k b')) : mw g l d y em pc lv st' h (o'.bind k) := by
  refine mw_run hn (fun b' hb' p e s m args below meth c H locs ls Cx S P F hl => ?_) kk (aa := As.toArray)
  exact va_runSN (As := As) (rest := st) ⟨Cx.1, Cx.2.1, Cx.2.2.2.2.1, Cx.2.2.2.2.2.1, Cx.2.2.2.2.2.2⟩ (hM b' hb') ⟨va_cnB N Cx.2.2.2.2.2.2 (mGood hO.2.2.1) rfl rfl rfl (S.2.2.1 _ _ _ _ h1) (Cx.2.2.2.2.2.2 _ hO.2.2.2) hO.1 (mRm_ok hdd hO.2.1), Cx.2.2.2.2.2.2 _ h2, trivial⟩ (mPre S P F) rfl hN hl.1 hst (lv_room hroom) hd ⟨Nat.le_refl _, Nat.le_refl _⟩
theorem mf_mono {d' : Nat} {as : List Value} (hdd : d' ≤ d) (hM : mf g l d' y em as h o) : mf g l d' y em as h o := hM
/-- System.arraycopy of a whole int row into another of the same length -/
theorem mEn_cp {a b N : Nat} (hb : mk b = 100 + N) : Sum.inl (g.2.1.1, N, Sum.inl (va_cpy (mgi h a) (mgi h b) 0 0 N)) = mEn g (mcp h a b N) b := by
  rw [mEn_int hb]
  have e : va_cpy (mgi h a) (mgi h b) 0 0 N = mgi (mcp h a b N) b := by
    funext j
    show (if 0 ≤ j ∧ j < 0 + N then h.1 a (0 + (j - 0)) else h.1 b j) = if b = b ∧ j < N then h.1 a j else h.1 b j
    simp
  rw [e]
theorem mEn_cpne {a b j N : Nat} (hne : j ≠ b) : mEn g (mcp h a b N) j = mEn g h j := by
  have e1 : ∀ q, mgi (mcp h a b N) j q = mgi h j q := fun q => by
    show (if j = b ∧ q < N then _ else _) = _
    rw [if_neg (fun z => hne z.1)]; rfl
  have e2 : mgi (mcp h a b N) j = mgi h j := funext e1
  have e3 : ∀ c, mFs g (mcp h a b N) j c = mFs g h j c := fun c => by
    unfold mFs
    refine List.map_congr_left fun q _ => ?_
    unfold mfv
    split
    · rw [e1]
    · rfl
    · rfl
  unfold mEn
  rw [e2, e3]
theorem mw_acopy {a b i N : Nat} {z : Int32} (ha : mkn g a (100 + N)) (hb : mkn g b (100 + N)) (hz : z.toNatClampNeg = N) (hz0 : ¬ z < 0) (h1 : Cond.methodLink y.1.cls i arraycopyName ∈ mTb) (h2 : Cond.native arraycopyName ∈ mTb) (h3 : Cond.static arraycopyName ∈ mTb) (h4 : Cond.initialized "java/lang/System" ∈ mTb) (hd : decode y.2.1 pc = .ok (.invokestatic i, 3)) (hn : pc + 3 = n) (hroom : (st.map fun v => v.category).sum ≤ 8)
    (hnw : nativeFrameWords "java/lang/System" "arraycopy" 5 + 11 ≤ 32)
    (kk : mw g l d y em n lv st (mcp h a b N) o) : mw g l d y em pc lv (.int z :: .int 0 :: .ref (mad g b) :: .int 0 :: .ref (mad g a) :: st) h o := by
  subst hn
  subst hz
  intro b' hb' p e s m args below meth c H locs ls Cx S P F hl
  have q0 : (0 : Int32).toNatClampNeg = 0 := by decide
  refine va_copyi Cx.1 Cx.2.1 (Cx.2.2.2.2.1.trans hl.1.symm) Cx.2.2.2.2.2.1 (Cx.2.2.2.2.2.2 _ h1) (Cx.2.2.2.2.2.2 _ h2) (Cx.2.2.2.2.2.2 _ h3) (Cx.2.2.2.2.2.2 _ h4) S.1 P (mWd_D S.2.1) F a b 0 0 (mWd_int ha) (mWd_int hb) rfl rfl rfl (by decide) (by decide) hz0 (by rw [q0]; omega) (by rw [q0]; omega) (fun _ _ => rfl) (by show 1 ≤ d + 1; omega) (by show _ ≤ 40 * (d + 1); omega) hd (fun H1 locs1 P1 D1 F1 => ?_)
  rw [q0, mWd_set (h' := mcp h a b z.toNatClampNeg) (mEn_cp hb.2) (fun j hj => mEn_cpne hj)] at P1
  exact kk b' hb' p e s m args below meth c H1 locs1 ls Cx S P1 F1 hl
end MC
end
section
def mlet {α β : Type} (e : α) (k : α → β) : β := k e
def mzc {β : Type} (x : Int32) (k : Option β) : Option β := if x = 0 ∨ x = 1 then k else none
def mzd {β : Type} (z : Int32) (k : Option β) : Option β := if z = 0 then none else k
def mzdL {β : Type} (z : Int64) (k : Option β) : Option β := if z = 0 then none else k
theorem mz01 {P : Prop} [Decidable P] {a b : Int32} (ha : a = 0 ∨ a = 1) (hb : b = 0 ∨ b = 1) : (if P then a else b) = 0 ∨ (if P then a else b) = 1 := by
  by_cases h : P
  · rw [if_pos h]; exact ha
  · rw [if_neg h]; exact hb
theorem sw_ne {x v : Int32} {k : Int} (h : ¬ x = v) (hk : v.toInt = k) : x.toInt ≠ k := fun q => h (Int32.toInt_inj.mp (q.trans hk.symm))
section MX
variable {g : mG} {l : Launch} {d : Nat} {y : mD} {β : Type} {em : β → Option Value × mH} {pc n : Nat} {lv : List (Nat × Value)} {st : List Value} {h : mH} {o : Option β}
theorem mw_letI {e : Int32} {k : Int32 → Option β} (kk : ∀ v, mw g l d y em pc lv (.int v :: st) h (k v)) : mw g l d y em pc lv (.int e :: st) h (mlet e k) := kk e
theorem mw_letJ {e : Int64} {k : Int64 → Option β} (kk : ∀ v, mw g l d y em pc lv (.long v :: st) h (k v)) : mw g l d y em pc lv (.long e :: st) h (mlet e k) := kk e
theorem mw_leth {e : mH} {k : mH → Option β} (kk : ∀ v, mw g l d y em pc lv st v (k v)) : mw g l d y em pc lv st e (mlet e k) := kk e
theorem mw_topeq {v v' : Int32} (e : v = v') (k : mw g l d y em pc lv (.int v' :: st) h o) : mw g l d y em pc lv (.int v :: st) h o := by rw [e]; exact k
theorem mw_cutJ {pc' : Nat} {lv' : List (Nat × Value)} {st' : List Value} (k : mw g l d y em pc' lv' st' h o → mw g l d y em pc lv st h o) (hJ : mw g l d y em pc' lv' st' h o) : mw g l d y em pc lv st h o := k hJ
theorem mw_zretC {x : Int32} {b : β} (hd : decode y.2.1 pc = .ok (.ireturn, 1)) (hr : y.2.2.2 = some .boolean) (he : em b = (some (.int x), h)) : mw g l d y em pc lv [.int x] h (mzc x (some b)) := by
  by_cases q : x = 0 ∨ x = 1
  · rw [show mzc x (some b) = some b from if_pos q]
    exact mw_zret hd hr q he
  · rw [show mzc x (some b) = none from if_neg q]
    exact mw_none
theorem mw_iaLd {a N j : Nat} {i : Int32} (ha : mkn g a (100 + N)) (hj : i.toNatClampNeg = j) (hi : ¬ (i < 0 ∨ N ≤ i.toNatClampNeg)) (hd : decode y.2.1 pc = .ok (.iaload, 1)) (hn : pc + 1 = n) (kk : mw g l d y em n lv (.int (mgi h a j) :: st) h o) : mw g l d y em pc lv (.int i :: .ref (mad g a) :: st) h o := by
  subst hj
  exact mw_iald' ha hi hd hn kk
theorem mw_iaSt {a N j : Nat} {i v : Int32} (ha : mkn g a (100 + N)) (hj : i.toNatClampNeg = j) (hi : ¬ (i < 0 ∨ N ≤ i.toNatClampNeg)) (hd : decode y.2.1 pc = .ok (.iastore, 1)) (hn : pc + 1 = n) (kk : mw g l d y em n lv st (msi h a j v) o) : mw g l d y em pc lv (.int v :: .int i :: .ref (mad g a) :: st) h o := by
  subst hj
  have k := mw_iast (i := i) ha hd hn kk
  rwa [mck_ok hi] at k
theorem mw_idivC {x z : Int32} (hd : decode y.2.1 pc = .ok (.idiv, 1)) (hn : pc + 1 = n) (k : mw g l d y em n lv (.int (x / z) :: st) h o) : mw g l d y em pc lv (.int z :: .int x :: st) h (mzd z o) := by
  by_cases q : z = 0
  · rw [show mzd z o = none from if_pos q]
    exact mw_none
  · rw [show mzd z o = o from if_neg q]
    exact mw_idiv hd hn q k
theorem mw_iremC {x z : Int32} (hd : decode y.2.1 pc = .ok (.irem, 1)) (hn : pc + 1 = n) (k : mw g l d y em n lv (.int (xrem x z) :: st) h o) : mw g l d y em pc lv (.int z :: .int x :: st) h (mzd z o) := by
  by_cases q : z = 0
  · rw [show mzd z o = none from if_pos q]
    exact mw_none
  · rw [show mzd z o = o from if_neg q]
    exact mw_irem hd hn q k
theorem mw_ldivC {x z : Int64} (hd : decode y.2.1 pc = .ok (.ldiv, 1)) (hn : pc + 1 = n) (k : mw g l d y em n lv (.long (x / z) :: st) h o) : mw g l d y em pc lv (.long z :: .long x :: st) h (mzdL z o) := by
  by_cases q : z = 0
  · rw [show mzdL z o = none from if_pos q]
    exact mw_none
  · rw [show mzdL z o = o from if_neg q]
    exact mw_ldiv hd hn q k
theorem mw_lremC {x z : Int64} (hd : decode y.2.1 pc = .ok (.lrem, 1)) (hn : pc + 1 = n) (k : mw g l d y em n lv (.long (xlrem x z) :: st) h o) : mw g l d y em pc lv (.long z :: .long x :: st) h (mzdL z o) := by
  by_cases q : z = 0
  · rw [show mzdL z o = none from if_pos q]
    exact mw_none
  · rw [show mzdL z o = o from if_neg q]
    exact mw_lrem hd hn q k
theorem mw_if_eq_m {x : Int32} {off : Int} {t : Nat} (hd : decode y.2.1 pc = .ok (.ifCond .eq off, 3)) (hn : pc + 3 = n) (ht : (pc : Int) + off = (t : Int)) (kt : x = 0 → mw g l d y em t lv st h o) (kf : ¬ (x = 0) → mw g l d y em n lv st h o) : mw g l d y em pc lv (.int x :: st) h o := by
  have k := mw_if_eq (P := x = 0) (y := y) (em := em) (o1 := o) (o2 := o) hd hn ht Iff.rfl kt kf
  by_cases q : x = 0
  · rwa [if_pos q] at k
  · rwa [if_neg q] at k
theorem mw_icmp_eq_m {x z : Int32} {off : Int} {t : Nat} (hd : decode y.2.1 pc = .ok (.if_icmp .eq off, 3)) (hn : pc + 3 = n) (ht : (pc : Int) + off = (t : Int)) (kt : x = z → mw g l d y em t lv st h o) (kf : ¬ (x = z) → mw g l d y em n lv st h o) : mw g l d y em pc lv (.int z :: .int x :: st) h o := by
  have k := mw_icmp_eq (P := x = z) (y := y) (em := em) (o1 := o) (o2 := o) hd hn ht Iff.rfl kt kf
  by_cases q : x = z
  · rwa [if_pos q] at k
  · rwa [if_neg q] at k
theorem mw_if_ne_m {x : Int32} {off : Int} {t : Nat} (hd : decode y.2.1 pc = .ok (.ifCond .ne off, 3)) (hn : pc + 3 = n) (ht : (pc : Int) + off = (t : Int)) (kt : ¬ x = 0 → mw g l d y em t lv st h o) (kf : ¬ (¬ x = 0) → mw g l d y em n lv st h o) : mw g l d y em pc lv (.int x :: st) h o := by
  have k := mw_if_ne (P := ¬ x = 0) (y := y) (em := em) (o1 := o) (o2 := o) hd hn ht Iff.rfl kt kf
  by_cases q : ¬ x = 0
  · rwa [if_pos q] at k
  · rwa [if_neg q] at k
theorem mw_icmp_ne_m {x z : Int32} {off : Int} {t : Nat} (hd : decode y.2.1 pc = .ok (.if_icmp .ne off, 3)) (hn : pc + 3 = n) (ht : (pc : Int) + off = (t : Int)) (kt : ¬ x = z → mw g l d y em t lv st h o) (kf : ¬ (¬ x = z) → mw g l d y em n lv st h o) : mw g l d y em pc lv (.int z :: .int x :: st) h o := by
  have k := mw_icmp_ne (P := ¬ x = z) (y := y) (em := em) (o1 := o) (o2 := o) hd hn ht Iff.rfl kt kf
  by_cases q : ¬ x = z
  · rwa [if_pos q] at k
  · rwa [if_neg q] at k
theorem mw_if_lt_m {x : Int32} {off : Int} {t : Nat} (hd : decode y.2.1 pc = .ok (.ifCond .lt off, 3)) (hn : pc + 3 = n) (ht : (pc : Int) + off = (t : Int)) (kt : x < 0 → mw g l d y em t lv st h o) (kf : ¬ (x < 0) → mw g l d y em n lv st h o) : mw g l d y em pc lv (.int x :: st) h o := by
  have k := mw_if_lt (P := x < 0) (y := y) (em := em) (o1 := o) (o2 := o) hd hn ht Iff.rfl kt kf
  by_cases q : x < 0
  · rwa [if_pos q] at k
  · rwa [if_neg q] at k
theorem mw_icmp_lt_m {x z : Int32} {off : Int} {t : Nat} (hd : decode y.2.1 pc = .ok (.if_icmp .lt off, 3)) (hn : pc + 3 = n) (ht : (pc : Int) + off = (t : Int)) (kt : x < z → mw g l d y em t lv st h o) (kf : ¬ (x < z) → mw g l d y em n lv st h o) : mw g l d y em pc lv (.int z :: .int x :: st) h o := by
  have k := mw_icmp_lt (P := x < z) (y := y) (em := em) (o1 := o) (o2 := o) hd hn ht Iff.rfl kt kf
  by_cases q : x < z
  · rwa [if_pos q] at k
  · rwa [if_neg q] at k
theorem mw_if_ge_m {x : Int32} {off : Int} {t : Nat} (hd : decode y.2.1 pc = .ok (.ifCond .ge off, 3)) (hn : pc + 3 = n) (ht : (pc : Int) + off = (t : Int)) (kt : 0 ≤ x → mw g l d y em t lv st h o) (kf : ¬ (0 ≤ x) → mw g l d y em n lv st h o) : mw g l d y em pc lv (.int x :: st) h o := by
  have k := mw_if_ge (P := 0 ≤ x) (y := y) (em := em) (o1 := o) (o2 := o) hd hn ht Iff.rfl kt kf
  by_cases q : 0 ≤ x
  · rwa [if_pos q] at k
  · rwa [if_neg q] at k
theorem mw_icmp_ge_m {x z : Int32} {off : Int} {t : Nat} (hd : decode y.2.1 pc = .ok (.if_icmp .ge off, 3)) (hn : pc + 3 = n) (ht : (pc : Int) + off = (t : Int)) (kt : z ≤ x → mw g l d y em t lv st h o) (kf : ¬ (z ≤ x) → mw g l d y em n lv st h o) : mw g l d y em pc lv (.int z :: .int x :: st) h o := by
  have k := mw_icmp_ge (P := z ≤ x) (y := y) (em := em) (o1 := o) (o2 := o) hd hn ht Iff.rfl kt kf
  by_cases q : z ≤ x
  · rwa [if_pos q] at k
  · rwa [if_neg q] at k
theorem mw_if_gt_m {x : Int32} {off : Int} {t : Nat} (hd : decode y.2.1 pc = .ok (.ifCond .gt off, 3)) (hn : pc + 3 = n) (ht : (pc : Int) + off = (t : Int)) (kt : 0 < x → mw g l d y em t lv st h o) (kf : ¬ (0 < x) → mw g l d y em n lv st h o) : mw g l d y em pc lv (.int x :: st) h o := by
  have k := mw_if_gt (P := 0 < x) (y := y) (em := em) (o1 := o) (o2 := o) hd hn ht Iff.rfl kt kf
  by_cases q : 0 < x
  · rwa [if_pos q] at k
  · rwa [if_neg q] at k
theorem mw_icmp_gt_m {x z : Int32} {off : Int} {t : Nat} (hd : decode y.2.1 pc = .ok (.if_icmp .gt off, 3)) (hn : pc + 3 = n) (ht : (pc : Int) + off = (t : Int)) (kt : z < x → mw g l d y em t lv st h o) (kf : ¬ (z < x) → mw g l d y em n lv st h o) : mw g l d y em pc lv (.int z :: .int x :: st) h o := by
  have k := mw_icmp_gt (P := z < x) (y := y) (em := em) (o1 := o) (o2 := o) hd hn ht Iff.rfl kt kf
  by_cases q : z < x
  · rwa [if_pos q] at k
  · rwa [if_neg q] at k
theorem mw_if_le_m {x : Int32} {off : Int} {t : Nat} (hd : decode y.2.1 pc = .ok (.ifCond .le off, 3)) (hn : pc + 3 = n) (ht : (pc : Int) + off = (t : Int)) (kt : x ≤ 0 → mw g l d y em t lv st h o) (kf : ¬ (x ≤ 0) → mw g l d y em n lv st h o) : mw g l d y em pc lv (.int x :: st) h o := by
  have k := mw_if_le (P := x ≤ 0) (y := y) (em := em) (o1 := o) (o2 := o) hd hn ht Iff.rfl kt kf
  by_cases q : x ≤ 0
  · rwa [if_pos q] at k
  · rwa [if_neg q] at k
theorem mw_icmp_le_m {x z : Int32} {off : Int} {t : Nat} (hd : decode y.2.1 pc = .ok (.if_icmp .le off, 3)) (hn : pc + 3 = n) (ht : (pc : Int) + off = (t : Int)) (kt : x ≤ z → mw g l d y em t lv st h o) (kf : ¬ (x ≤ z) → mw g l d y em n lv st h o) : mw g l d y em pc lv (.int z :: .int x :: st) h o := by
  have k := mw_icmp_le (P := x ≤ z) (y := y) (em := em) (o1 := o) (o2 := o) hd hn ht Iff.rfl kt kf
  by_cases q : x ≤ z
  · rwa [if_pos q] at k
  · rwa [if_neg q] at k
end MX
theorem mkl {g : mG} (hg : mOK g) {a c : Nat} (h : a < 82) (hk : mk a = c) : mkn g a c := ⟨by rcases hg with q | q <;> rw [q] <;> omega, hk⟩
theorem mkm {g : mG} (hg : mnn g = 101) {a c : Nat} (h : a < 101) (hk : mk a = c) : mkn g a c := ⟨by rw [hg]; exact h, hk⟩
theorem mk_step : ∀ a, a < 101 → (mk a = 6 → (a + 2 < 101 ∧ (a < 82 → a + 2 < 82) ∧ mk (a + 1) = 104 ∧ mk (a + 2) = 105)) ∧ (mk a = 1 → (a + 2 < 82 ∧ mk (a + 1) = 410 ∧ mk (a + 2) = 410)) ∧ (mk a = 2 → (a + 4 < 82 ∧ mk (a + 1) = 6 ∧ mk (a + 4) = 1)) := by decide +kernel
theorem mk_lt {g : mG} (hg : mOK g) {a c : Nat} (h : mkn g a c) : a < 101 := by
  rcases hg with q | q <;> have := h.1 <;> rw [q] at this <;> omega
theorem mk6_1 {g : mG} (hg : mOK g) {a : Nat} (h : mkn g a 6) : mkn g (a + 1) 104 := by
  have k := (mk_step a (mk_lt hg h)).1 h.2
  refine ⟨?_, k.2.2.1⟩
  rcases hg with q | q <;> have := h.1 <;> rw [q] at this ⊢
  · have := k.2.1 this; omega
  · omega
theorem mk6_2 {g : mG} (hg : mOK g) {a : Nat} (h : mkn g a 6) : mkn g (a + 2) 105 := by
  have k := (mk_step a (mk_lt hg h)).1 h.2
  refine ⟨?_, k.2.2.2⟩
  rcases hg with q | q <;> have := h.1 <;> rw [q] at this ⊢
  · have := k.2.1 this; omega
  · omega
theorem mk1_1 {g : mG} (hg : mOK g) {a : Nat} (h : mkn g a 1) : mkn g (a + 1) 410 := by
  have k := (mk_step a (mk_lt hg h)).2.1 h.2
  exact mkl hg (by omega) k.2.1
theorem mk1_2 {g : mG} (hg : mOK g) {a : Nat} (h : mkn g a 1) : mkn g (a + 2) 410 := by
  have k := (mk_step a (mk_lt hg h)).2.1 h.2
  exact mkl hg (by omega) k.2.2
theorem mk2_1 {g : mG} (hg : mOK g) {a : Nat} (h : mkn g a 2) : mkn g (a + 1) 6 := by
  have k := (mk_step a (mk_lt hg h)).2.2 h.2
  exact mkl hg (by omega) k.2.1
theorem mk2_4 {g : mG} (hg : mOK g) {a : Nat} (h : mkn g a 2) : mkn g (a + 4) 1 := by
  have k := (mk_step a (mk_lt hg h)).2.2 h.2
  exact mkl hg (by omega) k.2.2
theorem mk_A : (∀ j, j < 14 → mk (22 + 3 * j) = 6) ∧ ∀ j, j < 2 → mk (76 + 3 * j) = 6 := by decide +kernel
theorem mkA60 {g : mG} (hg : mOK g) {i : Int32} (h : vp_in i 14) : mkn g (22 + 3 * i.toNatClampNeg) 6 := by
  have hlt : i.toNatClampNeg < 14 := Nat.not_le.mp fun q => h (Or.inr q)
  exact mkl hg (by omega) (mk_A.1 _ hlt)
theorem mkA61 {g : mG} (hg : mOK g) {i : Int32} (h : vp_in i 2) : mkn g (76 + 3 * i.toNatClampNeg) 6 := by
  have hlt : i.toNatClampNeg < 2 := Nat.not_le.mp fun q => h (Or.inr q)
  exact mkl hg (by omega) (mk_A.2 _ hlt)
theorem inT0 : ∀ w ∈ u_ws RX0 TX0 (mNf 0), w ∈ mTb := mt_ws (u_ws RX0 TX0 (mNf 0)) [172, 174, 176] (by decide +kernel) (by decide +kernel)
theorem cl0 : mCl 0 RX0 TX0 := ⟨by decide, rfl, inT0⟩
theorem ct0 : mCt TX0 0 := ⟨tyX0, tyX0_ok, nmX0⟩
theorem inT1 : ∀ w ∈ u_ws RX1 TX1 (mNf 1), w ∈ mTb := mt_ws (u_ws RX1 TX1 (mNf 1)) [105, 107, 109, 111, 113, 115, 117, 119, 121, 123] (by decide +kernel) (by decide +kernel)
theorem cl1 : mCl 1 RX1 TX1 := ⟨by decide, rfl, inT1⟩
theorem ct1 : mCt TX1 1 := ⟨tyX1, tyX1_ok, nmX1⟩
theorem inT2 : ∀ w ∈ u_ws RX2 TX2 (mNf 2), w ∈ mTb := mt_ws (u_ws RX2 TX2 (mNf 2)) [134, 136] (by decide +kernel) (by decide +kernel)
theorem cl2 : mCl 2 RX2 TX2 := ⟨by decide, rfl, inT2⟩
theorem ct2 : mCt TX2 2 := ⟨tyX2, tyX2_ok, nmX2⟩
theorem inT3 : ∀ w ∈ u_ws RX3 TX3 (mNf 3), w ∈ mTb := mt_ws (u_ws RX3 TX3 (mNf 3)) [187, 189] (by decide +kernel) (by decide +kernel)
theorem cl3 : mCl 3 RX3 TX3 := ⟨by decide, rfl, inT3⟩
theorem ct3 : mCt TX3 3 := ⟨tyX3, tyX3_ok, nmX3⟩
theorem inT4 : ∀ w ∈ u_ws RX4 TX4 (mNf 4), w ∈ mTb := mt_ws (u_ws RX4 TX4 (mNf 4)) [152, 154, 156] (by decide +kernel) (by decide +kernel)
theorem cl4 : mCl 4 RX4 TX4 := ⟨by decide, rfl, inT4⟩
theorem ct4 : mCt TX4 4 := ⟨tyX4, tyX4_ok, nmX4⟩
theorem inT5 : ∀ w ∈ u_ws RX5 TX5 (mNf 5), w ∈ mTb := mt_ws (u_ws RX5 TX5 (mNf 5)) [226, 228, 230, 232] (by decide +kernel) (by decide +kernel)
theorem cl5 : mCl 5 RX5 TX5 := ⟨by decide, rfl, inT5⟩
theorem ct5 : mCt TX5 5 := ⟨tyX5, tyX5_ok, nmX5⟩
theorem inT6 : ∀ w ∈ u_ws RX6 TX6 (mNf 6), w ∈ mTb := mt_ws (u_ws RX6 TX6 (mNf 6)) [63, 65, 67, 69, 71, 73, 75] (by decide +kernel) (by decide +kernel)
theorem cl6 : mCl 6 RX6 TX6 := ⟨by decide, rfl, inT6⟩
theorem ct6 : mCt TX6 6 := ⟨tyX6, tyX6_ok, nmX6⟩
theorem inT7 : ∀ w ∈ u_ws RX7 TX7 (mNf 7), w ∈ mTb := mt_ws (u_ws RX7 TX7 (mNf 7)) [204, 206, 208, 210, 212] (by decide +kernel) (by decide +kernel)
theorem cl7 : mCl 7 RX7 TX7 := ⟨by decide, rfl, inT7⟩
theorem ct7 : mCt TX7 7 := ⟨tyX7, tyX7_ok, nmX7⟩
theorem inT8 : ∀ w ∈ u_ws RX8 TX8 (mNf 8), w ∈ mTb := mt_ws (u_ws RX8 TX8 (mNf 8)) [296, 298, 300, 302, 304, 306, 308, 310, 312, 314, 316, 318, 320] (by decide +kernel) (by decide +kernel)
theorem cl8 : mCl 8 RX8 TX8 := ⟨by decide, rfl, inT8⟩
theorem ct8 : mCt TX8 8 := ⟨tyX8, tyX8_ok, nmX8⟩
theorem inT9 : ∀ w ∈ u_ws RX9 TX9 (mNf 9), w ∈ mTb := mt_ws (u_ws RX9 TX9 (mNf 9)) [831, 833, 835, 837, 839, 841, 843, 845, 847, 849, 851, 853, 855, 857, 859, 861, 863, 865, 867, 869, 871, 873, 875, 877, 879, 881] (by decide +kernel) (by decide +kernel)
theorem cl9 : mCl 9 RX9 TX9 := ⟨by decide, rfl, inT9⟩
theorem ct9 : mCt TX9 9 := ⟨tyX9, tyX9_ok, nmX9⟩
end
