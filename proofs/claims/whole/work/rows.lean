section
-- ===== PART A: goes FIRST, ahead of the names: the tables' words, and 'selects' of the private methods out of them =====
/-- a private method of a class that the tables say can be made, by its rows of tables_1 -/
def lw_okq (q : MethodName × Nat) : Prop := (q.1.cls ≠ "java/lang/invoke/MethodHandle" ∧ q.1.cls ≠ "java/lang/invoke/VarHandle") ∧ Cond.instantiable q.1.cls q.2 ∈ tables_1 ∧ Cond.privateMethod q.1 ∈ tables_1 ∧ Cond.instanceMethod q.1 ∈ tables_1
theorem lw_p0 : lw_okq (⟨"SoundingSheet", "addOfLine", "(IIIIII)I"⟩, 8) := ⟨⟨by decide +kernel, by decide +kernel⟩, List.mem_of_getElem? (i := 16) (by decide +kernel), List.mem_of_getElem? (i := 400) (by decide +kernel), List.mem_of_getElem? (i := 401) (by decide +kernel)⟩
theorem lw_p1 : lw_okq (⟨"SoundingSheet", "addSounding", "(IIII)I"⟩, 8) := ⟨⟨by decide +kernel, by decide +kernel⟩, List.mem_of_getElem? (i := 16) (by decide +kernel), List.mem_of_getElem? (i := 407) (by decide +kernel), List.mem_of_getElem? (i := 408) (by decide +kernel)⟩
theorem lw_p2 : lw_okq (⟨"SoundingSheet$Crossings", "canCross", "(I)Z"⟩, 7) := ⟨⟨by decide +kernel, by decide +kernel⟩, List.mem_of_getElem? (i := 212) (by decide +kernel), List.mem_of_getElem? (i := 515) (by decide +kernel), List.mem_of_getElem? (i := 516) (by decide +kernel)⟩
theorem lw_p3 : lw_okq (⟨"SoundingSheet$Crossings", "addMiss", "(I)V"⟩, 7) := ⟨⟨by decide +kernel, by decide +kernel⟩, List.mem_of_getElem? (i := 212) (by decide +kernel), List.mem_of_getElem? (i := 543) (by decide +kernel), List.mem_of_getElem? (i := 544) (by decide +kernel)⟩
theorem lw_p4 : lw_okq (⟨"SoundingSheet$Sheet", "findAll", "(II)V"⟩, 6) := ⟨⟨by decide +kernel, by decide +kernel⟩, List.mem_of_getElem? (i := 243) (by decide +kernel), List.mem_of_getElem? (i := 571) (by decide +kernel), List.mem_of_getElem? (i := 572) (by decide +kernel)⟩
theorem lw_p5 : lw_okq (⟨"SoundingSheet$Sheet", "showAlways", "(I)V"⟩, 6) := ⟨⟨by decide +kernel, by decide +kernel⟩, List.mem_of_getElem? (i := 243) (by decide +kernel), List.mem_of_getElem? (i := 587) (by decide +kernel), List.mem_of_getElem? (i := 588) (by decide +kernel)⟩
theorem lw_p6 : lw_okq (⟨"SoundingSheet$Sheet", "standsInSwept", "(II)Z"⟩, 6) := ⟨⟨by decide +kernel, by decide +kernel⟩, List.mem_of_getElem? (i := 243) (by decide +kernel), List.mem_of_getElem? (i := 591) (by decide +kernel), List.mem_of_getElem? (i := 592) (by decide +kernel)⟩
theorem lw_p7 : lw_okq (⟨"SoundingSheet$Sheet", "add", "(II)V"⟩, 6) := ⟨⟨by decide +kernel, by decide +kernel⟩, List.mem_of_getElem? (i := 243) (by decide +kernel), List.mem_of_getElem? (i := 599) (by decide +kernel), List.mem_of_getElem? (i := 600) (by decide +kernel)⟩
theorem lw_p8 : lw_okq (⟨"SoundingSheet$Sheet", "showShoalest", "()V"⟩, 6) := ⟨⟨by decide +kernel, by decide +kernel⟩, List.mem_of_getElem? (i := 243) (by decide +kernel), List.mem_of_getElem? (i := 603) (by decide +kernel), List.mem_of_getElem? (i := 604) (by decide +kernel)⟩
theorem lw_p9 : lw_okq (⟨"SoundingSheet$Sheet", "showFarthest", "()V"⟩, 6) := ⟨⟨by decide +kernel, by decide +kernel⟩, List.mem_of_getElem? (i := 243) (by decide +kernel), List.mem_of_getElem? (i := 607) (by decide +kernel), List.mem_of_getElem? (i := 608) (by decide +kernel)⟩
theorem lw_p10 : lw_okq (⟨"SoundingSheet$Sheet", "distanceToShown", "(I)I"⟩, 6) := ⟨⟨by decide +kernel, by decide +kernel⟩, List.mem_of_getElem? (i := 243) (by decide +kernel), List.mem_of_getElem? (i := 611) (by decide +kernel), List.mem_of_getElem? (i := 612) (by decide +kernel)⟩
theorem lw_p11 : lw_okq (⟨"SoundingSheet$Chart", "enter", "(I)V"⟩, 3) := ⟨⟨by decide +kernel, by decide +kernel⟩, List.mem_of_getElem? (i := 271) (by decide +kernel), List.mem_of_getElem? (i := 635) (by decide +kernel), List.mem_of_getElem? (i := 636) (by decide +kernel)⟩
theorem lw_p12 : lw_okq (⟨"SoundingSheet$Chart", "enterSpan", "(I)V"⟩, 3) := ⟨⟨by decide +kernel, by decide +kernel⟩, List.mem_of_getElem? (i := 271) (by decide +kernel), List.mem_of_getElem? (i := 639) (by decide +kernel), List.mem_of_getElem? (i := 640) (by decide +kernel)⟩
theorem lw_p13 : lw_okq (⟨"SoundingSheet", "findChannel", "(III)Z"⟩, 8) := ⟨⟨by decide +kernel, by decide +kernel⟩, List.mem_of_getElem? (i := 16) (by decide +kernel), List.mem_of_getElem? (i := 649) (by decide +kernel), List.mem_of_getElem? (i := 650) (by decide +kernel)⟩
theorem lw_p14 : lw_okq (⟨"SoundingSheet$Channel", "flood", "(II)V"⟩, 7) := ⟨⟨by decide +kernel, by decide +kernel⟩, List.mem_of_getElem? (i := 289) (by decide +kernel), List.mem_of_getElem? (i := 661) (by decide +kernel), List.mem_of_getElem? (i := 662) (by decide +kernel)⟩
theorem lw_p15 : lw_okq (⟨"SoundingSheet$Channel", "reach", "(III)V"⟩, 7) := ⟨⟨by decide +kernel, by decide +kernel⟩, List.mem_of_getElem? (i := 289) (by decide +kernel), List.mem_of_getElem? (i := 666) (by decide +kernel), List.mem_of_getElem? (i := 667) (by decide +kernel)⟩
def lw_privs_1 : List (MethodName × Nat) := [(⟨"SoundingSheet", "addOfLine", "(IIIIII)I"⟩, 8), (⟨"SoundingSheet", "addSounding", "(IIII)I"⟩, 8), (⟨"SoundingSheet$Crossings", "canCross", "(I)Z"⟩, 7), (⟨"SoundingSheet$Crossings", "addMiss", "(I)V"⟩, 7), (⟨"SoundingSheet$Sheet", "findAll", "(II)V"⟩, 6), (⟨"SoundingSheet$Sheet", "showAlways", "(I)V"⟩, 6), (⟨"SoundingSheet$Sheet", "standsInSwept", "(II)Z"⟩, 6), (⟨"SoundingSheet$Sheet", "add", "(II)V"⟩, 6), (⟨"SoundingSheet$Sheet", "showShoalest", "()V"⟩, 6), (⟨"SoundingSheet$Sheet", "showFarthest", "()V"⟩, 6), (⟨"SoundingSheet$Sheet", "distanceToShown", "(I)I"⟩, 6), (⟨"SoundingSheet$Chart", "enter", "(I)V"⟩, 3), (⟨"SoundingSheet$Chart", "enterSpan", "(I)V"⟩, 3), (⟨"SoundingSheet", "findChannel", "(III)Z"⟩, 8), (⟨"SoundingSheet$Channel", "flood", "(II)V"⟩, 7), (⟨"SoundingSheet$Channel", "reach", "(III)V"⟩, 7)]
theorem lw_r1 : ∀ q ∈ lw_privs_1, lw_okq q := List.forall_mem_cons.mpr ⟨lw_p0, List.forall_mem_cons.mpr ⟨lw_p1, List.forall_mem_cons.mpr ⟨lw_p2, List.forall_mem_cons.mpr ⟨lw_p3, List.forall_mem_cons.mpr ⟨lw_p4, List.forall_mem_cons.mpr ⟨lw_p5, List.forall_mem_cons.mpr ⟨lw_p6, List.forall_mem_cons.mpr ⟨lw_p7, List.forall_mem_cons.mpr ⟨lw_p8, List.forall_mem_cons.mpr ⟨lw_p9, List.forall_mem_cons.mpr ⟨lw_p10, List.forall_mem_cons.mpr ⟨lw_p11, List.forall_mem_cons.mpr ⟨lw_p12, List.forall_mem_cons.mpr ⟨lw_p13, List.forall_mem_cons.mpr ⟨lw_p14, List.forall_mem_cons.mpr ⟨lw_p15, fun _ h => absurd h List.not_mem_nil⟩⟩⟩⟩⟩⟩⟩⟩⟩⟩⟩⟩⟩⟩⟩⟩
theorem lw_p16 : lw_okq (⟨"SoundingSheet$Channel", "greatestFloor", "(II)I"⟩, 7) := ⟨⟨by decide +kernel, by decide +kernel⟩, List.mem_of_getElem? (i := 289) (by decide +kernel), List.mem_of_getElem? (i := 673) (by decide +kernel), List.mem_of_getElem? (i := 674) (by decide +kernel)⟩
theorem lw_p17 : lw_okq (⟨"SoundingSheet$Channel", "walk", "(I)V"⟩, 7) := ⟨⟨by decide +kernel, by decide +kernel⟩, List.mem_of_getElem? (i := 289) (by decide +kernel), List.mem_of_getElem? (i := 682) (by decide +kernel), List.mem_of_getElem? (i := 683) (by decide +kernel)⟩
theorem lw_p18 : lw_okq (⟨"SoundingSheet$Channel", "leastBeside", "(II)I"⟩, 7) := ⟨⟨by decide +kernel, by decide +kernel⟩, List.mem_of_getElem? (i := 289) (by decide +kernel), List.mem_of_getElem? (i := 686) (by decide +kernel), List.mem_of_getElem? (i := 687) (by decide +kernel)⟩
theorem lw_p19 : lw_okq (⟨"SoundingSheetModel", "acts", "()V"⟩, 17) := ⟨⟨by decide +kernel, by decide +kernel⟩, List.mem_of_getElem? (i := 766) (by decide +kernel), List.mem_of_getElem? (i := 844) (by decide +kernel), List.mem_of_getElem? (i := 845) (by decide +kernel)⟩
theorem lw_p20 : lw_okq (⟨"SoundingSheetModel", "isLine", "(I)Z"⟩, 17) := ⟨⟨by decide +kernel, by decide +kernel⟩, List.mem_of_getElem? (i := 766) (by decide +kernel), List.mem_of_getElem? (i := 852) (by decide +kernel), List.mem_of_getElem? (i := 853) (by decide +kernel)⟩
theorem lw_p21 : lw_okq (⟨"SoundingSheetModel", "tideAt", "(II)Z"⟩, 17) := ⟨⟨by decide +kernel, by decide +kernel⟩, List.mem_of_getElem? (i := 766) (by decide +kernel), List.mem_of_getElem? (i := 868) (by decide +kernel), List.mem_of_getElem? (i := 869) (by decide +kernel)⟩
theorem lw_p22 : lw_okq (⟨"SoundingSheetModel", "mayBe", "(IIII)Z"⟩, 17) := ⟨⟨by decide +kernel, by decide +kernel⟩, List.mem_of_getElem? (i := 766) (by decide +kernel), List.mem_of_getElem? (i := 879) (by decide +kernel), List.mem_of_getElem? (i := 880) (by decide +kernel)⟩
theorem lw_p23 : lw_okq (⟨"SoundingSheetModel", "isPlace", "(II)Z"⟩, 17) := ⟨⟨by decide +kernel, by decide +kernel⟩, List.mem_of_getElem? (i := 766) (by decide +kernel), List.mem_of_getElem? (i := 883) (by decide +kernel), List.mem_of_getElem? (i := 884) (by decide +kernel)⟩
theorem lw_p24 : lw_okq (⟨"SoundingSheetModel", "lineOf", "(II)I"⟩, 17) := ⟨⟨by decide +kernel, by decide +kernel⟩, List.mem_of_getElem? (i := 766) (by decide +kernel), List.mem_of_getElem? (i := 887) (by decide +kernel), List.mem_of_getElem? (i := 888) (by decide +kernel)⟩
theorem lw_p25 : lw_okq (⟨"SoundingSheetModel", "add", "(IIIIIIIII)I"⟩, 17) := ⟨⟨by decide +kernel, by decide +kernel⟩, List.mem_of_getElem? (i := 766) (by decide +kernel), List.mem_of_getElem? (i := 891) (by decide +kernel), List.mem_of_getElem? (i := 892) (by decide +kernel)⟩
theorem lw_p26 : lw_okq (⟨"SoundingSheetModel", "isSounding", "(I)Z"⟩, 17) := ⟨⟨by decide +kernel, by decide +kernel⟩, List.mem_of_getElem? (i := 766) (by decide +kernel), List.mem_of_getElem? (i := 916) (by decide +kernel), List.mem_of_getElem? (i := 917) (by decide +kernel)⟩
theorem lw_p27 : lw_okq (⟨"SoundingSheetModel", "of", "(II)I"⟩, 17) := ⟨⟨by decide +kernel, by decide +kernel⟩, List.mem_of_getElem? (i := 766) (by decide +kernel), List.mem_of_getElem? (i := 920) (by decide +kernel), List.mem_of_getElem? (i := 921) (by decide +kernel)⟩
theorem lw_p28 : lw_okq (⟨"SoundingSheetModel", "waits", "(I)Z"⟩, 17) := ⟨⟨by decide +kernel, by decide +kernel⟩, List.mem_of_getElem? (i := 766) (by decide +kernel), List.mem_of_getElem? (i := 928) (by decide +kernel), List.mem_of_getElem? (i := 929) (by decide +kernel)⟩
theorem lw_p29 : lw_okq (⟨"SoundingSheetModel", "corrected", "(I)I"⟩, 17) := ⟨⟨by decide +kernel, by decide +kernel⟩, List.mem_of_getElem? (i := 766) (by decide +kernel), List.mem_of_getElem? (i := 940) (by decide +kernel), List.mem_of_getElem? (i := 941) (by decide +kernel)⟩
theorem lw_p30 : lw_okq (⟨"SoundingSheetModel", "crosses", "(III)Z"⟩, 17) := ⟨⟨by decide +kernel, by decide +kernel⟩, List.mem_of_getElem? (i := 766) (by decide +kernel), List.mem_of_getElem? (i := 953) (by decide +kernel), List.mem_of_getElem? (i := 954) (by decide +kernel)⟩
theorem lw_p31 : lw_okq (⟨"SoundingSheetModel", "isOf", "(II)Z"⟩, 17) := ⟨⟨by decide +kernel, by decide +kernel⟩, List.mem_of_getElem? (i := 766) (by decide +kernel), List.mem_of_getElem? (i := 957) (by decide +kernel), List.mem_of_getElem? (i := 958) (by decide +kernel)⟩
def lw_privs_2 : List (MethodName × Nat) := [(⟨"SoundingSheet$Channel", "greatestFloor", "(II)I"⟩, 7), (⟨"SoundingSheet$Channel", "walk", "(I)V"⟩, 7), (⟨"SoundingSheet$Channel", "leastBeside", "(II)I"⟩, 7), (⟨"SoundingSheetModel", "acts", "()V"⟩, 17), (⟨"SoundingSheetModel", "isLine", "(I)Z"⟩, 17), (⟨"SoundingSheetModel", "tideAt", "(II)Z"⟩, 17), (⟨"SoundingSheetModel", "mayBe", "(IIII)Z"⟩, 17), (⟨"SoundingSheetModel", "isPlace", "(II)Z"⟩, 17), (⟨"SoundingSheetModel", "lineOf", "(II)I"⟩, 17), (⟨"SoundingSheetModel", "add", "(IIIIIIIII)I"⟩, 17), (⟨"SoundingSheetModel", "isSounding", "(I)Z"⟩, 17), (⟨"SoundingSheetModel", "of", "(II)I"⟩, 17), (⟨"SoundingSheetModel", "waits", "(I)Z"⟩, 17), (⟨"SoundingSheetModel", "corrected", "(I)I"⟩, 17), (⟨"SoundingSheetModel", "crosses", "(III)Z"⟩, 17), (⟨"SoundingSheetModel", "isOf", "(II)Z"⟩, 17)]
theorem lw_r2 : ∀ q ∈ lw_privs_2, lw_okq q := List.forall_mem_cons.mpr ⟨lw_p16, List.forall_mem_cons.mpr ⟨lw_p17, List.forall_mem_cons.mpr ⟨lw_p18, List.forall_mem_cons.mpr ⟨lw_p19, List.forall_mem_cons.mpr ⟨lw_p20, List.forall_mem_cons.mpr ⟨lw_p21, List.forall_mem_cons.mpr ⟨lw_p22, List.forall_mem_cons.mpr ⟨lw_p23, List.forall_mem_cons.mpr ⟨lw_p24, List.forall_mem_cons.mpr ⟨lw_p25, List.forall_mem_cons.mpr ⟨lw_p26, List.forall_mem_cons.mpr ⟨lw_p27, List.forall_mem_cons.mpr ⟨lw_p28, List.forall_mem_cons.mpr ⟨lw_p29, List.forall_mem_cons.mpr ⟨lw_p30, List.forall_mem_cons.mpr ⟨lw_p31, fun _ h => absurd h List.not_mem_nil⟩⟩⟩⟩⟩⟩⟩⟩⟩⟩⟩⟩⟩⟩⟩⟩
theorem lw_p32 : lw_okq (⟨"SoundingSheetModel", "far", "(II)I"⟩, 17) := ⟨⟨by decide +kernel, by decide +kernel⟩, List.mem_of_getElem? (i := 766) (by decide +kernel), List.mem_of_getElem? (i := 961) (by decide +kernel), List.mem_of_getElem? (i := 962) (by decide +kernel)⟩
theorem lw_p33 : lw_okq (⟨"SoundingSheetModel", "sheet", "(III)V"⟩, 17) := ⟨⟨by decide +kernel, by decide +kernel⟩, List.mem_of_getElem? (i := 766) (by decide +kernel), List.mem_of_getElem? (i := 973) (by decide +kernel), List.mem_of_getElem? (i := 974) (by decide +kernel)⟩
theorem lw_p34 : lw_okq (⟨"SoundingSheetModel", "isFound", "(III)Z"⟩, 17) := ⟨⟨by decide +kernel, by decide +kernel⟩, List.mem_of_getElem? (i := 766) (by decide +kernel), List.mem_of_getElem? (i := 977) (by decide +kernel), List.mem_of_getElem? (i := 978) (by decide +kernel)⟩
theorem lw_p35 : lw_okq (⟨"SoundingSheetModel", "isThere", "(II)Z"⟩, 17) := ⟨⟨by decide +kernel, by decide +kernel⟩, List.mem_of_getElem? (i := 766) (by decide +kernel), List.mem_of_getElem? (i := 984) (by decide +kernel), List.mem_of_getElem? (i := 985) (by decide +kernel)⟩
theorem lw_p36 : lw_okq (⟨"SoundingSheetModel", "isAlways", "(II)Z"⟩, 17) := ⟨⟨by decide +kernel, by decide +kernel⟩, List.mem_of_getElem? (i := 766) (by decide +kernel), List.mem_of_getElem? (i := 988) (by decide +kernel), List.mem_of_getElem? (i := 989) (by decide +kernel)⟩
theorem lw_p37 : lw_okq (⟨"SoundingSheetModel", "isSwept", "(II)Z"⟩, 17) := ⟨⟨by decide +kernel, by decide +kernel⟩, List.mem_of_getElem? (i := 766) (by decide +kernel), List.mem_of_getElem? (i := 992) (by decide +kernel), List.mem_of_getElem? (i := 993) (by decide +kernel)⟩
theorem lw_p38 : lw_okq (⟨"SoundingSheetModel", "hasPlace", "(III)Z"⟩, 17) := ⟨⟨by decide +kernel, by decide +kernel⟩, List.mem_of_getElem? (i := 766) (by decide +kernel), List.mem_of_getElem? (i := 996) (by decide +kernel), List.mem_of_getElem? (i := 997) (by decide +kernel)⟩
theorem lw_p39 : lw_okq (⟨"SoundingSheetModel", "lists", "(II)V"⟩, 17) := ⟨⟨by decide +kernel, by decide +kernel⟩, List.mem_of_getElem? (i := 766) (by decide +kernel), List.mem_of_getElem? (i := 1000) (by decide +kernel), List.mem_of_getElem? (i := 1001) (by decide +kernel)⟩
theorem lw_p40 : lw_okq (⟨"SoundingSheetModel", "isListed", "(I)Z"⟩, 17) := ⟨⟨by decide +kernel, by decide +kernel⟩, List.mem_of_getElem? (i := 766) (by decide +kernel), List.mem_of_getElem? (i := 1004) (by decide +kernel), List.mem_of_getElem? (i := 1005) (by decide +kernel)⟩
theorem lw_p41 : lw_okq (⟨"SoundingSheetModel", "depthOf", "(II)I"⟩, 17) := ⟨⟨by decide +kernel, by decide +kernel⟩, List.mem_of_getElem? (i := 766) (by decide +kernel), List.mem_of_getElem? (i := 1016) (by decide +kernel), List.mem_of_getElem? (i := 1017) (by decide +kernel)⟩
theorem lw_p42 : lw_okq (⟨"SoundingSheetModel", "isAsked", "(III)Z"⟩, 17) := ⟨⟨by decide +kernel, by decide +kernel⟩, List.mem_of_getElem? (i := 766) (by decide +kernel), List.mem_of_getElem? (i := 1028) (by decide +kernel), List.mem_of_getElem? (i := 1029) (by decide +kernel)⟩
theorem lw_p43 : lw_okq (⟨"SoundingSheetModel", "channel", "(III)I"⟩, 17) := ⟨⟨by decide +kernel, by decide +kernel⟩, List.mem_of_getElem? (i := 766) (by decide +kernel), List.mem_of_getElem? (i := 1032) (by decide +kernel), List.mem_of_getElem? (i := 1033) (by decide +kernel)⟩
theorem lw_p44 : lw_okq (⟨"SoundingSheetModel", "depths", "(I)V"⟩, 17) := ⟨⟨by decide +kernel, by decide +kernel⟩, List.mem_of_getElem? (i := 766) (by decide +kernel), List.mem_of_getElem? (i := 1036) (by decide +kernel), List.mem_of_getElem? (i := 1037) (by decide +kernel)⟩
theorem lw_p45 : lw_okq (⟨"SoundingSheetModel", "floods", "(III)Z"⟩, 17) := ⟨⟨by decide +kernel, by decide +kernel⟩, List.mem_of_getElem? (i := 766) (by decide +kernel), List.mem_of_getElem? (i := 1040) (by decide +kernel), List.mem_of_getElem? (i := 1041) (by decide +kernel)⟩
theorem lw_p46 : lw_okq (⟨"SoundingSheetModel", "next", "(I)I"⟩, 17) := ⟨⟨by decide +kernel, by decide +kernel⟩, List.mem_of_getElem? (i := 766) (by decide +kernel), List.mem_of_getElem? (i := 1051) (by decide +kernel), List.mem_of_getElem? (i := 1052) (by decide +kernel)⟩
def lw_privs_3 : List (MethodName × Nat) := [(⟨"SoundingSheetModel", "far", "(II)I"⟩, 17), (⟨"SoundingSheetModel", "sheet", "(III)V"⟩, 17), (⟨"SoundingSheetModel", "isFound", "(III)Z"⟩, 17), (⟨"SoundingSheetModel", "isThere", "(II)Z"⟩, 17), (⟨"SoundingSheetModel", "isAlways", "(II)Z"⟩, 17), (⟨"SoundingSheetModel", "isSwept", "(II)Z"⟩, 17), (⟨"SoundingSheetModel", "hasPlace", "(III)Z"⟩, 17), (⟨"SoundingSheetModel", "lists", "(II)V"⟩, 17), (⟨"SoundingSheetModel", "isListed", "(I)Z"⟩, 17), (⟨"SoundingSheetModel", "depthOf", "(II)I"⟩, 17), (⟨"SoundingSheetModel", "isAsked", "(III)Z"⟩, 17), (⟨"SoundingSheetModel", "channel", "(III)I"⟩, 17), (⟨"SoundingSheetModel", "depths", "(I)V"⟩, 17), (⟨"SoundingSheetModel", "floods", "(III)Z"⟩, 17), (⟨"SoundingSheetModel", "next", "(I)I"⟩, 17)]
theorem lw_r3 : ∀ q ∈ lw_privs_3, lw_okq q := List.forall_mem_cons.mpr ⟨lw_p32, List.forall_mem_cons.mpr ⟨lw_p33, List.forall_mem_cons.mpr ⟨lw_p34, List.forall_mem_cons.mpr ⟨lw_p35, List.forall_mem_cons.mpr ⟨lw_p36, List.forall_mem_cons.mpr ⟨lw_p37, List.forall_mem_cons.mpr ⟨lw_p38, List.forall_mem_cons.mpr ⟨lw_p39, List.forall_mem_cons.mpr ⟨lw_p40, List.forall_mem_cons.mpr ⟨lw_p41, List.forall_mem_cons.mpr ⟨lw_p42, List.forall_mem_cons.mpr ⟨lw_p43, List.forall_mem_cons.mpr ⟨lw_p44, List.forall_mem_cons.mpr ⟨lw_p45, List.forall_mem_cons.mpr ⟨lw_p46, fun _ h => absurd h List.not_mem_nil⟩⟩⟩⟩⟩⟩⟩⟩⟩⟩⟩⟩⟩⟩⟩
def lw_privs : List (MethodName × Nat) := lw_privs_1 ++ (lw_privs_2 ++ (lw_privs_3))
def lw_tbl : List Cond := k2_sels lw_privs ++ tables_1
theorem lw_privs_ok : ∀ q ∈ lw_privs, lw_okq q := by
  show ∀ q ∈ lw_privs_1 ++ (lw_privs_2 ++ (lw_privs_3)), lw_okq q
  exact List.forall_mem_append.mpr ⟨lw_r1, List.forall_mem_append.mpr ⟨lw_r2, lw_r3⟩⟩
end
section
def RX0 : String := "SoundingSheet$Acts"
def TX0 : u_T := fun k => match k with
  | 0 => ("SoundingSheet$Acts", "kinds", "[I", true)
  | 1 => ("SoundingSheet$Acts", "wheres", "[I", true)
  | 2 => ("SoundingSheet$Acts", "olds", "[I", true)
  | 3 => ("SoundingSheet$Acts", "next", "I", false)
  | 4 => ("SoundingSheet$Acts", "size", "I", false)
  | 5 => ("SoundingSheet$Acts", "takenAct", "I", false)
  | 6 => ("SoundingSheet$Acts", "takenWhere", "I", false)
  | _ => ("SoundingSheet$Acts", "takenOld", "I", false)
def tyX0 : Nat → FieldType := fun k => match k with
  | 0 => .array .int
  | 1 => .array .int
  | 2 => .array .int
  | 3 => .int
  | 4 => .int
  | 5 => .int
  | 6 => .int
  | _ => .int
abbrev wsX00 : List Cond := u_ws RX0 TX0 8
theorem nmX0 : ∀ a, a < 8 → ∀ b, b < 8 → a ≠ b → (TX0 a).2.1 ≠ (TX0 b).2.1 := by decide +kernel
theorem tyX0_ok : ∀ k, k < 8 → parseFieldDescriptor (TX0 k).2.2.1 = some (tyX0 k) := by decide +kernel
abbrev cX0_init : ByteArray := prog_2_method_1_code
def yX0_init : MethodName := ⟨RX0, "<init>", "()V"⟩
abbrev cX0_add : ByteArray := prog_2_method_2_code
def yX0_add : MethodName := ⟨RX0, "add", "(III)V"⟩
abbrev cX0_takeLatest : ByteArray := prog_2_method_3_code
def yX0_takeLatest : MethodName := ⟨RX0, "takeLatest", "()Z"⟩
abbrev cX0_forgetAll : ByteArray := prog_2_method_4_code
def yX0_forgetAll : MethodName := ⟨RX0, "forgetAll", "()V"⟩
def RX1 : String := "SoundingSheet$Channel"
def TX1 : u_T := fun k => match k with
  | 0 => ("SoundingSheet$Channel", "chart", "LSoundingSheet$Chart;", true)
  | 1 => ("SoundingSheet$Channel", "steps", "[I", true)
  | 2 => ("SoundingSheet$Channel", "queue", "[I", true)
  | 3 => ("SoundingSheet$Channel", "queued", "I", false)
  | 4 => ("SoundingSheet$Channel", "squares", "[I", true)
  | 5 => ("SoundingSheet$Channel", "length", "I", false)
  | _ => ("SoundingSheet$Channel", "floor", "I", false)
def tyX1 : Nat → FieldType := fun k => match k with
  | 0 => .object "SoundingSheet$Chart"
  | 1 => .array .int
  | 2 => .array .int
  | 3 => .int
  | 4 => .array .int
  | 5 => .int
  | _ => .int
abbrev wsX10 : List Cond := u_ws RX1 TX1 7
theorem nmX1 : ∀ a, a < 7 → ∀ b, b < 7 → a ≠ b → (TX1 a).2.1 ≠ (TX1 b).2.1 := by decide +kernel
theorem tyX1_ok : ∀ k, k < 7 → parseFieldDescriptor (TX1 k).2.2.1 = some (tyX1 k) := by decide +kernel
abbrev cX1_init : ByteArray := prog_3_method_1_code
def yX1_init : MethodName := ⟨RX1, "<init>", "(LSoundingSheet$Chart;)V"⟩
abbrev cX1_find : ByteArray := prog_3_method_2_code
def yX1_find : MethodName := ⟨RX1, "find", "(II)Z"⟩
abbrev cX1_joins : ByteArray := prog_3_method_3_code
def yX1_joins : MethodName := ⟨RX1, "joins", "(III)Z"⟩
abbrev cX1_firstAtFloor : ByteArray := prog_3_method_4_code
def yX1_firstAtFloor : MethodName := ⟨RX1, "firstAtFloor", "()I"⟩
abbrev cX1_greatestFloor : ByteArray := prog_3_method_5_code
def yX1_greatestFloor : MethodName := ⟨RX1, "greatestFloor", "(II)I"⟩
abbrev cX1_flood : ByteArray := prog_3_method_6_code
def yX1_flood : MethodName := ⟨RX1, "flood", "(II)V"⟩
abbrev cX1_reach : ByteArray := prog_3_method_7_code
def yX1_reach : MethodName := ⟨RX1, "reach", "(III)V"⟩
abbrev cX1_walk : ByteArray := prog_3_method_8_code
def yX1_walk : MethodName := ⟨RX1, "walk", "(I)V"⟩
abbrev cX1_leastBeside : ByteArray := prog_3_method_9_code
def yX1_leastBeside : MethodName := ⟨RX1, "leastBeside", "(II)I"⟩
abbrev cX1_beside : ByteArray := prog_3_method_10_code
def yX1_beside : MethodName := ⟨RX1, "beside", "(II)I"⟩
def RX2 : String := "SoundingSheet$Chart"
def TX2 : u_T := fun k => match k with
  | 0 => ("SoundingSheet$Chart", "survey", "LSoundingSheet$Survey;", true)
  | 1 => ("SoundingSheet$Chart", "swept", "[I", true)
  | _ => ("SoundingSheet$Chart", "depths", "[I", true)
def tyX2 : Nat → FieldType := fun k => match k with
  | 0 => .object "SoundingSheet$Survey"
  | 1 => .array .int
  | _ => .array .int
abbrev wsX20 : List Cond := u_ws RX2 TX2 3
theorem nmX2 : ∀ a, a < 3 → ∀ b, b < 3 → a ≠ b → (TX2 a).2.1 ≠ (TX2 b).2.1 := by decide +kernel
theorem tyX2_ok : ∀ k, k < 3 → parseFieldDescriptor (TX2 k).2.2.1 = some (tyX2 k) := by decide +kernel
abbrev cX2_init : ByteArray := prog_4_method_1_code
def yX2_init : MethodName := ⟨RX2, "<init>", "(LSoundingSheet$Survey;)V"⟩
abbrev cX2_draw : ByteArray := prog_4_method_2_code
def yX2_draw : MethodName := ⟨RX2, "draw", "(I)V"⟩
abbrev cX2_leastDepth : ByteArray := prog_4_method_3_code
def yX2_leastDepth : MethodName := ⟨RX2, "leastDepth", "()I"⟩
abbrev cX2_enter : ByteArray := prog_4_method_4_code
def yX2_enter : MethodName := ⟨RX2, "enter", "(I)V"⟩
abbrev cX2_enterSpan : ByteArray := prog_4_method_5_code
def yX2_enterSpan : MethodName := ⟨RX2, "enterSpan", "(I)V"⟩
def RX3 : String := "SoundingSheet$Crossings"
def TX3 : u_T := fun k => match k with
  | 0 => ("SoundingSheet$Crossings", "survey", "LSoundingSheet$Survey;", true)
  | 1 => ("SoundingSheet$Crossings", "order", "[I", true)
  | 2 => ("SoundingSheet$Crossings", "starts", "[I", true)
  | 3 => ("SoundingSheet$Crossings", "missed", "[I", true)
  | 4 => ("SoundingSheet$Crossings", "ofA", "I", false)
  | 5 => ("SoundingSheet$Crossings", "ofB", "I", false)
  | _ => ("SoundingSheet$Crossings", "apart", "I", false)
def tyX3 : Nat → FieldType := fun k => match k with
  | 0 => .object "SoundingSheet$Survey"
  | 1 => .array .int
  | 2 => .array .int
  | 3 => .array .int
  | 4 => .int
  | 5 => .int
  | _ => .int
abbrev wsX30 : List Cond := u_ws RX3 TX3 7
theorem nmX3 : ∀ a, a < 7 → ∀ b, b < 7 → a ≠ b → (TX3 a).2.1 ≠ (TX3 b).2.1 := by decide +kernel
theorem tyX3_ok : ∀ k, k < 7 → parseFieldDescriptor (TX3 k).2.2.1 = some (tyX3 k) := by decide +kernel
abbrev cX3_init : ByteArray := prog_5_method_1_code
def yX3_init : MethodName := ⟨RX3, "<init>", "(LSoundingSheet$Survey;)V"⟩
abbrev cX3_gather : ByteArray := prog_5_method_2_code
def yX3_gather : MethodName := ⟨RX3, "gather", "()V"⟩
abbrev cX3_canCross : ByteArray := prog_5_method_3_code
def yX3_canCross : MethodName := ⟨RX3, "canCross", "(I)Z"⟩
abbrev cX3_find : ByteArray := prog_5_method_4_code
def yX3_find : MethodName := ⟨RX3, "find", "(III)Z"⟩
abbrev cX3_miss : ByteArray := prog_5_method_5_code
def yX3_miss : MethodName := ⟨RX3, "miss", "()I"⟩
abbrev cX3_addMisses : ByteArray := prog_5_method_6_code
def yX3_addMisses : MethodName := ⟨RX3, "addMisses", "(I)V"⟩
abbrev cX3_addMiss : ByteArray := prog_5_method_7_code
def yX3_addMiss : MethodName := ⟨RX3, "addMiss", "(I)V"⟩
abbrev cX3_lineThatMissesMost : ByteArray := prog_5_method_8_code
def yX3_lineThatMissesMost : MethodName := ⟨RX3, "lineThatMissesMost", "()I"⟩
def RX4 : String := "SoundingSheet$Lines"
def TX4 : u_T := fun k => match k with
  | 0 => ("SoundingSheet$Lines", "days", "[I", true)
  | 1 => ("SoundingSheet$Lines", "speeds", "[I", true)
  | 2 => ("SoundingSheet$Lines", "shifts", "[I", true)
  | _ => ("SoundingSheet$Lines", "size", "I", false)
def tyX4 : Nat → FieldType := fun k => match k with
  | 0 => .array .int
  | 1 => .array .int
  | 2 => .array .int
  | _ => .int
abbrev wsX40 : List Cond := u_ws RX4 TX4 4
theorem nmX4 : ∀ a, a < 4 → ∀ b, b < 4 → a ≠ b → (TX4 a).2.1 ≠ (TX4 b).2.1 := by decide +kernel
theorem tyX4_ok : ∀ k, k < 4 → parseFieldDescriptor (TX4 k).2.2.1 = some (tyX4 k) := by decide +kernel
abbrev cX4_init : ByteArray := prog_6_method_1_code
def yX4_init : MethodName := ⟨RX4, "<init>", "()V"⟩
abbrev cX4_has : ByteArray := prog_6_method_2_code
def yX4_has : MethodName := ⟨RX4, "has", "(I)Z"⟩
abbrev cX4_add : ByteArray := prog_6_method_3_code
def yX4_add : MethodName := ⟨RX4, "add", "(II)I"⟩
abbrev cX4_removeLast : ByteArray := prog_6_method_4_code
def yX4_removeLast : MethodName := ⟨RX4, "removeLast", "()V"⟩
abbrev cX4_copyFrom : ByteArray := prog_6_method_5_code
def yX4_copyFrom : MethodName := ⟨RX4, "copyFrom", "(LSoundingSheet$Lines;)V"⟩
def RX5 : String := "SoundingSheet$Sheet"
def TX5 : u_T := fun k => match k with
  | 0 => ("SoundingSheet$Sheet", "survey", "LSoundingSheet$Survey;", true)
  | 1 => ("SoundingSheet$Sheet", "found", "[I", true)
  | 2 => ("SoundingSheet$Sheet", "foundSize", "I", false)
  | 3 => ("SoundingSheet$Sheet", "shownOnes", "[I", true)
  | 4 => ("SoundingSheet$Sheet", "shownSize", "I", false)
  | _ => ("SoundingSheet$Sheet", "reasons", "[I", true)
def tyX5 : Nat → FieldType := fun k => match k with
  | 0 => .object "SoundingSheet$Survey"
  | 1 => .array .int
  | 2 => .int
  | 3 => .array .int
  | 4 => .int
  | _ => .array .int
abbrev wsX50 : List Cond := u_ws RX5 TX5 6
theorem nmX5 : ∀ a, a < 6 → ∀ b, b < 6 → a ≠ b → (TX5 a).2.1 ≠ (TX5 b).2.1 := by decide +kernel
theorem tyX5_ok : ∀ k, k < 6 → parseFieldDescriptor (TX5 k).2.2.1 = some (tyX5 k) := by decide +kernel
abbrev cX5_init : ByteArray := prog_7_method_1_code
def yX5_init : MethodName := ⟨RX5, "<init>", "(LSoundingSheet$Survey;)V"⟩
abbrev cX5_draw : ByteArray := prog_7_method_2_code
def yX5_draw : MethodName := ⟨RX5, "draw", "(III)V"⟩
abbrev cX5_findAll : ByteArray := prog_7_method_3_code
def yX5_findAll : MethodName := ⟨RX5, "findAll", "(II)V"⟩
abbrev cX5_showAlways : ByteArray := prog_7_method_4_code
def yX5_showAlways : MethodName := ⟨RX5, "showAlways", "(I)V"⟩
abbrev cX5_standsInSwept : ByteArray := prog_7_method_5_code
def yX5_standsInSwept : MethodName := ⟨RX5, "standsInSwept", "(II)Z"⟩
abbrev cX5_showShoalest : ByteArray := prog_7_method_6_code
def yX5_showShoalest : MethodName := ⟨RX5, "showShoalest", "()V"⟩
abbrev cX5_showFarthest : ByteArray := prog_7_method_7_code
def yX5_showFarthest : MethodName := ⟨RX5, "showFarthest", "()V"⟩
abbrev cX5_distanceToShown : ByteArray := prog_7_method_8_code
def yX5_distanceToShown : MethodName := ⟨RX5, "distanceToShown", "(I)I"⟩
abbrev cX5_add : ByteArray := prog_7_method_9_code
def yX5_add : MethodName := ⟨RX5, "add", "(II)V"⟩
def RX6 : String := "SoundingSheet$Soundings"
def TX6 : u_T := fun k => match k with
  | 0 => ("SoundingSheet$Soundings", "kinds", "[I", true)
  | 1 => ("SoundingSheet$Soundings", "xs", "[I", true)
  | 2 => ("SoundingSheet$Soundings", "ys", "[I", true)
  | 3 => ("SoundingSheet$Soundings", "raws", "[I", true)
  | 4 => ("SoundingSheet$Soundings", "days", "[I", true)
  | 5 => ("SoundingSheet$Soundings", "lines", "[I", true)
  | 6 => ("SoundingSheet$Soundings", "minutes", "[I", true)
  | 7 => ("SoundingSheet$Soundings", "goneFrom", "[I", true)
  | 8 => ("SoundingSheet$Soundings", "widths", "[I", true)
  | 9 => ("SoundingSheet$Soundings", "heights", "[I", true)
  | _ => ("SoundingSheet$Soundings", "size", "I", false)
def tyX6 : Nat → FieldType := fun k => match k with
  | 0 => .array .int
  | 1 => .array .int
  | 2 => .array .int
  | 3 => .array .int
  | 4 => .array .int
  | 5 => .array .int
  | 6 => .array .int
  | 7 => .array .int
  | 8 => .array .int
  | 9 => .array .int
  | _ => .int
abbrev wsX60 : List Cond := u_ws RX6 TX6 11
theorem nmX6 : ∀ a, a < 11 → ∀ b, b < 11 → a ≠ b → (TX6 a).2.1 ≠ (TX6 b).2.1 := by decide +kernel
theorem tyX6_ok : ∀ k, k < 11 → parseFieldDescriptor (TX6 k).2.2.1 = some (tyX6 k) := by decide +kernel
abbrev cX6_init : ByteArray := prog_8_method_1_code
def yX6_init : MethodName := ⟨RX6, "<init>", "()V"⟩
abbrev cX6_has : ByteArray := prog_8_method_2_code
def yX6_has : MethodName := ⟨RX6, "has", "(I)Z"⟩
abbrev cX6_add : ByteArray := prog_8_method_3_code
def yX6_add : MethodName := ⟨RX6, "add", "(IIII)I"⟩
abbrev cX6_setOrigin : ByteArray := prog_8_method_4_code
def yX6_setOrigin : MethodName := ⟨RX6, "setOrigin", "(IIII)V"⟩
abbrev cX6_setSpan : ByteArray := prog_8_method_5_code
def yX6_setSpan : MethodName := ⟨RX6, "setSpan", "(III)V"⟩
abbrev cX6_removeLast : ByteArray := prog_8_method_6_code
def yX6_removeLast : MethodName := ⟨RX6, "removeLast", "()V"⟩
abbrev cX6_ofLine : ByteArray := prog_8_method_7_code
def yX6_ofLine : MethodName := ⟨RX6, "ofLine", "(I)I"⟩
abbrev cX6_isThere : ByteArray := prog_8_method_8_code
def yX6_isThere : MethodName := ⟨RX6, "isThere", "(II)Z"⟩
abbrev cX6_squareOf : ByteArray := prog_8_method_9_code
def yX6_squareOf : MethodName := ⟨RX6, "squareOf", "(I)I"⟩
abbrev cX6_apart : ByteArray := prog_8_method_10_code
def yX6_apart : MethodName := ⟨RX6, "apart", "(II)I"⟩
abbrev cX6_spanHas : ByteArray := prog_8_method_11_code
def yX6_spanHas : MethodName := ⟨RX6, "spanHas", "(II)Z"⟩
abbrev cX6_copyFrom : ByteArray := prog_8_method_12_code
def yX6_copyFrom : MethodName := ⟨RX6, "copyFrom", "(LSoundingSheet$Soundings;)V"⟩
def RX7 : String := "SoundingSheet$Survey"
def TX7 : u_T := fun k => match k with
  | 0 => ("SoundingSheet$Survey", "lines", "LSoundingSheet$Lines;", true)
  | 1 => ("SoundingSheet$Survey", "tides", "LSoundingSheet$Tides;", true)
  | 2 => ("SoundingSheet$Survey", "soundings", "LSoundingSheet$Soundings;", true)
  | _ => ("SoundingSheet$Survey", "depths", "[I", true)
def tyX7 : Nat → FieldType := fun k => match k with
  | 0 => .object "SoundingSheet$Lines"
  | 1 => .object "SoundingSheet$Tides"
  | 2 => .object "SoundingSheet$Soundings"
  | _ => .array .int
abbrev wsX70 : List Cond := u_ws RX7 TX7 4
theorem nmX7 : ∀ a, a < 4 → ∀ b, b < 4 → a ≠ b → (TX7 a).2.1 ≠ (TX7 b).2.1 := by decide +kernel
theorem tyX7_ok : ∀ k, k < 4 → parseFieldDescriptor (TX7 k).2.2.1 = some (tyX7 k) := by decide +kernel
abbrev cX7_init : ByteArray := prog_9_method_1_code
def yX7_init : MethodName := ⟨RX7, "<init>", "()V"⟩
abbrev cX7_corrected : ByteArray := prog_9_method_2_code
def yX7_corrected : MethodName := ⟨RX7, "corrected", "(I)I"⟩
abbrev cX7_waiting : ByteArray := prog_9_method_3_code
def yX7_waiting : MethodName := ⟨RX7, "waiting", "()I"⟩
abbrev cX7_measure : ByteArray := prog_9_method_4_code
def yX7_measure : MethodName := ⟨RX7, "measure", "()V"⟩
abbrev cX7_counts : ByteArray := prog_9_method_5_code
def yX7_counts : MethodName := ⟨RX7, "counts", "(II)Z"⟩
abbrev cX7_copyFrom : ByteArray := prog_9_method_6_code
def yX7_copyFrom : MethodName := ⟨RX7, "copyFrom", "(LSoundingSheet$Survey;)V"⟩
def RX8 : String := "SoundingSheet$Tides"
def TX8 : u_T := fun k => match k with
  | 0 => ("SoundingSheet$Tides", "told", "[I", true)
  | 1 => ("SoundingSheet$Tides", "minutes", "[I", true)
  | 2 => ("SoundingSheet$Tides", "heights", "[I", true)
  | 3 => ("SoundingSheet$Tides", "over", "J", false)
  | _ => ("SoundingSheet$Tides", "under", "J", false)
def tyX8 : Nat → FieldType := fun k => match k with
  | 0 => .array .int
  | 1 => .array .int
  | 2 => .array .int
  | 3 => .long
  | _ => .long
abbrev wsX80 : List Cond := u_ws RX8 TX8 5
theorem nmX8 : ∀ a, a < 5 → ∀ b, b < 5 → a ≠ b → (TX8 a).2.1 ≠ (TX8 b).2.1 := by decide +kernel
theorem tyX8_ok : ∀ k, k < 5 → parseFieldDescriptor (TX8 k).2.2.1 = some (tyX8 k) := by decide +kernel
abbrev cX8_init : ByteArray := prog_10_method_1_code
def yX8_init : MethodName := ⟨RX8, "<init>", "()V"⟩
abbrev cX8_rowOf : ByteArray := prog_10_method_2_code
def yX8_rowOf : MethodName := ⟨RX8, "rowOf", "(II)I"⟩
abbrev cX8_add : ByteArray := prog_10_method_3_code
def yX8_add : MethodName := ⟨RX8, "add", "(III)V"⟩
abbrev cX8_removeLast : ByteArray := prog_10_method_4_code
def yX8_removeLast : MethodName := ⟨RX8, "removeLast", "(I)V"⟩
abbrev cX8_seek : ByteArray := prog_10_method_5_code
def yX8_seek : MethodName := ⟨RX8, "seek", "(II)Z"⟩
abbrev cX8_copyFrom : ByteArray := prog_10_method_6_code
def yX8_copyFrom : MethodName := ⟨RX8, "copyFrom", "(LSoundingSheet$Tides;)V"⟩
def RX9 : String := "SoundingSheet"
def TX9 : u_T := fun k => match k with
  | 0 => ("SoundingSheet", "survey", "LSoundingSheet$Survey;", true)
  | 1 => ("SoundingSheet", "kept", "LSoundingSheet$Survey;", true)
  | 2 => ("SoundingSheet", "acts", "LSoundingSheet$Acts;", true)
  | 3 => ("SoundingSheet", "crossings", "LSoundingSheet$Crossings;", true)
  | 4 => ("SoundingSheet", "sheet", "LSoundingSheet$Sheet;", true)
  | 5 => ("SoundingSheet", "chart", "LSoundingSheet$Chart;", true)
  | 6 => ("SoundingSheet", "channel", "LSoundingSheet$Channel;", true)
  | _ => ("SoundingSheet", "hasImage", "Z", false)
def tyX9 : Nat → FieldType := fun k => match k with
  | 0 => .object "SoundingSheet$Survey"
  | 1 => .object "SoundingSheet$Survey"
  | 2 => .object "SoundingSheet$Acts"
  | 3 => .object "SoundingSheet$Crossings"
  | 4 => .object "SoundingSheet$Sheet"
  | 5 => .object "SoundingSheet$Chart"
  | 6 => .object "SoundingSheet$Channel"
  | _ => .boolean
abbrev wsX90 : List Cond := u_ws RX9 TX9 8
theorem nmX9 : ∀ a, a < 8 → ∀ b, b < 8 → a ≠ b → (TX9 a).2.1 ≠ (TX9 b).2.1 := by decide +kernel
theorem tyX9_ok : ∀ k, k < 8 → parseFieldDescriptor (TX9 k).2.2.1 = some (tyX9 k) := by decide +kernel
abbrev cX9_init : ByteArray := prog_1_method_1_code
def yX9_init : MethodName := ⟨RX9, "<init>", "()V"⟩
abbrev cX9_line : ByteArray := prog_1_method_2_code
def yX9_line : MethodName := ⟨RX9, "line", "(II)I"⟩
abbrev cX9_tide : ByteArray := prog_1_method_3_code
def yX9_tide : MethodName := ⟨RX9, "tide", "(III)I"⟩
abbrev cX9_speed : ByteArray := prog_1_method_4_code
def yX9_speed : MethodName := ⟨RX9, "speed", "(II)Z"⟩
abbrev cX9_shift : ByteArray := prog_1_method_5_code
def yX9_shift : MethodName := ⟨RX9, "shift", "(II)Z"⟩
abbrev cX9_lead : ByteArray := prog_1_method_6_code
def yX9_lead : MethodName := ⟨RX9, "lead", "(IIIII)I"⟩
abbrev cX9_echo : ByteArray := prog_1_method_7_code
def yX9_echo : MethodName := ⟨RX9, "echo", "(IIIII)I"⟩
abbrev cX9_sweep : ByteArray := prog_1_method_8_code
def yX9_sweep : MethodName := ⟨RX9, "sweep", "(IIIIIII)I"⟩
abbrev cX9_notice : ByteArray := prog_1_method_9_code
def yX9_notice : MethodName := ⟨RX9, "notice", "(IIIII)I"⟩
abbrev cX9_gone : ByteArray := prog_1_method_10_code
def yX9_gone : MethodName := ⟨RX9, "gone", "(II)Z"⟩
abbrev cX9_count : ByteArray := prog_1_method_11_code
def yX9_count : MethodName := ⟨RX9, "count", "(I)I"⟩
abbrev cX9_sounding : ByteArray := prog_1_method_12_code
def yX9_sounding : MethodName := ⟨RX9, "sounding", "(II)I"⟩
abbrev cX9_depth : ByteArray := prog_1_method_13_code
def yX9_depth : MethodName := ⟨RX9, "depth", "(I)I"⟩
abbrev cX9_boat : ByteArray := prog_1_method_14_code
def yX9_boat : MethodName := ⟨RX9, "boat", "(II)I"⟩
abbrev cX9_water : ByteArray := prog_1_method_15_code
def yX9_water : MethodName := ⟨RX9, "water", "(III)I"⟩
abbrev cX9_cross : ByteArray := prog_1_method_16_code
def yX9_cross : MethodName := ⟨RX9, "cross", "(IIII)I"⟩
abbrev cX9_worst : ByteArray := prog_1_method_17_code
def yX9_worst : MethodName := ⟨RX9, "worst", "(I)I"⟩
abbrev cX9_shown : ByteArray := prog_1_method_18_code
def yX9_shown : MethodName := ⟨RX9, "shown", "(IIII)I"⟩
abbrev cX9_why : ByteArray := prog_1_method_19_code
def yX9_why : MethodName := ⟨RX9, "why", "(III)I"⟩
abbrev cX9_bottom : ByteArray := prog_1_method_20_code
def yX9_bottom : MethodName := ⟨RX9, "bottom", "(II)I"⟩
abbrev cX9_deepest : ByteArray := prog_1_method_21_code
def yX9_deepest : MethodName := ⟨RX9, "deepest", "(III)I"⟩
abbrev cX9_way : ByteArray := prog_1_method_22_code
def yX9_way : MethodName := ⟨RX9, "way", "(IIII)I"⟩
abbrev cX9_narrow : ByteArray := prog_1_method_23_code
def yX9_narrow : MethodName := ⟨RX9, "narrow", "(III)I"⟩
abbrev cX9_draught : ByteArray := prog_1_method_24_code
def yX9_draught : MethodName := ⟨RX9, "draught", "(IIII)Z"⟩
abbrev cX9_check : ByteArray := prog_1_method_25_code
def yX9_check : MethodName := ⟨RX9, "check", "(III)I"⟩
abbrev cX9_undo : ByteArray := prog_1_method_26_code
def yX9_undo : MethodName := ⟨RX9, "undo", "()Z"⟩
abbrev cX9_image : ByteArray := prog_1_method_27_code
def yX9_image : MethodName := ⟨RX9, "image", "()V"⟩
abbrev cX9_load : ByteArray := prog_1_method_28_code
def yX9_load : MethodName := ⟨RX9, "load", "()Z"⟩
abbrev cX9_addOfLine : ByteArray := prog_1_method_29_code
def yX9_addOfLine : MethodName := ⟨RX9, "addOfLine", "(IIIIII)I"⟩
abbrev cX9_addSounding : ByteArray := prog_1_method_30_code
def yX9_addSounding : MethodName := ⟨RX9, "addSounding", "(IIII)I"⟩
abbrev cX9_findChannel : ByteArray := prog_1_method_31_code
def yX9_findChannel : MethodName := ⟨RX9, "findChannel", "(III)Z"⟩
abbrev cX9_within : ByteArray := prog_1_method_32_code
def yX9_within : MethodName := ⟨RX9, "within", "(III)Z"⟩
abbrev cX9_isDay : ByteArray := prog_1_method_33_code
def yX9_isDay : MethodName := ⟨RX9, "isDay", "(I)Z"⟩
abbrev cX9_isMinute : ByteArray := prog_1_method_34_code
def yX9_isMinute : MethodName := ⟨RX9, "isMinute", "(I)Z"⟩
abbrev cX9_isSpeed : ByteArray := prog_1_method_35_code
def yX9_isSpeed : MethodName := ⟨RX9, "isSpeed", "(I)Z"⟩
abbrev cX9_isPlace : ByteArray := prog_1_method_36_code
def yX9_isPlace : MethodName := ⟨RX9, "isPlace", "(II)Z"⟩
abbrev cX9_isSquare : ByteArray := prog_1_method_37_code
def yX9_isSquare : MethodName := ⟨RX9, "isSquare", "(I)Z"⟩
abbrev cX9_isDensity : ByteArray := prog_1_method_38_code
def yX9_isDensity : MethodName := ⟨RX9, "isDensity", "(I)Z"⟩
abbrev cX9_isReach : ByteArray := prog_1_method_39_code
def yX9_isReach : MethodName := ⟨RX9, "isReach", "(I)Z"⟩
abbrev cX9_floorOf : ByteArray := prog_1_method_40_code
def yX9_floorOf : MethodName := ⟨RX9, "floorOf", "(JJ)J"⟩
abbrev cX9_cutFloat : ByteArray := prog_1_method_41_code
def yX9_cutFloat : MethodName := ⟨RX9, "cutFloat", "(I)I"⟩
def RX10 : String := "SoundingSheetModel"
def TX10 : u_T := fun k => match k with
  | 0 => ("SoundingSheetModel", "s", "[I", true)
  | 1 => ("SoundingSheetModel", "past", "[I", true)
  | 2 => ("SoundingSheetModel", "kept", "[I", true)
  | 3 => ("SoundingSheetModel", "pastMany", "I", false)
  | 4 => ("SoundingSheetModel", "pastNext", "I", false)
  | 5 => ("SoundingSheetModel", "isKept", "Z", false)
  | 6 => ("SoundingSheetModel", "water", "J", false)
  | 7 => ("SoundingSheetModel", "whole", "J", false)
  | 8 => ("SoundingSheetModel", "crossA", "I", false)
  | 9 => ("SoundingSheetModel", "crossB", "I", false)
  | 10 => ("SoundingSheetModel", "crossFar", "I", false)
  | 11 => ("SoundingSheetModel", "list", "[I", true)
  | 12 => ("SoundingSheetModel", "as", "[I", true)
  | 13 => ("SoundingSheetModel", "listed", "I", false)
  | 14 => ("SoundingSheetModel", "deep", "[I", true)
  | 15 => ("SoundingSheetModel", "steps", "[I", true)
  | _ => ("SoundingSheetModel", "queue", "[I", true)
def tyX10 : Nat → FieldType := fun k => match k with
  | 0 => .array .int
  | 1 => .array .int
  | 2 => .array .int
  | 3 => .int
  | 4 => .int
  | 5 => .boolean
  | 6 => .long
  | 7 => .long
  | 8 => .int
  | 9 => .int
  | 10 => .int
  | 11 => .array .int
  | 12 => .array .int
  | 13 => .int
  | 14 => .array .int
  | 15 => .array .int
  | _ => .array .int
abbrev wsX100 : List Cond := u_ws RX10 TX10 17
theorem nmX10 : ∀ a, a < 17 → ∀ b, b < 17 → a ≠ b → (TX10 a).2.1 ≠ (TX10 b).2.1 := by decide +kernel
theorem tyX10_ok : ∀ k, k < 17 → parseFieldDescriptor (TX10 k).2.2.1 = some (tyX10 k) := by decide +kernel
abbrev cX10_init : ByteArray := prog_12_method_1_code
def yX10_init : MethodName := ⟨RX10, "<init>", "()V"⟩
abbrev cX10_in : ByteArray := prog_12_method_2_code
def yX10_in : MethodName := ⟨RX10, "in", "(III)Z"⟩
abbrev cX10_acts : ByteArray := prog_12_method_3_code
def yX10_acts : MethodName := ⟨RX10, "acts", "()V"⟩
abbrev cX10_undo : ByteArray := prog_12_method_4_code
def yX10_undo : MethodName := ⟨RX10, "undo", "()Z"⟩
abbrev cX10_image : ByteArray := prog_12_method_5_code
def yX10_image : MethodName := ⟨RX10, "image", "()V"⟩
abbrev cX10_load : ByteArray := prog_12_method_6_code
def yX10_load : MethodName := ⟨RX10, "load", "()Z"⟩
abbrev cX10_isLine : ByteArray := prog_12_method_7_code
def yX10_isLine : MethodName := ⟨RX10, "isLine", "(I)Z"⟩
abbrev cX10_lineOf : ByteArray := prog_12_method_8_code
def yX10_lineOf : MethodName := ⟨RX10, "lineOf", "(II)I"⟩
abbrev cX10_line : ByteArray := prog_12_method_9_code
def yX10_line : MethodName := ⟨RX10, "line", "(II)I"⟩
abbrev cX10_speed : ByteArray := prog_12_method_10_code
def yX10_speed : MethodName := ⟨RX10, "speed", "(II)Z"⟩
abbrev cX10_shift : ByteArray := prog_12_method_11_code
def yX10_shift : MethodName := ⟨RX10, "shift", "(II)Z"⟩
abbrev cX10_tide : ByteArray := prog_12_method_12_code
def yX10_tide : MethodName := ⟨RX10, "tide", "(III)I"⟩
abbrev cX10_tideAt : ByteArray := prog_12_method_13_code
def yX10_tideAt : MethodName := ⟨RX10, "tideAt", "(II)Z"⟩
abbrev cX10_below : ByteArray := prog_12_method_14_code
def yX10_below : MethodName := ⟨RX10, "below", "(JJ)J"⟩
abbrev cX10_water : ByteArray := prog_12_method_15_code
def yX10_water : MethodName := ⟨RX10, "water", "(III)I"⟩
abbrev cX10_isSounding : ByteArray := prog_12_method_16_code
def yX10_isSounding : MethodName := ⟨RX10, "isSounding", "(I)Z"⟩
abbrev cX10_of : ByteArray := prog_12_method_17_code
def yX10_of : MethodName := ⟨RX10, "of", "(II)I"⟩
abbrev cX10_add : ByteArray := prog_12_method_18_code
def yX10_add : MethodName := ⟨RX10, "add", "(IIIIIIIII)I"⟩
abbrev cX10_isPlace : ByteArray := prog_12_method_19_code
def yX10_isPlace : MethodName := ⟨RX10, "isPlace", "(II)Z"⟩
abbrev cX10_mayBe : ByteArray := prog_12_method_20_code
def yX10_mayBe : MethodName := ⟨RX10, "mayBe", "(IIII)Z"⟩
abbrev cX10_lead : ByteArray := prog_12_method_21_code
def yX10_lead : MethodName := ⟨RX10, "lead", "(IIIII)I"⟩
abbrev cX10_cut : ByteArray := prog_12_method_22_code
def yX10_cut : MethodName := ⟨RX10, "cut", "(I)I"⟩
abbrev cX10_echo : ByteArray := prog_12_method_23_code
def yX10_echo : MethodName := ⟨RX10, "echo", "(IIIII)I"⟩
abbrev cX10_sweep : ByteArray := prog_12_method_24_code
def yX10_sweep : MethodName := ⟨RX10, "sweep", "(IIIIIII)I"⟩
abbrev cX10_notice : ByteArray := prog_12_method_25_code
def yX10_notice : MethodName := ⟨RX10, "notice", "(IIIII)I"⟩
abbrev cX10_gone : ByteArray := prog_12_method_26_code
def yX10_gone : MethodName := ⟨RX10, "gone", "(II)Z"⟩
abbrev cX10_waits : ByteArray := prog_12_method_27_code
def yX10_waits : MethodName := ⟨RX10, "waits", "(I)Z"⟩
abbrev cX10_corrected : ByteArray := prog_12_method_28_code
def yX10_corrected : MethodName := ⟨RX10, "corrected", "(I)I"⟩
abbrev cX10_isThere : ByteArray := prog_12_method_29_code
def yX10_isThere : MethodName := ⟨RX10, "isThere", "(II)Z"⟩
abbrev cX10_count : ByteArray := prog_12_method_30_code
def yX10_count : MethodName := ⟨RX10, "count", "(I)I"⟩
abbrev cX10_sounding : ByteArray := prog_12_method_31_code
def yX10_sounding : MethodName := ⟨RX10, "sounding", "(II)I"⟩
abbrev cX10_depth : ByteArray := prog_12_method_32_code
def yX10_depth : MethodName := ⟨RX10, "depth", "(I)I"⟩
abbrev cX10_boat : ByteArray := prog_12_method_33_code
def yX10_boat : MethodName := ⟨RX10, "boat", "(II)I"⟩
abbrev cX10_far : ByteArray := prog_12_method_34_code
def yX10_far : MethodName := ⟨RX10, "far", "(II)I"⟩
abbrev cX10_isOf : ByteArray := prog_12_method_35_code
def yX10_isOf : MethodName := ⟨RX10, "isOf", "(II)Z"⟩
abbrev cX10_crosses : ByteArray := prog_12_method_36_code
def yX10_crosses : MethodName := ⟨RX10, "crosses", "(III)Z"⟩
abbrev cX10_cross : ByteArray := prog_12_method_37_code
def yX10_cross : MethodName := ⟨RX10, "cross", "(IIII)I"⟩
abbrev cX10_worst : ByteArray := prog_12_method_38_code
def yX10_worst : MethodName := ⟨RX10, "worst", "(I)I"⟩
abbrev cX10_squareOf : ByteArray := prog_12_method_39_code
def yX10_squareOf : MethodName := ⟨RX10, "squareOf", "(II)I"⟩
abbrev cX10_isFound : ByteArray := prog_12_method_40_code
def yX10_isFound : MethodName := ⟨RX10, "isFound", "(III)Z"⟩
abbrev cX10_hasPlace : ByteArray := prog_12_method_41_code
def yX10_hasPlace : MethodName := ⟨RX10, "hasPlace", "(III)Z"⟩
abbrev cX10_isSwept : ByteArray := prog_12_method_42_code
def yX10_isSwept : MethodName := ⟨RX10, "isSwept", "(II)Z"⟩
abbrev cX10_isAlways : ByteArray := prog_12_method_43_code
def yX10_isAlways : MethodName := ⟨RX10, "isAlways", "(II)Z"⟩
abbrev cX10_isListed : ByteArray := prog_12_method_44_code
def yX10_isListed : MethodName := ⟨RX10, "isListed", "(I)Z"⟩
abbrev cX10_lists : ByteArray := prog_12_method_45_code
def yX10_lists : MethodName := ⟨RX10, "lists", "(II)V"⟩
abbrev cX10_sheet : ByteArray := prog_12_method_46_code
def yX10_sheet : MethodName := ⟨RX10, "sheet", "(III)V"⟩
abbrev cX10_shown : ByteArray := prog_12_method_47_code
def yX10_shown : MethodName := ⟨RX10, "shown", "(IIII)I"⟩
abbrev cX10_why : ByteArray := prog_12_method_48_code
def yX10_why : MethodName := ⟨RX10, "why", "(III)I"⟩
abbrev cX10_depthOf : ByteArray := prog_12_method_49_code
def yX10_depthOf : MethodName := ⟨RX10, "depthOf", "(II)I"⟩
abbrev cX10_bottom : ByteArray := prog_12_method_50_code
def yX10_bottom : MethodName := ⟨RX10, "bottom", "(II)I"⟩
abbrev cX10_check : ByteArray := prog_12_method_51_code
def yX10_check : MethodName := ⟨RX10, "check", "(III)I"⟩
abbrev cX10_isAsked : ByteArray := prog_12_method_52_code
def yX10_isAsked : MethodName := ⟨RX10, "isAsked", "(III)Z"⟩
abbrev cX10_beside : ByteArray := prog_12_method_53_code
def yX10_beside : MethodName := ⟨RX10, "beside", "(II)I"⟩
abbrev cX10_floods : ByteArray := prog_12_method_54_code
def yX10_floods : MethodName := ⟨RX10, "floods", "(III)Z"⟩
abbrev cX10_depths : ByteArray := prog_12_method_55_code
def yX10_depths : MethodName := ⟨RX10, "depths", "(I)V"⟩
abbrev cX10_channel : ByteArray := prog_12_method_56_code
def yX10_channel : MethodName := ⟨RX10, "channel", "(III)I"⟩
abbrev cX10_deepest : ByteArray := prog_12_method_57_code
def yX10_deepest : MethodName := ⟨RX10, "deepest", "(III)I"⟩
abbrev cX10_next : ByteArray := prog_12_method_58_code
def yX10_next : MethodName := ⟨RX10, "next", "(I)I"⟩
abbrev cX10_way : ByteArray := prog_12_method_59_code
def yX10_way : MethodName := ⟨RX10, "way", "(IIII)I"⟩
abbrev cX10_narrow : ByteArray := prog_12_method_60_code
def yX10_narrow : MethodName := ⟨RX10, "narrow", "(III)I"⟩
abbrev cX10_draught : ByteArray := prog_12_method_61_code
def yX10_draught : MethodName := ⟨RX10, "draught", "(IIII)Z"⟩
def RJ9 : String := "java/lang/Math"
def TJ9 : u_T := fun k => match k with
  | _ => ("", "", "", false)
def tyJ9 : Nat → FieldType := fun k => match k with
  | _ => .int
abbrev wsJ90 : List Cond := u_ws RJ9 TJ9 0
theorem nmJ9 : ∀ a, a < 0 → ∀ b, b < 0 → a ≠ b → (TJ9 a).2.1 ≠ (TJ9 b).2.1 := by decide +kernel
theorem tyJ9_ok : ∀ k, k < 0 → parseFieldDescriptor (TJ9 k).2.2.1 = some (tyJ9 k) := by decide +kernel
abbrev cJ9_floorDiv_f86c9 : ByteArray := prog_13_method_49_code
def yJ9_floorDiv_f86c9 : MethodName := ⟨RJ9, "floorDiv", "(JJ)J"⟩
abbrev cJ9_abs_0f7a4 : ByteArray := prog_13_method_59_code
def yJ9_abs_0f7a4 : MethodName := ⟨RJ9, "abs", "(I)I"⟩
abbrev cJ9_max_7cf53 : ByteArray := prog_13_method_65_code
def yJ9_max_7cf53 : MethodName := ⟨RJ9, "max", "(II)I"⟩
abbrev cJ9_min_7cf53 : ByteArray := prog_13_method_69_code
def yJ9_min_7cf53 : MethodName := ⟨RJ9, "min", "(II)I"⟩
def RJ10 : String := "java/lang/System"
def TJ10 : u_T := fun k => match k with
  | _ => ("", "", "", false)
def tyJ10 : Nat → FieldType := fun k => match k with
  | _ => .int
abbrev wsJ100 : List Cond := u_ws RJ10 TJ10 0
theorem nmJ10 : ∀ a, a < 0 → ∀ b, b < 0 → a ≠ b → (TJ10 a).2.1 ≠ (TJ10 b).2.1 := by decide +kernel
theorem tyJ10_ok : ∀ k, k < 0 → parseFieldDescriptor (TJ10 k).2.2.1 = some (tyJ10 k) := by decide +kernel
def RJ7 : String := "java/util/Arrays"
def TJ7 : u_T := fun k => match k with
  | _ => ("", "", "", false)
def tyJ7 : Nat → FieldType := fun k => match k with
  | _ => .int
abbrev wsJ70 : List Cond := u_ws RJ7 TJ7 0
theorem nmJ7 : ∀ a, a < 0 → ∀ b, b < 0 → a ≠ b → (TJ7 a).2.1 ≠ (TJ7 b).2.1 := by decide +kernel
theorem tyJ7_ok : ∀ k, k < 0 → parseFieldDescriptor (TJ7 k).2.2.1 = some (tyJ7 k) := by decide +kernel
abbrev cJ7_fill_53178 : ByteArray := prog_15_method_103_code
def yJ7_fill_53178 : MethodName := ⟨RJ7, "fill", "([II)V"⟩
def RL : String := "SoundingSheetLaw"
abbrev cL_law : ByteArray := code
def yL_law : MethodName := ⟨RL, "law", "([I)Z"⟩
abbrev vwCl : List vw_C := [(RX0, TX0, 8), (RX1, TX1, 7), (RX2, TX2, 3), (RX3, TX3, 7), (RX4, TX4, 4), (RX5, TX5, 6), (RX6, TX6, 11), (RX7, TX7, 4), (RX8, TX8, 5), (RX9, TX9, 8), (RX10, TX10, 17)]
end
section
/-! MY LAYER over the kit: a state St of numbers and rows; a world w : St → cells; a method's context; rows for gets, puts, array reads and writes, calls, ends -/
abbrev St : Type := (Nat → Int32) × (Nat → Int64) × (Nat → Nat → Int32)
def fI (S : St) (k : Nat) : Int32 := S.1 k
def fL (S : St) (k : Nat) : Int64 := S.2.1 k
def fA (S : St) (k : Nat) : Nat → Int32 := S.2.2 k
def sI (S : St) (k : Nat) (x : Int32) : St := (fun j => if j = k then x else S.1 j, S.2)
def sL (S : St) (k : Nat) (x : Int64) : St := (S.1, fun j => if j = k then x else S.2.1 j, S.2.2)
def sA (S : St) (k : Nat) (f : Nat → Int32) : St := (S.1, S.2.1, fun j => if j = k then f else S.2.2 j)
/-- a read of a row of n places -/
def rd (f : Nat → Int32) (n : Nat) (i : Int32) : Option Int32 := if 0 ≤ i.toInt ∧ i.toInt < n then some (f i.toNatClampNeg) else none
/-- a write -/
def wr (f : Nat → Int32) (n : Nat) (i x : Int32) : Option (Nat → Int32) := if 0 ≤ i.toInt ∧ i.toInt < n then some (upd f i.toNatClampNeg x) else none
/-- an array copy -/
def cp (f : Nat → Int32) (n0 : Nat) (sp : Int32) (g : Nat → Int32) (n1 : Nat) (dp n : Int32) : Option (Nat → Int32) :=
  if 0 ≤ sp.toInt ∧ 0 ≤ dp.toInt ∧ 0 ≤ n.toInt ∧ sp.toInt + n.toInt ≤ n0 ∧ dp.toInt + n.toInt ≤ n1 then some (va_cpy f g sp.toNatClampNeg dp.toNatClampNeg n.toNatClampNeg) else none
theorem rd_some {f : Nat → Int32} {n : Nat} {i v : Int32} (h : rd f n i = some v) : vp_in i n ∧ v = f i.toNatClampNeg := by
  unfold rd at h
  split at h
  · rename_i h1
    exact ⟨vp_in_iff.mpr h1, (Option.some.inj h).symm⟩
  · cases h
theorem wr_some {f g : Nat → Int32} {n : Nat} {i x : Int32} (h : wr f n i x = some g) : vp_in i n ∧ g = upd f i.toNatClampNeg x := by
  unfold wr at h
  split at h
  · rename_i h1
    exact ⟨vp_in_iff.mpr h1, (Option.some.inj h).symm⟩
  · cases h
theorem bs {α β : Type} {x : Option α} {f : α → Option β} {r : β} (h : x.bind f = some r) : ∃ y, x = some y ∧ f y = some r := by
  cases x with
  | none => cases h
  | some y => exact ⟨y, rfl, h⟩
theorem sd_clampT {x : Int32} (h : 0 ≤ x.toInt) : (x.toNatClampNeg : Int) = x.toInt := by
  show ((x.toInt.toNat : Nat) : Int) = x.toInt
  omega
theorem cp_some {f g r : Nat → Int32} {n0 n1 : Nat} {sp dp n : Int32} (h : cp f n0 sp g n1 dp n = some r) : ¬ sp < 0 ∧ ¬ dp < 0 ∧ ¬ n < 0 ∧ sp.toNatClampNeg + n.toNatClampNeg ≤ n0 ∧ dp.toNatClampNeg + n.toNatClampNeg ≤ n1 ∧ r = va_cpy f g sp.toNatClampNeg dp.toNatClampNeg n.toNatClampNeg := by
  unfold cp at h
  split at h
  · rename_i h1
    obtain ⟨a, b, c, d, e⟩ := h1
    have ea := sd_clampT a
    have eb := sd_clampT b
    have ec := sd_clampT c
    refine ⟨?_, ?_, ?_, by omega, by omega, (Option.some.inj h).symm⟩
    all_goals
      rw [Int32.lt_iff_toInt_lt]
      have z : (0 : Int32).toInt = 0 := rfl
      omega
  · cases h
/-- words of nest mates, kept by every step -/
def sd_isNest : Cond → Bool
  | .fieldLinkNest .. => true
  | .methodLinkNest .. => true
  | _ => false
theorem sd_nestW {w : Cond} (h : sd_isNest w = true) {s U : State} (hW : s.WarmedH U.vm) (hZ : va_Nw w s) : va_Nw w U := by
  cases w <;> first | exact va_Nw.warmF hW hZ | exact va_Nw.warmM hW hZ | (exact absurd h (by simp [sd_isNest]))
theorem sd_nestS {w : Cond} (h : sd_isNest w = true) {s U : State} (hW : s.vm = U.vm) (hZ : va_Nw w s) : va_Nw w U := by
  cases w <;> first | exact va_Nw.same rfl hW hZ | (exact absurd h (by simp [sd_isNest]))
/-- what the tables say of a state: the classes, int[], the nest mates' words -/
def sd_K (D : va_G) (cl : List vw_C) (cA : ClassId) (nw : List Cond) (U : State) : Prop := va_K D cl [(cA, .int)] U ∧ ∀ w ∈ nw, sd_isNest w = true ∧ va_Nw w U
theorem sd_K.warm {D : va_G} {cl : List vw_C} {cA : ClassId} {nw : List Cond} {s U : State} (hW : s.WarmedH U.vm) (h : sd_K D cl cA nw s) : sd_K D cl cA nw U := ⟨va_K.moved hW.alike h.1, fun w hw => ⟨(h.2 w hw).1, sd_nestW (h.2 w hw).1 hW (h.2 w hw).2⟩⟩
theorem sd_K.same {D : va_G} {cl : List vw_C} {cA : ClassId} {nw : List Cond} {s U : State} (hW : s.vm = U.vm) (h : sd_K D cl cA nw s) : sd_K D cl cA nw U := ⟨va_K.moved (by rw [hW]; exact Vm.Alike.refl _) h.1, fun w hw => ⟨(h.2 w hw).1, sd_nestS (h.2 w hw).1 hW (h.2 w hw).2⟩⟩
/-- the context of a method's body -/
def sd_Cx (own : String) (cc : ByteArray) (nL : Nat) (ret : Option FieldType) (Ts : List Cond) (p : Program) (s : State) (m : MethodId) (args : Array Value) (meth : Method) (c : Code) : Prop :=
  p.tables.exec = Jvm.exec ∧ c.code = cc ∧ c.maxLocals = nL ∧ s.vm.findClass own = some m.cls ∧ (∀ w ∈ Ts, w.before args s = true) ∧ meth.sig.returnType = ret ∧ meth.locks = false
/-- the world between two instructions -/
def sd_Wd (D : va_G) (cl : List vw_C) (cA : ClassId) (nw : List Cond) (w : St → va_W) (A : Nat → Prop) (s : State) (S : St) (H : Heap) (locs : List Loc) : Prop :=
  sd_K D cl cA nw s ∧ va_P D cl (w S) H ∧ va_D A (w S) ∧ va_S A s.heap H locs ∧ ∀ q, s.heap.size ≤ q → A q
/-- a contract's start and ends -/
def sd_pre (D : va_G) (cl : List vw_C) (cA : ClassId) (nw : List Cond) (w : St → va_W) (S : St) (sz : Nat) (U : State) : Prop := U.heap.size = sz ∧ sd_K D cl cA nw U ∧ va_P D cl (w S) U.heap ∧ va_D (fun _ => True) (w S)
def sd_Qi (D : va_G) (cl : List vw_C) (w : St → va_W) (A : Nat → Prop) (q : Int32 × St) : Array Value → State → Outcome → State → Prop := va_Qi (fun r (_ : Unit) => r = q.1) (fun _ t => va_P D cl (w q.2) t.heap ∧ va_D A (w q.2)) A
def sd_Ql (D : va_G) (cl : List vw_C) (w : St → va_W) (A : Nat → Prop) (q : Int64 × St) : Array Value → State → Outcome → State → Prop := va_Ql (fun r (_ : Unit) => r = q.1) (fun _ t => va_P D cl (w q.2) t.heap ∧ va_D A (w q.2)) A
def sd_Qv (D : va_G) (cl : List vw_C) (w : St → va_W) (A : Nat → Prop) (q : St) : Array Value → State → Outcome → State → Prop := va_Qv (fun (_ : Unit) => True) (fun _ t => va_P D cl (w q) t.heap ∧ va_D A (w q)) A
def sd_MI (l : Launch) (D : va_G) (cl : List vw_C) (cA : ClassId) (nw : List Cond) (w : St → va_W) (y : MethodName) (Tc : List Cond) (rm : Room) (As : List Value) (S : St) (q : Int32 × St) : Prop := ∀ sz, Met l y Tc rm (va_Pc As (sd_pre D cl cA nw w S sz)) (sd_Qi D cl w (va_A (w S) sz) q) 0 0 (va_A (w S) sz)
def sd_ML (l : Launch) (D : va_G) (cl : List vw_C) (cA : ClassId) (nw : List Cond) (w : St → va_W) (y : MethodName) (Tc : List Cond) (rm : Room) (As : List Value) (S : St) (q : Int64 × St) : Prop := ∀ sz, Met l y Tc rm (va_Pc As (sd_pre D cl cA nw w S sz)) (sd_Ql D cl w (va_A (w S) sz) q) 0 0 (va_A (w S) sz)
def sd_MV (l : Launch) (D : va_G) (cl : List vw_C) (cA : ClassId) (nw : List Cond) (w : St → va_W) (y : MethodName) (Tc : List Cond) (rm : Room) (As : List Value) (S : St) (q : St) : Prop := ∀ sz, Met l y Tc rm (va_Pc As (sd_pre D cl cA nw w S sz)) (sd_Qv D cl w (va_A (w S) sz) q) 0 0 (va_A (w S) sz)
theorem sd_blind {D : va_G} {cl : List vw_C} {cA : ClassId} {nw : List Cond} {w : St → va_W} {S : St} {sz : Nat} {As : List Value} : FrameBlind (va_Pc As (sd_pre D cl cA nw w S sz)) := by
  intro a U g mk q
  obtain ⟨q0, q1, qK, qP, qD⟩ := q
  exact ⟨q0, q1, sd_K.same (s := U) (U := U.calling g mk a) rfl qK, qP, qD⟩
theorem sd_preU {D : va_G} {cl : List vw_C} {cA : ClassId} {nw : List Cond} {w : St → va_W} {A : Nat → Prop} {s : State} {S : St} {H : Heap} {locs : List Loc} (h : sd_Wd D cl cA nw w A s S H locs) (As : List Value) : ∀ U : State, U.heap = H → s.WarmedH U.vm → va_Pc As (sd_pre D cl cA nw w S H.size) As.toArray U := by
  intro U hU hW
  exact ⟨rfl, by rw [hU], h.1.warm hW, by rw [hU]; exact h.2.1, h.2.2.1.weaken (fun _ _ _ _ => trivial)⟩
theorem sd_free {D : va_G} {cl : List vw_C} {cA : ClassId} {nw : List Cond} {w : St → va_W} {A : Nat → Prop} {s : State} {S : St} {H : Heap} {locs : List Loc} (h : sd_Wd D cl cA nw w A s S H locs) : ∀ q, va_A (w S) H.size q → A q := by
  intro q hq
  rcases hq with ⟨k, e, hk⟩ | hq
  · exact h.2.2.1.2 k _ hk
  · exact h.2.2.2.2 q (Nat.le_trans h.2.2.2.1.1 hq)
theorem sd_back {D : va_G} {cl : List vw_C} {cA : ClassId} {nw : List Cond} {w : St → va_W} {A : Nat → Prop} {s : State} {S S1 : St} {H H1 : Heap} {locs locs1 : List Loc} (h : sd_Wd D cl cA nw w A s S H locs) (hP : va_P D cl (w S1) H1) (hD : va_D (va_A (w S) H.size) (w S1)) (hS : va_S A s.heap H1 locs1) : sd_Wd D cl cA nw w A s S1 H1 locs1 :=
  ⟨h.1, hP, hD.weaken (fun _ q _ hq => sd_free h q.1 hq), hS, h.2.2.2.2⟩
/-- ONE list of words for all methods: those of the tables that every step keeps -/
def sd_big : List Cond := lw_tbl.filter goodWord
theorem sd_mem {k : Nat} {x : Cond} (h : lw_tbl[k]? = some x) (g : goodWord x = true) : x ∈ sd_big := List.mem_filter.mpr ⟨List.mem_of_getElem? h, g⟩
theorem sd_goodIn {c1 c2 : Cond} (h : c2 ∈ sd_big) : GoodIn (c1 :: sd_big) (c2 :: sd_big) := by
  intro x hx
  have hx2 : x ∈ sd_big := by
    rcases List.mem_cons.mp hx with rfl | hx
    · exact h
    · exact hx
  exact ⟨List.mem_cons_of_mem _ hx2, good_of_word (List.mem_filter.mp hx2).2⟩
section SD
variable {p : Program} {l : Launch} {e : Env} {R : Room} {s : State} {m : MethodId} {args : Array Value} {below : List Frame} {meth : Method} {c : Code} {H : Heap} {locs : List Loc} {cells slots : Nat} {Q : State → Prop}
variable {cc : ByteArray} {pc nL : Nat} {ret : Option FieldType} {ls : Array Slot} {rest st0 : List Value} {D : va_G} {cl : List vw_C} {A : Nat → Prop} {a : Nat} {cA : ClassId} {nw Ts : List Cond} {k0 : Cond} {own : String} {w : St → va_W} {S S1 : St}
theorem sd_get (C0 : sd_Cx own cc nL ret (k0 :: sd_big) p s m args meth c) (h : sd_Wd D cl cA nw w A s S H locs) {C : String} {T : u_T} {N ci index : Nat} (hin : ∀ x ∈ u_ws C T N, x ∈ sd_big) (q0 : Nat) {fs : List Value} (he : (w S)[q0]? = some (a, .inr (ci, fs))) (hc : cl[ci]? = some (C, T, N)) (k : Nat) (hk : k < N) (hm : Cond.fieldLink own index (T k).1 (T k).2.1 (T k).2.2.1 ∈ sd_big) {v : Value} (hv : fs[k]? = some v) (hdg : decode cc pc = .ok (.getfield index, 3))
    (kk : W p l e R s m args below meth c H locs cells slots Q (F0 m (pc + 3) ls (v :: rest))) : W p l e R s m args below meth c H locs cells slots Q (F0 m pc ls (.ref a :: rest)) :=
  va_get C0.1 C0.2.1 C0.2.2.2.2.1 (fun x hx => List.mem_cons_of_mem _ (hin x hx)) C0.2.2.2.1 h.1.1 h.2.1 q0 he hc k hk (C0.2.2.2.2.1 _ (List.mem_cons_of_mem _ hm)) (fun _ h9 => h9) hv hdg kk
theorem sd_put (C0 : sd_Cx own cc nL ret (k0 :: sd_big) p s m args meth c) (h : sd_Wd D cl cA nw w A s S H locs) {C : String} {T : u_T} {N ci index : Nat} (hin : ∀ x ∈ u_ws C T N, x ∈ sd_big) (ty0 : Nat → FieldType) (hty : ∀ k, k < N → parseFieldDescriptor (T k).2.2.1 = some (ty0 k)) (hnm : ∀ a, a < N → ∀ b, b < N → a ≠ b → (T a).2.1 ≠ (T b).2.1) (q0 : Nat) {fs : List Value} (he : (w S)[q0]? = some (a, .inr (ci, fs))) (hc : cl[ci]? = some (C, T, N)) (k : Nat) (hk : k < N) (hm : Cond.fieldLink own index (T k).1 (T k).2.1 (T k).2.2.1 ∈ sd_big) (hfin : (T k).2.2.2 = false) {ty : FieldType} {v : Value} (hd : parseFieldDescriptor (T k).2.2.1 = some ty) (hn : narrow ty v = v) (hfit : fits ty v = true) (hl : k < fs.length) (hset : (w S).set q0 (a, .inr (ci, fs.set k v)) = w S1) (hdg : decode cc pc = .ok (.putfield index, 3))
    (kk : ∀ (H1 : Heap) (locs1 : List Loc), sd_Wd D cl cA nw w A s S1 H1 locs1 → W p l e R s m args below meth c H1 locs1 cells slots Q (F0 m (pc + 3) ls rest)) : W p l e R s m args below meth c H locs cells slots Q (F0 m pc ls (v :: .ref a :: rest)) :=
  va_put C0.1 C0.2.1 C0.2.2.2.2.1 (fun x hx => List.mem_cons_of_mem _ (hin x hx)) ty0 hty hnm C0.2.2.2.1 h.1.1 h.2.1 h.2.2.1 h.2.2.2.1 q0 he hc k hk (C0.2.2.2.2.1 _ (List.mem_cons_of_mem _ hm)) (fun _ h9 => h9) hfin hd hn hfit hl hdg (fun H1 locs1 hP hD hS => kk H1 locs1 ⟨h.1, hset ▸ hP, hset ▸ hD, hS, h.2.2.2.2⟩)
theorem sd_rd (C0 : sd_Cx own cc nL ret Ts p s m args meth c) (h : sd_Wd D cl cA nw w A s S H locs) (q0 : Nat) {n : Nat} {f : Nat → Int32} (ha : (w S)[q0]? = some (a, .inl (cA, n, .inl f))) {i v : Int32} (hv : rd f n i = some v) (hdg : decode cc pc = .ok (.iaload, 1))
    (kk : W p l e R s m args below meth c H locs cells slots Q (F0 m (pc + 1) ls (.int v :: rest))) : W p l e R s m args below meth c H locs cells slots Q (F0 m pc ls (.int i :: .ref a :: rest)) := by
  obtain ⟨h1, rfl⟩ := rd_some hv
  exact va_iald C0.1 C0.2.1 h.1.1 h.2.1 q0 0 ha rfl h1 hdg kk
theorem sd_wr (C0 : sd_Cx own cc nL ret Ts p s m args meth c) (h : sd_Wd D cl cA nw w A s S H locs) (q0 : Nat) {n : Nat} {f g : Nat → Int32} (ha : (w S)[q0]? = some (a, .inl (cA, n, .inl f))) {i x : Int32} (hv : wr f n i x = some g) (hset : (w S).set q0 (a, .inl (cA, n, .inl g)) = w S1) (hdg : decode cc pc = .ok (.iastore, 1))
    (kk : ∀ (H1 : Heap) (locs1 : List Loc), sd_Wd D cl cA nw w A s S1 H1 locs1 → W p l e R s m args below meth c H1 locs1 cells slots Q (F0 m (pc + 1) ls rest)) : W p l e R s m args below meth c H locs cells slots Q (F0 m pc ls (.int x :: .int i :: .ref a :: rest)) := by
  obtain ⟨h1, rfl⟩ := wr_some hv
  exact va_iast C0.1 C0.2.1 h.1.1 h.2.1 h.2.2.1 h.2.2.2.1 q0 0 ha rfl h1 hdg (fun H1 locs1 hP hD hS => kk H1 locs1 ⟨h.1, hset ▸ hP, hset ▸ hD, hS, h.2.2.2.2⟩)
theorem sd_len (C0 : sd_Cx own cc nL ret Ts p s m args meth c) (h : sd_Wd D cl cA nw w A s S H locs) (q0 : Nat) {x : vp_A} (ha : (w S)[q0]? = some (a, .inl (cA, x))) {v : Int32} (hv : Int32.ofNat x.1 = v) (hdg : decode cc pc = .ok (.arraylength, 1))
    (kk : W p l e R s m args below meth c H locs cells slots Q (F0 m (pc + 1) ls (.int v :: rest))) : W p l e R s m args below meth c H locs cells slots Q (F0 m pc ls (.ref a :: rest)) :=
  va_alen C0.1 C0.2.1 h.1.1 h.2.1 q0 0 ha rfl hv hdg kk
theorem sd_iret (C0 : sd_Cx own cc nL (some .int) Ts p s m args meth c) (h : sd_Wd D cl cA nw w A s S H locs) {v : Int32} {q : Int32 × St} (hm : (v, S) = q) (hdg : decode cc pc = .ok (.ireturn, 1)) : W p l e R s m args below meth c H locs cells slots (MQ below (sd_Qi D cl w A q) args s cells slots A) (F0 m pc ls [.int v]) := by
  subst hm
  have hlocks : meth.locks = false := C0.2.2.2.2.2.2
  exact W.iret C0.1 C0.2.1 C0.2.2.2.2.2.1 (fun t ht hW => ⟨⟨v, (), rfl, rfl, by rw [ht]; exact h.2.1, h.2.2.1⟩, h.2.2.2.1.F ht⟩) h.2.2.2.1.2.2 hdg hlocks
theorem sd_zret (C0 : sd_Cx own cc nL (some .boolean) Ts p s m args meth c) (h : sd_Wd D cl cA nw w A s S H locs) {v : Int32} {q : Int32 × St} (hm : (v, S) = q) (hn : narrow .boolean (.int v) = .int v) (hdg : decode cc pc = .ok (.ireturn, 1)) : W p l e R s m args below meth c H locs cells slots (MQ below (sd_Qi D cl w A q) args s cells slots A) (F0 m pc ls [.int v]) := by
  subst hm
  have hlocks : meth.locks = false := C0.2.2.2.2.2.2
  exact W.zret C0.1 C0.2.1 C0.2.2.2.2.2.1 hn (fun t ht hW => ⟨⟨v, (), rfl, rfl, by rw [ht]; exact h.2.1, h.2.2.1⟩, h.2.2.2.1.F ht⟩) h.2.2.2.1.2.2 hdg hlocks
theorem sd_lret (C0 : sd_Cx own cc nL (some .long) Ts p s m args meth c) (h : sd_Wd D cl cA nw w A s S H locs) {v : Int64} {q : Int64 × St} (hm : (v, S) = q) (hdg : decode cc pc = .ok (.lreturn, 1)) : W p l e R s m args below meth c H locs cells slots (MQ below (sd_Ql D cl w A q) args s cells slots A) (F0 m pc ls [.long v]) := by
  subst hm
  have hlocks : meth.locks = false := C0.2.2.2.2.2.2
  exact W.lret C0.1 C0.2.1 C0.2.2.2.2.2.1 (fun t ht hW => ⟨⟨v, (), rfl, rfl, by rw [ht]; exact h.2.1, h.2.2.1⟩, h.2.2.2.1.F ht⟩) h.2.2.2.1.2.2 hdg hlocks
theorem sd_vret (C0 : sd_Cx own cc nL none Ts p s m args meth c) (h : sd_Wd D cl cA nw w A s S H locs) {q : St} (hm : S = q) (hdg : decode cc pc = .ok (.return_, 1)) : W p l e R s m args below meth c H locs cells slots (MQ below (sd_Qv D cl w A q) args s cells slots A) (F0 m pc ls []) := by
  subst hm
  have hlocks : meth.locks = false := C0.2.2.2.2.2.2
  exact W.vret C0.1 C0.2.1 C0.2.2.2.2.2.1 (fun t ht hW => ⟨⟨(), rfl, trivial, by rw [ht]; exact h.2.1, h.2.2.1⟩, h.2.2.2.1.F ht⟩) h.2.2.2.1.2.2 hdg hlocks
end SD
def sd_cal (y : MethodName) (bytes : ByteArray) (maxL : Nat) (ret : Option FieldType) (n : Nat) : Prop := Cond.code y bytes maxL ret ∈ sd_big ∧ Cond.initialized y.cls ∈ sd_big ∧ (y.cls ≠ "java/lang/invoke/MethodHandle" ∧ y.cls ≠ "java/lang/invoke/VarHandle" ∧ (parseMethodDescriptor y.desc).map (fun d => d.parameters.length) = some n)
def sd_calV (y : MethodName) (bytes : ByteArray) (maxL : Nat) (ret : Option FieldType) (n : Nat) : Prop := sd_cal y bytes maxL ret n ∧ Cond.instanceMethod y ∈ sd_big ∧ Cond.selects y.cls y y ∈ sd_big
def sd_calS (y : MethodName) (bytes : ByteArray) (maxL : Nat) (ret : Option FieldType) (n : Nat) : Prop := sd_cal y bytes maxL ret n ∧ Cond.static y ∈ sd_big
/-- the callee's room in the caller's -/
def sd_rm (rm : Room) (maxL : Nat) (R : Room) : Prop := rm.cells = 0 ∧ rm.slots = 0 ∧ rm.frames + 1 ≤ R.frames ∧ 8 + (maxL + 11) + rm.locals ≤ R.locals
section SE
variable {p : Program} {l : Launch} {e : Env} {R : Room} {s : State} {m : MethodId} {args : Array Value} {below : List Frame} {meth : Method} {c : Code} {H : Heap} {locs : List Loc} {cells slots : Nat} {Q : State → Prop}
variable {cc bytes : ByteArray} {pc nL maxL n index : Nat} {ret rt : Option FieldType} {ls : Array Slot} {rest st0 : List Value} {D : va_G} {cl : List vw_C} {A : Nat → Prop} {b : Nat} {cA : ClassId} {nw : List Cond} {k0 : Cond} {own : String} {w : St → va_W} {S : St} {y : MethodName} {rm : Room}
theorem sd_cwB (C0 : sd_Cx own cc nL ret (k0 :: sd_big) p s m args meth c) (hy : sd_cal y bytes maxL rt n) (hl : Cond.methodLink own index y ∈ sd_big) (hR : sd_rm rm maxL R) : CallB R s args own index y bytes maxL rt (Cond.code y bytes maxL rt :: sd_big) rm 0 0 n :=
  callB_of n C0.2.2.2.2.1 (sd_goodIn hy.1) rfl hR.1 hR.2.1 (C0.2.2.2.2.1 _ (List.mem_cons_of_mem _ hy.2.1)) (C0.2.2.2.2.1 _ (List.mem_cons_of_mem _ hl)) hy.2.2 hR.2.2
theorem sd_Vi (C0 : sd_Cx own cc nL ret (k0 :: sd_big) p s m args meth c) (h : sd_Wd D cl cA nw w A s S H locs) (hy : sd_calV y bytes maxL rt n) (hl : Cond.methodLink own index y ∈ sd_big) (q0 : Nat) {ci N : Nat} {T : u_T} {fs : List Value} (he : (w S)[q0]? = some (b, .inr (ci, fs))) (hc : cl[ci]? = some (y.cls, T, N)) (As : List Value) {q : Int32 × St} (hM : sd_MI l D cl cA nw w y (Cond.code y bytes maxL rt :: sd_big) rm (.ref b :: As) S q) (hn : As.length = n) (hs : ls.size = nL) (hst : st0 = As.reverse ++ .ref b :: rest) (hW : (rest.map fun v => v.category).sum ≤ 8) (hR : sd_rm rm maxL R) (hdg : decode cc pc = .ok (.invokevirtual index, 3)) (hf : cells ≤ R.cells ∧ slots ≤ R.slots)
    (kk : ∀ (H1 : Heap) (locs1 : List Loc), sd_Wd D cl cA nw w A s q.2 H1 locs1 → W p l e R s m args below meth c H1 locs1 cells slots Q (F0 m (pc + 3) ls (.int q.1 :: rest))) : W p l e R s m args below meth c H locs cells slots Q (F0 m pc ls st0) := by
  refine va_calli (va_runV (As := As) (rest := rest) ⟨C0.1, C0.2.1, C0.2.2.1, C0.2.2.2.1, C0.2.2.2.2.1⟩ (hM H.size) ⟨sd_cwB C0 hy.1 hl hR, C0.2.2.2.2.1 _ (List.mem_cons_of_mem _ hy.2.1), C0.2.2.2.2.1 _ (List.mem_cons_of_mem _ hy.2.2)⟩ ⟨sd_blind, va_recv h.1.1 h.2.1 hc he, sd_preU h (.ref b :: As)⟩ rfl hn hs hst (lv_room hW) hdg hf) h.2.2.2.1 (fun q _ hq => sd_free h q hq) (sd_free h) (fun r u t H1 locs1 ht hvm hp hB hz hk hS => ?_)
  subst hp
  exact kk H1 locs1 (sd_back h (ht ▸ hB.1) hB.2 hS)
theorem sd_Vv (C0 : sd_Cx own cc nL ret (k0 :: sd_big) p s m args meth c) (h : sd_Wd D cl cA nw w A s S H locs) (hy : sd_calV y bytes maxL rt n) (hl : Cond.methodLink own index y ∈ sd_big) (q0 : Nat) {ci N : Nat} {T : u_T} {fs : List Value} (he : (w S)[q0]? = some (b, .inr (ci, fs))) (hc : cl[ci]? = some (y.cls, T, N)) (As : List Value) {q : St} (hM : sd_MV l D cl cA nw w y (Cond.code y bytes maxL rt :: sd_big) rm (.ref b :: As) S q) (hn : As.length = n) (hs : ls.size = nL) (hst : st0 = As.reverse ++ .ref b :: rest) (hW : (rest.map fun v => v.category).sum ≤ 8) (hR : sd_rm rm maxL R) (hdg : decode cc pc = .ok (.invokevirtual index, 3)) (hf : cells ≤ R.cells ∧ slots ≤ R.slots)
    (kk : ∀ (H1 : Heap) (locs1 : List Loc), sd_Wd D cl cA nw w A s q H1 locs1 → W p l e R s m args below meth c H1 locs1 cells slots Q (F0 m (pc + 3) ls rest)) : W p l e R s m args below meth c H locs cells slots Q (F0 m pc ls st0) := by
  refine va_callv (va_runV (As := As) (rest := rest) ⟨C0.1, C0.2.1, C0.2.2.1, C0.2.2.2.1, C0.2.2.2.2.1⟩ (hM H.size) ⟨sd_cwB C0 hy.1 hl hR, C0.2.2.2.2.1 _ (List.mem_cons_of_mem _ hy.2.1), C0.2.2.2.2.1 _ (List.mem_cons_of_mem _ hy.2.2)⟩ ⟨sd_blind, va_recv h.1.1 h.2.1 hc he, sd_preU h (.ref b :: As)⟩ rfl hn hs hst (lv_room hW) hdg hf) h.2.2.2.1 (fun q _ hq => sd_free h q hq) (sd_free h) (fun u t H1 locs1 ht hvm hp hB hz hk hS => ?_)
  exact kk H1 locs1 (sd_back h (ht ▸ hB.1) hB.2 hS)
theorem sd_Si (C0 : sd_Cx own cc nL ret (k0 :: sd_big) p s m args meth c) (h : sd_Wd D cl cA nw w A s S H locs) (hy : sd_calS y bytes maxL rt n) (hl : Cond.methodLink own index y ∈ sd_big) (As : List Value) {q : Int32 × St} (hM : sd_MI l D cl cA nw w y (Cond.code y bytes maxL rt :: sd_big) rm As S q) (hn : As.length = n) (hs : ls.size = nL) (hst : st0 = As.reverse ++ rest) (hW : (rest.map fun v => v.category).sum ≤ 8) (hR : sd_rm rm maxL R) (hdg : decode cc pc = .ok (.invokestatic index, 3)) (hf : cells ≤ R.cells ∧ slots ≤ R.slots)
    (kk : ∀ (H1 : Heap) (locs1 : List Loc), sd_Wd D cl cA nw w A s q.2 H1 locs1 → W p l e R s m args below meth c H1 locs1 cells slots Q (F0 m (pc + 3) ls (.int q.1 :: rest))) : W p l e R s m args below meth c H locs cells slots Q (F0 m pc ls st0) := by
  refine va_calli (va_runS (As := As) (rest := rest) ⟨C0.1, C0.2.1, C0.2.2.1, C0.2.2.2.1, C0.2.2.2.2.1⟩ (hM H.size) ⟨sd_cwB C0 hy.1 hl hR, C0.2.2.2.2.1 _ (List.mem_cons_of_mem _ hy.2)⟩ ⟨sd_blind, sd_preU h As⟩ rfl hn hs hst (lv_room hW) hdg hf) h.2.2.2.1 (fun q _ hq => sd_free h q hq) (sd_free h) (fun r u t H1 locs1 ht hvm hp hB hz hk hS => ?_)
  subst hp
  exact kk H1 locs1 (sd_back h (ht ▸ hB.1) hB.2 hS)
theorem sd_Sv (C0 : sd_Cx own cc nL ret (k0 :: sd_big) p s m args meth c) (h : sd_Wd D cl cA nw w A s S H locs) (hy : sd_calS y bytes maxL rt n) (hl : Cond.methodLink own index y ∈ sd_big) (As : List Value) {q : St} (hM : sd_MV l D cl cA nw w y (Cond.code y bytes maxL rt :: sd_big) rm As S q) (hn : As.length = n) (hs : ls.size = nL) (hst : st0 = As.reverse ++ rest) (hW : (rest.map fun v => v.category).sum ≤ 8) (hR : sd_rm rm maxL R) (hdg : decode cc pc = .ok (.invokestatic index, 3)) (hf : cells ≤ R.cells ∧ slots ≤ R.slots)
    (kk : ∀ (H1 : Heap) (locs1 : List Loc), sd_Wd D cl cA nw w A s q H1 locs1 → W p l e R s m args below meth c H1 locs1 cells slots Q (F0 m (pc + 3) ls rest)) : W p l e R s m args below meth c H locs cells slots Q (F0 m pc ls st0) := by
  refine va_callv (va_runS (As := As) (rest := rest) ⟨C0.1, C0.2.1, C0.2.2.1, C0.2.2.2.1, C0.2.2.2.2.1⟩ (hM H.size) ⟨sd_cwB C0 hy.1 hl hR, C0.2.2.2.2.1 _ (List.mem_cons_of_mem _ hy.2)⟩ ⟨sd_blind, sd_preU h As⟩ rfl hn hs hst (lv_room hW) hdg hf) h.2.2.2.1 (fun q _ hq => sd_free h q hq) (sd_free h) (fun u t H1 locs1 ht hvm hp hB hz hk hS => ?_)
  exact kk H1 locs1 (sd_back h (ht ▸ hB.1) hB.2 hS)
theorem sd_Sl (C0 : sd_Cx own cc nL ret (k0 :: sd_big) p s m args meth c) (h : sd_Wd D cl cA nw w A s S H locs) (hy : sd_calS y bytes maxL rt n) (hl : Cond.methodLink own index y ∈ sd_big) (As : List Value) {q : Int64 × St} (hM : sd_ML l D cl cA nw w y (Cond.code y bytes maxL rt :: sd_big) rm As S q) (hn : As.length = n) (hs : ls.size = nL) (hst : st0 = As.reverse ++ rest) (hW : (rest.map fun v => v.category).sum ≤ 8) (hR : sd_rm rm maxL R) (hdg : decode cc pc = .ok (.invokestatic index, 3)) (hf : cells ≤ R.cells ∧ slots ≤ R.slots)
    (kk : ∀ (H1 : Heap) (locs1 : List Loc), sd_Wd D cl cA nw w A s q.2 H1 locs1 → W p l e R s m args below meth c H1 locs1 cells slots Q (F0 m (pc + 3) ls (.long q.1 :: rest))) : W p l e R s m args below meth c H locs cells slots Q (F0 m pc ls st0) := by
  refine va_calll (va_runS (As := As) (rest := rest) ⟨C0.1, C0.2.1, C0.2.2.1, C0.2.2.2.1, C0.2.2.2.2.1⟩ (hM H.size) ⟨sd_cwB C0 hy.1 hl hR, C0.2.2.2.2.1 _ (List.mem_cons_of_mem _ hy.2)⟩ ⟨sd_blind, sd_preU h As⟩ rfl hn hs hst (lv_room hW) hdg hf) h.2.2.2.1 (fun q _ hq => sd_free h q hq) (sd_free h) (fun r u t H1 locs1 ht hvm hp hB hz hk hS => ?_)
  subst hp
  exact kk H1 locs1 (sd_back h (ht ▸ hB.1) hB.2 hS)
/-- a private static method of a nest mate -/
theorem sd_SNl (C0 : sd_Cx own cc nL ret (k0 :: sd_big) p s m args meth c) (h : sd_Wd D cl cA nw w A s S H locs) (hy : sd_calS y bytes maxL rt n) {host : String} (hl : Cond.methodLinkNest own index y host ∈ nw) (As : List Value) {q : Int64 × St} (hM : sd_ML l D cl cA nw w y (Cond.code y bytes maxL rt :: sd_big) rm As S q) (hn : As.length = n) (hs : ls.size = nL) (hst : st0 = As.reverse ++ rest) (hW : (rest.map fun v => v.category).sum ≤ 8) (hR : sd_rm rm maxL R) (hdg : decode cc pc = .ok (.invokestatic index, 3)) (hf : cells ≤ R.cells ∧ slots ≤ R.slots)
    (kk : ∀ (H1 : Heap) (locs1 : List Loc), sd_Wd D cl cA nw w A s q.2 H1 locs1 → W p l e R s m args below meth c H1 locs1 cells slots Q (F0 m (pc + 3) ls (.long q.1 :: rest))) : W p l e R s m args below meth c H locs cells slots Q (F0 m pc ls st0) := by
  refine va_calll (va_runSN (As := As) (rest := rest) (host := host) ⟨C0.1, C0.2.1, C0.2.2.1, C0.2.2.2.1, C0.2.2.2.2.1⟩ (hM H.size) ⟨va_cnB n C0.2.2.2.2.1 (sd_goodIn hy.1.1) rfl hR.1 hR.2.1 (h.1.2 _ hl).2 (C0.2.2.2.2.1 _ (List.mem_cons_of_mem _ hy.1.2.1)) hy.1.2.2 hR.2.2, C0.2.2.2.2.1 _ (List.mem_cons_of_mem _ hy.2), trivial⟩ ⟨sd_blind, sd_preU h As⟩ rfl hn hs hst (lv_room hW) hdg hf) h.2.2.2.1 (fun q _ hq => sd_free h q hq) (sd_free h) (fun r u t H1 locs1 ht hvm hp hB hz hk hS => ?_)
  subst hp
  exact kk H1 locs1 (sd_back h (ht ▸ hB.1) hB.2 hS)
end SE
theorem ip {α : Type} {c : Prop} [Decidable c] {a b : Option α} {q : α} (h : c) (hm : (if c then a else b) = some q) : a = some q := by rw [if_pos h] at hm; exact hm
theorem iq {α : Type} {c : Prop} [Decidable c] {a b : Option α} {q : α} (h : ¬ c) (hm : (if c then a else b) = some q) : b = some q := by rw [if_neg h] at hm; exact hm
theorem dv {α : Type} {c : Prop} [Decidable c] {a : Option α} {q : α} (hm : (if c then none else a) = some q) : ¬ c ∧ a = some q := by
  by_cases h : c
  · rw [if_pos h] at hm; cases hm
  · rw [if_neg h] at hm; exact ⟨h, hm⟩
/-- a boolean's end: it is 0 or 1 -/
def zb {α : Type} (v : Int32) (x : α) : Option α := if v = 0 ∨ v = 1 then some x else none
theorem zb_some {α : Type} {v : Int32} {x q : α} (h : zb v x = some q) : narrow .boolean (.int v) = .int v ∧ x = q := by
  unfold zb at h
  split at h
  · rename_i h1
    refine ⟨?_, Option.some.inj h⟩
    rcases h1 with rfl | rfl <;> rfl
  · cases h
section SF
variable {l : Launch} {D : va_G} {cl : List vw_C} {cA : ClassId} {nw : List Cond} {w : St → va_W} {y : MethodName} {cc : ByteArray} {nL : Nat} {ret : Option FieldType} {rm : Room} {As : List Value} {S : St}
theorem sd_start {p : Program} {e : Env} {s : State} {m : MethodId} {args : Array Value} {below : List Frame} {meth : Method} {c : Code} {s₁ : State} {sz : Nat} (B : BodyLoose p l y (headSpec (Cond.code y cc nL ret :: sd_big) rm) cc nL ret e s m args below meth c s₁) (hml : c.maxLocals = nL) (hv : va_Pc As (sd_pre D cl cA nw w S sz) args s) :
    args = As.toArray ∧ sz = s.heap.size ∧ sd_Cx y.cls cc nL ret (Cond.code y cc nL ret :: sd_big) p s m args meth c ∧ sd_Wd D cl cA nw w (va_A (w S) s.heap.size) s S s.heap [] := by
  obtain ⟨ha, hsz, hK, hP, hD⟩ := hv
  exact ⟨ha, hsz.symm, ⟨B.exec, B.bytes, hml, findClass_of_methodNamed B.named, atoms_spec (ws := Cond.code y cc nL ret :: sd_big) B.pre, B.returns, B.notSynchronized⟩, hK, hP, hD.self, va_S.rf, fun q h => Or.inr h⟩
theorem sd_ofI {q : Int32 × St} (hy : plainName y.cls = true) (hn : (lg_sl As).length ≤ nL)
    (body : ∀ (p : Program) (e : Env) (s : State) (m : MethodId) (args : Array Value) (below : List Frame) (meth : Method) (c : Code) (A : Nat → Prop) (ls : Array Slot), sd_Cx y.cls cc nL ret (Cond.code y cc nL ret :: sd_big) p s m args meth c → sd_Wd D cl cA nw w A s S s.heap [] → lv_has ls nL (lv_args 0 As) → W p l e rm s m args below meth c s.heap [] 0 0 (MQ below (sd_Qi D cl w A q) args s 0 0 A) (F0 m 0 ls [])) : sd_MI l D cl cA nw w y (Cond.code y cc nL ret :: sd_big) rm As S q := by
  intro sz
  refine Met.ofW (cc := cc) (maxL := nL) (ret := ret) hy rfl ?_
  intro p e s m args below meth c s₁ B hml hv
  obtain ⟨rfl, rfl, C0, h⟩ := sd_start B hml hv
  rw [lg_entry_eq]
  exact body p e s m _ below meth c _ _ C0 h (lv_entry As hn)
theorem sd_ofL {q : Int64 × St} (hy : plainName y.cls = true) (hn : (lg_sl As).length ≤ nL)
    (body : ∀ (p : Program) (e : Env) (s : State) (m : MethodId) (args : Array Value) (below : List Frame) (meth : Method) (c : Code) (A : Nat → Prop) (ls : Array Slot), sd_Cx y.cls cc nL ret (Cond.code y cc nL ret :: sd_big) p s m args meth c → sd_Wd D cl cA nw w A s S s.heap [] → lv_has ls nL (lv_args 0 As) → W p l e rm s m args below meth c s.heap [] 0 0 (MQ below (sd_Ql D cl w A q) args s 0 0 A) (F0 m 0 ls [])) : sd_ML l D cl cA nw w y (Cond.code y cc nL ret :: sd_big) rm As S q := by
  intro sz
  refine Met.ofW (cc := cc) (maxL := nL) (ret := ret) hy rfl ?_
  intro p e s m args below meth c s₁ B hml hv
  obtain ⟨rfl, rfl, C0, h⟩ := sd_start B hml hv
  rw [lg_entry_eq]
  exact body p e s m _ below meth c _ _ C0 h (lv_entry As hn)
theorem sd_ofV {q : St} (hy : plainName y.cls = true) (hn : (lg_sl As).length ≤ nL)
    (body : ∀ (p : Program) (e : Env) (s : State) (m : MethodId) (args : Array Value) (below : List Frame) (meth : Method) (c : Code) (A : Nat → Prop) (ls : Array Slot), sd_Cx y.cls cc nL ret (Cond.code y cc nL ret :: sd_big) p s m args meth c → sd_Wd D cl cA nw w A s S s.heap [] → lv_has ls nL (lv_args 0 As) → W p l e rm s m args below meth c s.heap [] 0 0 (MQ below (sd_Qv D cl w A q) args s 0 0 A) (F0 m 0 ls [])) : sd_MV l D cl cA nw w y (Cond.code y cc nL ret :: sd_big) rm As S q := by
  intro sz
  refine Met.ofW (cc := cc) (maxL := nL) (ret := ret) hy rfl ?_
  intro p e s m args below meth c s₁ B hml hv
  obtain ⟨rfl, rfl, C0, h⟩ := sd_start B hml hv
  rw [lg_entry_eq]
  exact body p e s m _ below meth c _ _ C0 h (lv_entry As hn)
end SF
end
