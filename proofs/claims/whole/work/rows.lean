section
-- ===== PART A: goes FIRST, ahead of the names: the tables' words, and 'selects' of the private methods out of them =====
/-- a private method of a class that the tables say can be made, by its rows of tables_1 -/
def lw_okq (q : MethodName × Nat) : Prop := (q.1.cls ≠ "java/lang/invoke/MethodHandle" ∧ q.1.cls ≠ "java/lang/invoke/VarHandle") ∧ Cond.instantiable q.1.cls q.2 ∈ tables_1 ∧ Cond.privateMethod q.1 ∈ tables_1 ∧ Cond.instanceMethod q.1 ∈ tables_1
theorem lw_p0 : lw_okq (⟨"NineSaints$Ways", "replayAll", "()V"⟩, 10) := ⟨⟨by decide +kernel, by decide +kernel⟩, List.mem_of_getElem? (i := 174) (by decide +kernel), List.mem_of_getElem? (i := 531) (by decide +kernel), List.mem_of_getElem? (i := 532) (by decide +kernel)⟩
theorem lw_p1 : lw_okq (⟨"NineSaints$Ways", "replay", "(I)V"⟩, 10) := ⟨⟨by decide +kernel, by decide +kernel⟩, List.mem_of_getElem? (i := 174) (by decide +kernel), List.mem_of_getElem? (i := 535) (by decide +kernel), List.mem_of_getElem? (i := 536) (by decide +kernel)⟩
theorem lw_p2 : lw_okq (⟨"NineSaints$Ways", "laneTo", "(II)I"⟩, 10) := ⟨⟨by decide +kernel, by decide +kernel⟩, List.mem_of_getElem? (i := 174) (by decide +kernel), List.mem_of_getElem? (i := 551) (by decide +kernel), List.mem_of_getElem? (i := 552) (by decide +kernel)⟩
theorem lw_p3 : lw_okq (⟨"NineSaints", "tapeNumber", "(I)V"⟩, 16) := ⟨⟨by decide +kernel, by decide +kernel⟩, List.mem_of_getElem? (i := 24) (by decide +kernel), List.mem_of_getElem? (i := 616) (by decide +kernel), List.mem_of_getElem? (i := 617) (by decide +kernel)⟩
theorem lw_p4 : lw_okq (⟨"NineSaints$Reader", "cut", "(I)V"⟩, 15) := ⟨⟨by decide +kernel, by decide +kernel⟩, List.mem_of_getElem? (i := 119) (by decide +kernel), List.mem_of_getElem? (i := 635) (by decide +kernel), List.mem_of_getElem? (i := 636) (by decide +kernel)⟩
theorem lw_p5 : lw_okq (⟨"NineSaints$Reader", "kindOfWord", "(II)I"⟩, 15) := ⟨⟨by decide +kernel, by decide +kernel⟩, List.mem_of_getElem? (i := 119) (by decide +kernel), List.mem_of_getElem? (i := 639) (by decide +kernel), List.mem_of_getElem? (i := 640) (by decide +kernel)⟩
theorem lw_p6 : lw_okq (⟨"NineSaints$Reader", "advance", "()V"⟩, 15) := ⟨⟨by decide +kernel, by decide +kernel⟩, List.mem_of_getElem? (i := 119) (by decide +kernel), List.mem_of_getElem? (i := 685) (by decide +kernel), List.mem_of_getElem? (i := 686) (by decide +kernel)⟩
theorem lw_p7 : lw_okq (⟨"NineSaints$Reader", "tellCorner", "()Z"⟩, 15) := ⟨⟨by decide +kernel, by decide +kernel⟩, List.mem_of_getElem? (i := 119) (by decide +kernel), List.mem_of_getElem? (i := 697) (by decide +kernel), List.mem_of_getElem? (i := 698) (by decide +kernel)⟩
theorem lw_p8 : lw_okq (⟨"NineSaints$Reader", "full", "(II)Z"⟩, 15) := ⟨⟨by decide +kernel, by decide +kernel⟩, List.mem_of_getElem? (i := 119) (by decide +kernel), List.mem_of_getElem? (i := 701) (by decide +kernel), List.mem_of_getElem? (i := 702) (by decide +kernel)⟩
theorem lw_p9 : lw_okq (⟨"NineSaints$Reader", "newName", "([II)Z"⟩, 15) := ⟨⟨by decide +kernel, by decide +kernel⟩, List.mem_of_getElem? (i := 119) (by decide +kernel), List.mem_of_getElem? (i := 709) (by decide +kernel), List.mem_of_getElem? (i := 710) (by decide +kernel)⟩
theorem lw_p10 : lw_okq (⟨"NineSaints$Reader", "nameStands", "()Z"⟩, 15) := ⟨⟨by decide +kernel, by decide +kernel⟩, List.mem_of_getElem? (i := 119) (by decide +kernel), List.mem_of_getElem? (i := 713) (by decide +kernel), List.mem_of_getElem? (i := 714) (by decide +kernel)⟩
theorem lw_p11 : lw_okq (⟨"NineSaints$Reader", "named", "([II)I"⟩, 15) := ⟨⟨by decide +kernel, by decide +kernel⟩, List.mem_of_getElem? (i := 119) (by decide +kernel), List.mem_of_getElem? (i := 717) (by decide +kernel), List.mem_of_getElem? (i := 718) (by decide +kernel)⟩
theorem lw_p12 : lw_okq (⟨"NineSaints$Reader", "letterOfToken", "(I)I"⟩, 15) := ⟨⟨by decide +kernel, by decide +kernel⟩, List.mem_of_getElem? (i := 119) (by decide +kernel), List.mem_of_getElem? (i := 721) (by decide +kernel), List.mem_of_getElem? (i := 722) (by decide +kernel)⟩
theorem lw_p13 : lw_okq (⟨"NineSaints$Reader", "word", "(I)Z"⟩, 15) := ⟨⟨by decide +kernel, by decide +kernel⟩, List.mem_of_getElem? (i := 119) (by decide +kernel), List.mem_of_getElem? (i := 725) (by decide +kernel), List.mem_of_getElem? (i := 726) (by decide +kernel)⟩
theorem lw_p14 : lw_okq (⟨"NineSaints$Reader", "number", "(II)Z"⟩, 15) := ⟨⟨by decide +kernel, by decide +kernel⟩, List.mem_of_getElem? (i := 119) (by decide +kernel), List.mem_of_getElem? (i := 729) (by decide +kernel), List.mem_of_getElem? (i := 730) (by decide +kernel)⟩
theorem lw_p15 : lw_okq (⟨"NineSaints$Reader", "tellLane", "()Z"⟩, 15) := ⟨⟨by decide +kernel, by decide +kernel⟩, List.mem_of_getElem? (i := 119) (by decide +kernel), List.mem_of_getElem? (i := 733) (by decide +kernel), List.mem_of_getElem? (i := 734) (by decide +kernel)⟩
def lw_privs_1 : List (MethodName × Nat) := [(⟨"NineSaints$Ways", "replayAll", "()V"⟩, 10), (⟨"NineSaints$Ways", "replay", "(I)V"⟩, 10), (⟨"NineSaints$Ways", "laneTo", "(II)I"⟩, 10), (⟨"NineSaints", "tapeNumber", "(I)V"⟩, 16), (⟨"NineSaints$Reader", "cut", "(I)V"⟩, 15), (⟨"NineSaints$Reader", "kindOfWord", "(II)I"⟩, 15), (⟨"NineSaints$Reader", "advance", "()V"⟩, 15), (⟨"NineSaints$Reader", "tellCorner", "()Z"⟩, 15), (⟨"NineSaints$Reader", "full", "(II)Z"⟩, 15), (⟨"NineSaints$Reader", "newName", "([II)Z"⟩, 15), (⟨"NineSaints$Reader", "nameStands", "()Z"⟩, 15), (⟨"NineSaints$Reader", "named", "([II)I"⟩, 15), (⟨"NineSaints$Reader", "letterOfToken", "(I)I"⟩, 15), (⟨"NineSaints$Reader", "word", "(I)Z"⟩, 15), (⟨"NineSaints$Reader", "number", "(II)Z"⟩, 15), (⟨"NineSaints$Reader", "tellLane", "()Z"⟩, 15)]
theorem lw_r1 : ∀ q ∈ lw_privs_1, lw_okq q := List.forall_mem_cons.mpr ⟨lw_p0, List.forall_mem_cons.mpr ⟨lw_p1, List.forall_mem_cons.mpr ⟨lw_p2, List.forall_mem_cons.mpr ⟨lw_p3, List.forall_mem_cons.mpr ⟨lw_p4, List.forall_mem_cons.mpr ⟨lw_p5, List.forall_mem_cons.mpr ⟨lw_p6, List.forall_mem_cons.mpr ⟨lw_p7, List.forall_mem_cons.mpr ⟨lw_p8, List.forall_mem_cons.mpr ⟨lw_p9, List.forall_mem_cons.mpr ⟨lw_p10, List.forall_mem_cons.mpr ⟨lw_p11, List.forall_mem_cons.mpr ⟨lw_p12, List.forall_mem_cons.mpr ⟨lw_p13, List.forall_mem_cons.mpr ⟨lw_p14, List.forall_mem_cons.mpr ⟨lw_p15, fun _ h => absurd h List.not_mem_nil⟩⟩⟩⟩⟩⟩⟩⟩⟩⟩⟩⟩⟩⟩⟩⟩
theorem lw_p16 : lw_okq (⟨"NineSaints$Reader", "askedCorner", "(I)I"⟩, 15) := ⟨⟨by decide +kernel, by decide +kernel⟩, List.mem_of_getElem? (i := 119) (by decide +kernel), List.mem_of_getElem? (i := 737) (by decide +kernel), List.mem_of_getElem? (i := 738) (by decide +kernel)⟩
theorem lw_p17 : lw_okq (⟨"NineSaints$Reader", "tellSaint", "()Z"⟩, 15) := ⟨⟨by decide +kernel, by decide +kernel⟩, List.mem_of_getElem? (i := 119) (by decide +kernel), List.mem_of_getElem? (i := 745) (by decide +kernel), List.mem_of_getElem? (i := 746) (by decide +kernel)⟩
theorem lw_p18 : lw_okq (⟨"NineSaints$Reader", "tellBalcony", "()Z"⟩, 15) := ⟨⟨by decide +kernel, by decide +kernel⟩, List.mem_of_getElem? (i := 119) (by decide +kernel), List.mem_of_getElem? (i := 749) (by decide +kernel), List.mem_of_getElem? (i := 750) (by decide +kernel)⟩
theorem lw_p19 : lw_okq (⟨"NineSaints$Reader", "test", "(I)Z"⟩, 15) := ⟨⟨by decide +kernel, by decide +kernel⟩, List.mem_of_getElem? (i := 119) (by decide +kernel), List.mem_of_getElem? (i := 753) (by decide +kernel), List.mem_of_getElem? (i := 754) (by decide +kernel)⟩
theorem lw_p20 : lw_okq (⟨"NineSaints$Reader", "fact", "(I)Z"⟩, 15) := ⟨⟨by decide +kernel, by decide +kernel⟩, List.mem_of_getElem? (i := 119) (by decide +kernel), List.mem_of_getElem? (i := 757) (by decide +kernel), List.mem_of_getElem? (i := 758) (by decide +kernel)⟩
theorem lw_p21 : lw_okq (⟨"NineSaints$Reader", "roomIn", "(I)Z"⟩, 15) := ⟨⟨by decide +kernel, by decide +kernel⟩, List.mem_of_getElem? (i := 119) (by decide +kernel), List.mem_of_getElem? (i := 761) (by decide +kernel), List.mem_of_getElem? (i := 762) (by decide +kernel)⟩
theorem lw_p22 : lw_okq (⟨"NineSaints$Reader", "emit", "(I)V"⟩, 15) := ⟨⟨by decide +kernel, by decide +kernel⟩, List.mem_of_getElem? (i := 119) (by decide +kernel), List.mem_of_getElem? (i := 765) (by decide +kernel), List.mem_of_getElem? (i := 766) (by decide +kernel)⟩
theorem lw_p23 : lw_okq (⟨"NineSaints$Reader", "isSign", "(I)Z"⟩, 15) := ⟨⟨by decide +kernel, by decide +kernel⟩, List.mem_of_getElem? (i := 119) (by decide +kernel), List.mem_of_getElem? (i := 769) (by decide +kernel), List.mem_of_getElem? (i := 770) (by decide +kernel)⟩
theorem lw_p24 : lw_okq (⟨"NineSaints$Reader", "sign", "(I)Z"⟩, 15) := ⟨⟨by decide +kernel, by decide +kernel⟩, List.mem_of_getElem? (i := 119) (by decide +kernel), List.mem_of_getElem? (i := 773) (by decide +kernel), List.mem_of_getElem? (i := 774) (by decide +kernel)⟩
theorem lw_p25 : lw_okq (⟨"NineSaints$Reader", "sum", "(I)Z"⟩, 15) := ⟨⟨by decide +kernel, by decide +kernel⟩, List.mem_of_getElem? (i := 119) (by decide +kernel), List.mem_of_getElem? (i := 777) (by decide +kernel), List.mem_of_getElem? (i := 778) (by decide +kernel)⟩
theorem lw_p26 : lw_okq (⟨"NineSaints$Reader", "part", "(I)Z"⟩, 15) := ⟨⟨by decide +kernel, by decide +kernel⟩, List.mem_of_getElem? (i := 119) (by decide +kernel), List.mem_of_getElem? (i := 781) (by decide +kernel), List.mem_of_getElem? (i := 782) (by decide +kernel)⟩
theorem lw_p27 : lw_okq (⟨"NineSaints$Reader", "exceptionStands", "()Z"⟩, 15) := ⟨⟨by decide +kernel, by decide +kernel⟩, List.mem_of_getElem? (i := 119) (by decide +kernel), List.mem_of_getElem? (i := 785) (by decide +kernel), List.mem_of_getElem? (i := 786) (by decide +kernel)⟩
theorem lw_p28 : lw_okq (⟨"NineSaints$City", "hearThrough", "(I)V"⟩, 14) := ⟨⟨by decide +kernel, by decide +kernel⟩, List.mem_of_getElem? (i := 32) (by decide +kernel), List.mem_of_getElem? (i := 794) (by decide +kernel), List.mem_of_getElem? (i := 795) (by decide +kernel)⟩
theorem lw_p29 : lw_okq (⟨"NineSaints$City", "copyRow", "([I[I)V"⟩, 14) := ⟨⟨by decide +kernel, by decide +kernel⟩, List.mem_of_getElem? (i := 32) (by decide +kernel), List.mem_of_getElem? (i := 802) (by decide +kernel), List.mem_of_getElem? (i := 803) (by decide +kernel)⟩
theorem lw_p30 : lw_okq (⟨"NineSaints", "isLane", "(I)Z"⟩, 16) := ⟨⟨by decide +kernel, by decide +kernel⟩, List.mem_of_getElem? (i := 24) (by decide +kernel), List.mem_of_getElem? (i := 845) (by decide +kernel), List.mem_of_getElem? (i := 846) (by decide +kernel)⟩
theorem lw_p31 : lw_okq (⟨"NineSaints", "isCorner", "(I)Z"⟩, 16) := ⟨⟨by decide +kernel, by decide +kernel⟩, List.mem_of_getElem? (i := 24) (by decide +kernel), List.mem_of_getElem? (i := 853) (by decide +kernel), List.mem_of_getElem? (i := 854) (by decide +kernel)⟩
def lw_privs_2 : List (MethodName × Nat) := [(⟨"NineSaints$Reader", "askedCorner", "(I)I"⟩, 15), (⟨"NineSaints$Reader", "tellSaint", "()Z"⟩, 15), (⟨"NineSaints$Reader", "tellBalcony", "()Z"⟩, 15), (⟨"NineSaints$Reader", "test", "(I)Z"⟩, 15), (⟨"NineSaints$Reader", "fact", "(I)Z"⟩, 15), (⟨"NineSaints$Reader", "roomIn", "(I)Z"⟩, 15), (⟨"NineSaints$Reader", "emit", "(I)V"⟩, 15), (⟨"NineSaints$Reader", "isSign", "(I)Z"⟩, 15), (⟨"NineSaints$Reader", "sign", "(I)Z"⟩, 15), (⟨"NineSaints$Reader", "sum", "(I)Z"⟩, 15), (⟨"NineSaints$Reader", "part", "(I)Z"⟩, 15), (⟨"NineSaints$Reader", "exceptionStands", "()Z"⟩, 15), (⟨"NineSaints$City", "hearThrough", "(I)V"⟩, 14), (⟨"NineSaints$City", "copyRow", "([I[I)V"⟩, 14), (⟨"NineSaints", "isLane", "(I)Z"⟩, 16), (⟨"NineSaints", "isCorner", "(I)Z"⟩, 16)]
theorem lw_r2 : ∀ q ∈ lw_privs_2, lw_okq q := List.forall_mem_cons.mpr ⟨lw_p16, List.forall_mem_cons.mpr ⟨lw_p17, List.forall_mem_cons.mpr ⟨lw_p18, List.forall_mem_cons.mpr ⟨lw_p19, List.forall_mem_cons.mpr ⟨lw_p20, List.forall_mem_cons.mpr ⟨lw_p21, List.forall_mem_cons.mpr ⟨lw_p22, List.forall_mem_cons.mpr ⟨lw_p23, List.forall_mem_cons.mpr ⟨lw_p24, List.forall_mem_cons.mpr ⟨lw_p25, List.forall_mem_cons.mpr ⟨lw_p26, List.forall_mem_cons.mpr ⟨lw_p27, List.forall_mem_cons.mpr ⟨lw_p28, List.forall_mem_cons.mpr ⟨lw_p29, List.forall_mem_cons.mpr ⟨lw_p30, List.forall_mem_cons.mpr ⟨lw_p31, fun _ h => absurd h List.not_mem_nil⟩⟩⟩⟩⟩⟩⟩⟩⟩⟩⟩⟩⟩⟩⟩⟩
theorem lw_p32 : lw_okq (⟨"NineSaints", "isSaint", "(I)Z"⟩, 16) := ⟨⟨by decide +kernel, by decide +kernel⟩, List.mem_of_getElem? (i := 24) (by decide +kernel), List.mem_of_getElem? (i := 861) (by decide +kernel), List.mem_of_getElem? (i := 862) (by decide +kernel)⟩
theorem lw_p33 : lw_okq (⟨"NineSaints$Ways", "addStep", "(II)V"⟩, 10) := ⟨⟨by decide +kernel, by decide +kernel⟩, List.mem_of_getElem? (i := 174) (by decide +kernel), List.mem_of_getElem? (i := 878) (by decide +kernel), List.mem_of_getElem? (i := 879) (by decide +kernel)⟩
theorem lw_p34 : lw_okq (⟨"NineSaints", "isMinute", "(I)Z"⟩, 16) := ⟨⟨by decide +kernel, by decide +kernel⟩, List.mem_of_getElem? (i := 24) (by decide +kernel), List.mem_of_getElem? (i := 919) (by decide +kernel), List.mem_of_getElem? (i := 920) (by decide +kernel)⟩
theorem lw_p35 : lw_okq (⟨"NineSaints$Night", "unexcusedOf", "(II)I"⟩, 6) := ⟨⟨by decide +kernel, by decide +kernel⟩, List.mem_of_getElem? (i := 353) (by decide +kernel), List.mem_of_getElem? (i := 963) (by decide +kernel), List.mem_of_getElem? (i := 964) (by decide +kernel)⟩
theorem lw_p36 : lw_okq (⟨"NineSaints$Meetings", "drums", "(ILNineSaints$Track;ILNineSaints$Track;I)V"⟩, 9) := ⟨⟨by decide +kernel, by decide +kernel⟩, List.mem_of_getElem? (i := 277) (by decide +kernel), List.mem_of_getElem? (i := 982) (by decide +kernel), List.mem_of_getElem? (i := 983) (by decide +kernel)⟩
theorem lw_p37 : lw_okq (⟨"NineSaints$Meetings", "add", "(IIII)V"⟩, 9) := ⟨⟨by decide +kernel, by decide +kernel⟩, List.mem_of_getElem? (i := 277) (by decide +kernel), List.mem_of_getElem? (i := 987) (by decide +kernel), List.mem_of_getElem? (i := 988) (by decide +kernel)⟩
theorem lw_p38 : lw_okq (⟨"NineSaints$Meetings", "trodden", "(LNineSaints$Track;IILNineSaints$Track;I)V"⟩, 9) := ⟨⟨by decide +kernel, by decide +kernel⟩, List.mem_of_getElem? (i := 277) (by decide +kernel), List.mem_of_getElem? (i := 991) (by decide +kernel), List.mem_of_getElem? (i := 992) (by decide +kernel)⟩
theorem lw_p39 : lw_okq (⟨"NineSaints$Custom", "wordsOf", "(IIII)I"⟩, 7) := ⟨⟨by decide +kernel, by decide +kernel⟩, List.mem_of_getElem? (i := 324) (by decide +kernel), List.mem_of_getElem? (i := 1003) (by decide +kernel), List.mem_of_getElem? (i := 1004) (by decide +kernel)⟩
theorem lw_p40 : lw_okq (⟨"NineSaints$Custom", "holds", "(I)Z"⟩, 7) := ⟨⟨by decide +kernel, by decide +kernel⟩, List.mem_of_getElem? (i := 324) (by decide +kernel), List.mem_of_getElem? (i := 1010) (by decide +kernel), List.mem_of_getElem? (i := 1011) (by decide +kernel)⟩
theorem lw_p41 : lw_okq (⟨"NineSaints$Night", "tallyOf", "(III)I"⟩, 6) := ⟨⟨by decide +kernel, by decide +kernel⟩, List.mem_of_getElem? (i := 353) (by decide +kernel), List.mem_of_getElem? (i := 1036) (by decide +kernel), List.mem_of_getElem? (i := 1037) (by decide +kernel)⟩
theorem lw_p42 : lw_okq (⟨"NineSaints$Night", "pleases", "(II)Z"⟩, 6) := ⟨⟨by decide +kernel, by decide +kernel⟩, List.mem_of_getElem? (i := 353) (by decide +kernel), List.mem_of_getElem? (i := 1058) (by decide +kernel), List.mem_of_getElem? (i := 1059) (by decide +kernel)⟩
theorem lw_p43 : lw_okq (⟨"NineSaints$Night", "heldSets", "(II)J"⟩, 6) := ⟨⟨by decide +kernel, by decide +kernel⟩, List.mem_of_getElem? (i := 353) (by decide +kernel), List.mem_of_getElem? (i := 1082) (by decide +kernel), List.mem_of_getElem? (i := 1083) (by decide +kernel)⟩
theorem lw_p44 : lw_okq (⟨"NineSaints$Night", "excuses", "(IJ)Z"⟩, 6) := ⟨⟨by decide +kernel, by decide +kernel⟩, List.mem_of_getElem? (i := 353) (by decide +kernel), List.mem_of_getElem? (i := 1090) (by decide +kernel), List.mem_of_getElem? (i := 1091) (by decide +kernel)⟩
theorem lw_p45 : lw_okq (⟨"NineSaints$Options", "explore", "(III)V"⟩, 12) := ⟨⟨by decide +kernel, by decide +kernel⟩, List.mem_of_getElem? (i := 378) (by decide +kernel), List.mem_of_getElem? (i := 1127) (by decide +kernel), List.mem_of_getElem? (i := 1128) (by decide +kernel)⟩
theorem lw_p46 : lw_okq (⟨"NineSaints$Options", "record", "(II)V"⟩, 12) := ⟨⟨by decide +kernel, by decide +kernel⟩, List.mem_of_getElem? (i := 378) (by decide +kernel), List.mem_of_getElem? (i := 1131) (by decide +kernel), List.mem_of_getElem? (i := 1132) (by decide +kernel)⟩
theorem lw_p47 : lw_okq (⟨"NineSaints$Options", "rank", "(I)V"⟩, 12) := ⟨⟨by decide +kernel, by decide +kernel⟩, List.mem_of_getElem? (i := 378) (by decide +kernel), List.mem_of_getElem? (i := 1139) (by decide +kernel), List.mem_of_getElem? (i := 1140) (by decide +kernel)⟩
def lw_privs_3 : List (MethodName × Nat) := [(⟨"NineSaints", "isSaint", "(I)Z"⟩, 16), (⟨"NineSaints$Ways", "addStep", "(II)V"⟩, 10), (⟨"NineSaints", "isMinute", "(I)Z"⟩, 16), (⟨"NineSaints$Night", "unexcusedOf", "(II)I"⟩, 6), (⟨"NineSaints$Meetings", "drums", "(ILNineSaints$Track;ILNineSaints$Track;I)V"⟩, 9), (⟨"NineSaints$Meetings", "add", "(IIII)V"⟩, 9), (⟨"NineSaints$Meetings", "trodden", "(LNineSaints$Track;IILNineSaints$Track;I)V"⟩, 9), (⟨"NineSaints$Custom", "wordsOf", "(IIII)I"⟩, 7), (⟨"NineSaints$Custom", "holds", "(I)Z"⟩, 7), (⟨"NineSaints$Night", "tallyOf", "(III)I"⟩, 6), (⟨"NineSaints$Night", "pleases", "(II)Z"⟩, 6), (⟨"NineSaints$Night", "heldSets", "(II)J"⟩, 6), (⟨"NineSaints$Night", "excuses", "(IJ)Z"⟩, 6), (⟨"NineSaints$Options", "explore", "(III)V"⟩, 12), (⟨"NineSaints$Options", "record", "(II)V"⟩, 12), (⟨"NineSaints$Options", "rank", "(I)V"⟩, 12)]
theorem lw_r3 : ∀ q ∈ lw_privs_3, lw_okq q := List.forall_mem_cons.mpr ⟨lw_p32, List.forall_mem_cons.mpr ⟨lw_p33, List.forall_mem_cons.mpr ⟨lw_p34, List.forall_mem_cons.mpr ⟨lw_p35, List.forall_mem_cons.mpr ⟨lw_p36, List.forall_mem_cons.mpr ⟨lw_p37, List.forall_mem_cons.mpr ⟨lw_p38, List.forall_mem_cons.mpr ⟨lw_p39, List.forall_mem_cons.mpr ⟨lw_p40, List.forall_mem_cons.mpr ⟨lw_p41, List.forall_mem_cons.mpr ⟨lw_p42, List.forall_mem_cons.mpr ⟨lw_p43, List.forall_mem_cons.mpr ⟨lw_p44, List.forall_mem_cons.mpr ⟨lw_p45, List.forall_mem_cons.mpr ⟨lw_p46, List.forall_mem_cons.mpr ⟨lw_p47, fun _ h => absurd h List.not_mem_nil⟩⟩⟩⟩⟩⟩⟩⟩⟩⟩⟩⟩⟩⟩⟩⟩
theorem lw_p48 : lw_okq (⟨"NineSaints$Options", "forgetWays", "()V"⟩, 12) := ⟨⟨by decide +kernel, by decide +kernel⟩, List.mem_of_getElem? (i := 378) (by decide +kernel), List.mem_of_getElem? (i := 1154) (by decide +kernel), List.mem_of_getElem? (i := 1155) (by decide +kernel)⟩
theorem lw_p49 : lw_okq (⟨"NineSaints", "allSaints", "()I"⟩, 16) := ⟨⟨by decide +kernel, by decide +kernel⟩, List.mem_of_getElem? (i := 24) (by decide +kernel), List.mem_of_getElem? (i := 1167) (by decide +kernel), List.mem_of_getElem? (i := 1168) (by decide +kernel)⟩
theorem lw_p50 : lw_okq (⟨"NineSaints$Planner", "dive", "(II)V"⟩, 14) := ⟨⟨by decide +kernel, by decide +kernel⟩, List.mem_of_getElem? (i := 428) (by decide +kernel), List.mem_of_getElem? (i := 1185) (by decide +kernel), List.mem_of_getElem? (i := 1186) (by decide +kernel)⟩
theorem lw_p51 : lw_okq (⟨"NineSaints$Planner", "leastBehind", "(II)I"⟩, 14) := ⟨⟨by decide +kernel, by decide +kernel⟩, List.mem_of_getElem? (i := 428) (by decide +kernel), List.mem_of_getElem? (i := 1189) (by decide +kernel), List.mem_of_getElem? (i := 1190) (by decide +kernel)⟩
theorem lw_p52 : lw_okq (⟨"NineSaints$Planner", "cheapest", "(IJ)I"⟩, 14) := ⟨⟨by decide +kernel, by decide +kernel⟩, List.mem_of_getElem? (i := 428) (by decide +kernel), List.mem_of_getElem? (i := 1193) (by decide +kernel), List.mem_of_getElem? (i := 1194) (by decide +kernel)⟩
theorem lw_p53 : lw_okq (⟨"NineSaints$Planner", "price", "(II)I"⟩, 14) := ⟨⟨by decide +kernel, by decide +kernel⟩, List.mem_of_getElem? (i := 428) (by decide +kernel), List.mem_of_getElem? (i := 1197) (by decide +kernel), List.mem_of_getElem? (i := 1198) (by decide +kernel)⟩
theorem lw_p54 : lw_okq (⟨"NineSaints$Planner", "cheapEnough", "(IJI)J"⟩, 14) := ⟨⟨by decide +kernel, by decide +kernel⟩, List.mem_of_getElem? (i := 428) (by decide +kernel), List.mem_of_getElem? (i := 1206) (by decide +kernel), List.mem_of_getElem? (i := 1207) (by decide +kernel)⟩
theorem lw_p55 : lw_okq (⟨"NineSaints$Options", "judged", "(IIII)Z"⟩, 12) := ⟨⟨by decide +kernel, by decide +kernel⟩, List.mem_of_getElem? (i := 378) (by decide +kernel), List.mem_of_getElem? (i := 1217) (by decide +kernel), List.mem_of_getElem? (i := 1218) (by decide +kernel)⟩
theorem lw_p56 : lw_okq (⟨"NineSaints$Planner", "adopt", "(II)V"⟩, 14) := ⟨⟨by decide +kernel, by decide +kernel⟩, List.mem_of_getElem? (i := 428) (by decide +kernel), List.mem_of_getElem? (i := 1238) (by decide +kernel), List.mem_of_getElem? (i := 1239) (by decide +kernel)⟩
theorem lw_p57 : lw_okq (⟨"NineSaints$Planner", "fitsWays", "(II)Z"⟩, 14) := ⟨⟨by decide +kernel, by decide +kernel⟩, List.mem_of_getElem? (i := 428) (by decide +kernel), List.mem_of_getElem? (i := 1260) (by decide +kernel), List.mem_of_getElem? (i := 1261) (by decide +kernel)⟩
theorem lw_p58 : lw_okq (⟨"NineSaints$Planner", "pick", "(I)I"⟩, 14) := ⟨⟨by decide +kernel, by decide +kernel⟩, List.mem_of_getElem? (i := 428) (by decide +kernel), List.mem_of_getElem? (i := 1276) (by decide +kernel), List.mem_of_getElem? (i := 1277) (by decide +kernel)⟩
theorem lw_p59 : lw_okq (⟨"NineSaints$Dawn", "heap", "(IIIZ)V"⟩, 10) := ⟨⟨by decide +kernel, by decide +kernel⟩, List.mem_of_getElem? (i := 478) (by decide +kernel), List.mem_of_getElem? (i := 1289) (by decide +kernel), List.mem_of_getElem? (i := 1290) (by decide +kernel)⟩
theorem lw_p60 : lw_okq (⟨"NineSaints$Dawn", "count", "(I)V"⟩, 10) := ⟨⟨by decide +kernel, by decide +kernel⟩, List.mem_of_getElem? (i := 478) (by decide +kernel), List.mem_of_getElem? (i := 1296) (by decide +kernel), List.mem_of_getElem? (i := 1297) (by decide +kernel)⟩
theorem lw_p61 : lw_okq (⟨"NineSaints$Ways", "sumOf", "([II)I"⟩, 10) := ⟨⟨by decide +kernel, by decide +kernel⟩, List.mem_of_getElem? (i := 174) (by decide +kernel), List.mem_of_getElem? (i := 1309) (by decide +kernel), List.mem_of_getElem? (i := 1310) (by decide +kernel)⟩
theorem lw_p62 : lw_okq (⟨"NineSaints$Ways", "tryWay", "(I[III)I"⟩, 10) := ⟨⟨by decide +kernel, by decide +kernel⟩, List.mem_of_getElem? (i := 174) (by decide +kernel), List.mem_of_getElem? (i := 1325) (by decide +kernel), List.mem_of_getElem? (i := 1326) (by decide +kernel)⟩
theorem lw_p63 : lw_okq (⟨"NineSaintsModel", "look", "()I"⟩, 91) := ⟨⟨by decide +kernel, by decide +kernel⟩, List.mem_of_getElem? (i := 1329) (by decide +kernel), List.mem_of_getElem? (i := 1623) (by decide +kernel), List.mem_of_getElem? (i := 1624) (by decide +kernel)⟩
def lw_privs_4 : List (MethodName × Nat) := [(⟨"NineSaints$Options", "forgetWays", "()V"⟩, 12), (⟨"NineSaints", "allSaints", "()I"⟩, 16), (⟨"NineSaints$Planner", "dive", "(II)V"⟩, 14), (⟨"NineSaints$Planner", "leastBehind", "(II)I"⟩, 14), (⟨"NineSaints$Planner", "cheapest", "(IJ)I"⟩, 14), (⟨"NineSaints$Planner", "price", "(II)I"⟩, 14), (⟨"NineSaints$Planner", "cheapEnough", "(IJI)J"⟩, 14), (⟨"NineSaints$Options", "judged", "(IIII)Z"⟩, 12), (⟨"NineSaints$Planner", "adopt", "(II)V"⟩, 14), (⟨"NineSaints$Planner", "fitsWays", "(II)Z"⟩, 14), (⟨"NineSaints$Planner", "pick", "(I)I"⟩, 14), (⟨"NineSaints$Dawn", "heap", "(IIIZ)V"⟩, 10), (⟨"NineSaints$Dawn", "count", "(I)V"⟩, 10), (⟨"NineSaints$Ways", "sumOf", "([II)I"⟩, 10), (⟨"NineSaints$Ways", "tryWay", "(I[III)I"⟩, 10), (⟨"NineSaintsModel", "look", "()I"⟩, 91)]
theorem lw_r4 : ∀ q ∈ lw_privs_4, lw_okq q := List.forall_mem_cons.mpr ⟨lw_p48, List.forall_mem_cons.mpr ⟨lw_p49, List.forall_mem_cons.mpr ⟨lw_p50, List.forall_mem_cons.mpr ⟨lw_p51, List.forall_mem_cons.mpr ⟨lw_p52, List.forall_mem_cons.mpr ⟨lw_p53, List.forall_mem_cons.mpr ⟨lw_p54, List.forall_mem_cons.mpr ⟨lw_p55, List.forall_mem_cons.mpr ⟨lw_p56, List.forall_mem_cons.mpr ⟨lw_p57, List.forall_mem_cons.mpr ⟨lw_p58, List.forall_mem_cons.mpr ⟨lw_p59, List.forall_mem_cons.mpr ⟨lw_p60, List.forall_mem_cons.mpr ⟨lw_p61, List.forall_mem_cons.mpr ⟨lw_p62, List.forall_mem_cons.mpr ⟨lw_p63, fun _ h => absurd h List.not_mem_nil⟩⟩⟩⟩⟩⟩⟩⟩⟩⟩⟩⟩⟩⟩⟩⟩
theorem lw_p64 : lw_okq (⟨"NineSaintsModel", "statementTold", "()V"⟩, 91) := ⟨⟨by decide +kernel, by decide +kernel⟩, List.mem_of_getElem? (i := 1329) (by decide +kernel), List.mem_of_getElem? (i := 1627) (by decide +kernel), List.mem_of_getElem? (i := 1628) (by decide +kernel)⟩
theorem lw_p65 : lw_okq (⟨"NineSaintsModel", "fail", "(II)V"⟩, 91) := ⟨⟨by decide +kernel, by decide +kernel⟩, List.mem_of_getElem? (i := 1329) (by decide +kernel), List.mem_of_getElem? (i := 1631) (by decide +kernel), List.mem_of_getElem? (i := 1632) (by decide +kernel)⟩
theorem lw_p66 : lw_okq (⟨"NineSaintsModel", "takes", "([C)Z"⟩, 91) := ⟨⟨by decide +kernel, by decide +kernel⟩, List.mem_of_getElem? (i := 1329) (by decide +kernel), List.mem_of_getElem? (i := 1635) (by decide +kernel), List.mem_of_getElem? (i := 1636) (by decide +kernel)⟩
theorem lw_p67 : lw_okq (⟨"NineSaintsModel", "isHere", "([C)Z"⟩, 91) := ⟨⟨by decide +kernel, by decide +kernel⟩, List.mem_of_getElem? (i := 1329) (by decide +kernel), List.mem_of_getElem? (i := 1639) (by decide +kernel), List.mem_of_getElem? (i := 1640) (by decide +kernel)⟩
theorem lw_p68 : lw_okq (⟨"NineSaintsModel", "newCorner", "(I)V"⟩, 91) := ⟨⟨by decide +kernel, by decide +kernel⟩, List.mem_of_getElem? (i := 1329) (by decide +kernel), List.mem_of_getElem? (i := 1646) (by decide +kernel), List.mem_of_getElem? (i := 1647) (by decide +kernel)⟩
theorem lw_p69 : lw_okq (⟨"NineSaintsModel", "isFull", "(III)Z"⟩, 91) := ⟨⟨by decide +kernel, by decide +kernel⟩, List.mem_of_getElem? (i := 1329) (by decide +kernel), List.mem_of_getElem? (i := 1650) (by decide +kernel), List.mem_of_getElem? (i := 1651) (by decide +kernel)⟩
theorem lw_p70 : lw_okq (⟨"NineSaintsModel", "newName", "(I)I"⟩, 91) := ⟨⟨by decide +kernel, by decide +kernel⟩, List.mem_of_getElem? (i := 1329) (by decide +kernel), List.mem_of_getElem? (i := 1654) (by decide +kernel), List.mem_of_getElem? (i := 1655) (by decide +kernel)⟩
theorem lw_p71 : lw_okq (⟨"NineSaintsModel", "name", "()J"⟩, 91) := ⟨⟨by decide +kernel, by decide +kernel⟩, List.mem_of_getElem? (i := 1329) (by decide +kernel), List.mem_of_getElem? (i := 1658) (by decide +kernel), List.mem_of_getElem? (i := 1659) (by decide +kernel)⟩
theorem lw_p72 : lw_okq (⟨"NineSaintsModel", "isOwnHere", "()Z"⟩, 91) := ⟨⟨by decide +kernel, by decide +kernel⟩, List.mem_of_getElem? (i := 1329) (by decide +kernel), List.mem_of_getElem? (i := 1662) (by decide +kernel), List.mem_of_getElem? (i := 1663) (by decide +kernel)⟩
theorem lw_p73 : lw_okq (⟨"NineSaintsModel", "nameOf", "(IJ)I"⟩, 91) := ⟨⟨by decide +kernel, by decide +kernel⟩, List.mem_of_getElem? (i := 1329) (by decide +kernel), List.mem_of_getElem? (i := 1668) (by decide +kernel), List.mem_of_getElem? (i := 1669) (by decide +kernel)⟩
theorem lw_p74 : lw_okq (⟨"NineSaintsModel", "asks", "([C)V"⟩, 91) := ⟨⟨by decide +kernel, by decide +kernel⟩, List.mem_of_getElem? (i := 1329) (by decide +kernel), List.mem_of_getElem? (i := 1672) (by decide +kernel), List.mem_of_getElem? (i := 1673) (by decide +kernel)⟩
theorem lw_p75 : lw_okq (⟨"NineSaintsModel", "number", "(II)I"⟩, 91) := ⟨⟨by decide +kernel, by decide +kernel⟩, List.mem_of_getElem? (i := 1329) (by decide +kernel), List.mem_of_getElem? (i := 1676) (by decide +kernel), List.mem_of_getElem? (i := 1677) (by decide +kernel)⟩
theorem lw_p76 : lw_okq (⟨"NineSaintsModel", "newLane", "(I)V"⟩, 91) := ⟨⟨by decide +kernel, by decide +kernel⟩, List.mem_of_getElem? (i := 1329) (by decide +kernel), List.mem_of_getElem? (i := 1686) (by decide +kernel), List.mem_of_getElem? (i := 1687) (by decide +kernel)⟩
theorem lw_p77 : lw_okq (⟨"NineSaintsModel", "cornerTold", "()I"⟩, 91) := ⟨⟨by decide +kernel, by decide +kernel⟩, List.mem_of_getElem? (i := 1329) (by decide +kernel), List.mem_of_getElem? (i := 1690) (by decide +kernel), List.mem_of_getElem? (i := 1691) (by decide +kernel)⟩
theorem lw_p78 : lw_okq (⟨"NineSaintsModel", "newSaint", "(I)V"⟩, 91) := ⟨⟨by decide +kernel, by decide +kernel⟩, List.mem_of_getElem? (i := 1329) (by decide +kernel), List.mem_of_getElem? (i := 1694) (by decide +kernel), List.mem_of_getElem? (i := 1695) (by decide +kernel)⟩
theorem lw_p79 : lw_okq (⟨"NineSaintsModel", "newBalcony", "(I)V"⟩, 91) := ⟨⟨by decide +kernel, by decide +kernel⟩, List.mem_of_getElem? (i := 1329) (by decide +kernel), List.mem_of_getElem? (i := 1698) (by decide +kernel), List.mem_of_getElem? (i := 1699) (by decide +kernel)⟩
def lw_privs_5 : List (MethodName × Nat) := [(⟨"NineSaintsModel", "statementTold", "()V"⟩, 91), (⟨"NineSaintsModel", "fail", "(II)V"⟩, 91), (⟨"NineSaintsModel", "takes", "([C)Z"⟩, 91), (⟨"NineSaintsModel", "isHere", "([C)Z"⟩, 91), (⟨"NineSaintsModel", "newCorner", "(I)V"⟩, 91), (⟨"NineSaintsModel", "isFull", "(III)Z"⟩, 91), (⟨"NineSaintsModel", "newName", "(I)I"⟩, 91), (⟨"NineSaintsModel", "name", "()J"⟩, 91), (⟨"NineSaintsModel", "isOwnHere", "()Z"⟩, 91), (⟨"NineSaintsModel", "nameOf", "(IJ)I"⟩, 91), (⟨"NineSaintsModel", "asks", "([C)V"⟩, 91), (⟨"NineSaintsModel", "number", "(II)I"⟩, 91), (⟨"NineSaintsModel", "newLane", "(I)V"⟩, 91), (⟨"NineSaintsModel", "cornerTold", "()I"⟩, 91), (⟨"NineSaintsModel", "newSaint", "(I)V"⟩, 91), (⟨"NineSaintsModel", "newBalcony", "(I)V"⟩, 91)]
theorem lw_r5 : ∀ q ∈ lw_privs_5, lw_okq q := List.forall_mem_cons.mpr ⟨lw_p64, List.forall_mem_cons.mpr ⟨lw_p65, List.forall_mem_cons.mpr ⟨lw_p66, List.forall_mem_cons.mpr ⟨lw_p67, List.forall_mem_cons.mpr ⟨lw_p68, List.forall_mem_cons.mpr ⟨lw_p69, List.forall_mem_cons.mpr ⟨lw_p70, List.forall_mem_cons.mpr ⟨lw_p71, List.forall_mem_cons.mpr ⟨lw_p72, List.forall_mem_cons.mpr ⟨lw_p73, List.forall_mem_cons.mpr ⟨lw_p74, List.forall_mem_cons.mpr ⟨lw_p75, List.forall_mem_cons.mpr ⟨lw_p76, List.forall_mem_cons.mpr ⟨lw_p77, List.forall_mem_cons.mpr ⟨lw_p78, List.forall_mem_cons.mpr ⟨lw_p79, fun _ h => absurd h List.not_mem_nil⟩⟩⟩⟩⟩⟩⟩⟩⟩⟩⟩⟩⟩⟩⟩⟩
theorem lw_p80 : lw_okq (⟨"NineSaintsModel", "newException", "(I)V"⟩, 91) := ⟨⟨by decide +kernel, by decide +kernel⟩, List.mem_of_getElem? (i := 1329) (by decide +kernel), List.mem_of_getElem? (i := 1702) (by decide +kernel), List.mem_of_getElem? (i := 1703) (by decide +kernel)⟩
theorem lw_p81 : lw_okq (⟨"NineSaintsModel", "test", "()V"⟩, 91) := ⟨⟨by decide +kernel, by decide +kernel⟩, List.mem_of_getElem? (i := 1329) (by decide +kernel), List.mem_of_getElem? (i := 1706) (by decide +kernel), List.mem_of_getElem? (i := 1707) (by decide +kernel)⟩
theorem lw_p82 : lw_okq (⟨"NineSaintsModel", "opens", "(II)V"⟩, 91) := ⟨⟨by decide +kernel, by decide +kernel⟩, List.mem_of_getElem? (i := 1329) (by decide +kernel), List.mem_of_getElem? (i := 1710) (by decide +kernel), List.mem_of_getElem? (i := 1711) (by decide +kernel)⟩
theorem lw_p83 : lw_okq (⟨"NineSaintsModel", "fact", "()V"⟩, 91) := ⟨⟨by decide +kernel, by decide +kernel⟩, List.mem_of_getElem? (i := 1329) (by decide +kernel), List.mem_of_getElem? (i := 1714) (by decide +kernel), List.mem_of_getElem? (i := 1715) (by decide +kernel)⟩
theorem lw_p84 : lw_okq (⟨"NineSaintsModel", "code", "(I)V"⟩, 91) := ⟨⟨by decide +kernel, by decide +kernel⟩, List.mem_of_getElem? (i := 1329) (by decide +kernel), List.mem_of_getElem? (i := 1718) (by decide +kernel), List.mem_of_getElem? (i := 1719) (by decide +kernel)⟩
theorem lw_p85 : lw_okq (⟨"NineSaintsModel", "sumsTold", "()V"⟩, 91) := ⟨⟨by decide +kernel, by decide +kernel⟩, List.mem_of_getElem? (i := 1329) (by decide +kernel), List.mem_of_getElem? (i := 1722) (by decide +kernel), List.mem_of_getElem? (i := 1723) (by decide +kernel)⟩
theorem lw_p86 : lw_okq (⟨"NineSaintsModel", "onePart", "()V"⟩, 91) := ⟨⟨by decide +kernel, by decide +kernel⟩, List.mem_of_getElem? (i := 1329) (by decide +kernel), List.mem_of_getElem? (i := 1726) (by decide +kernel), List.mem_of_getElem? (i := 1727) (by decide +kernel)⟩
theorem lw_p87 : lw_okq (⟨"NineSaintsModel", "asksSign", "(I)V"⟩, 91) := ⟨⟨by decide +kernel, by decide +kernel⟩, List.mem_of_getElem? (i := 1329) (by decide +kernel), List.mem_of_getElem? (i := 1730) (by decide +kernel), List.mem_of_getElem? (i := 1731) (by decide +kernel)⟩
theorem lw_p88 : lw_okq (⟨"NineSaintsModel", "takesSign", "(I)Z"⟩, 91) := ⟨⟨by decide +kernel, by decide +kernel⟩, List.mem_of_getElem? (i := 1329) (by decide +kernel), List.mem_of_getElem? (i := 1734) (by decide +kernel), List.mem_of_getElem? (i := 1735) (by decide +kernel)⟩
theorem lw_p89 : lw_okq (⟨"NineSaintsModel", "goesOn", "()Z"⟩, 91) := ⟨⟨by decide +kernel, by decide +kernel⟩, List.mem_of_getElem? (i := 1329) (by decide +kernel), List.mem_of_getElem? (i := 1738) (by decide +kernel), List.mem_of_getElem? (i := 1739) (by decide +kernel)⟩
theorem lw_p90 : lw_okq (⟨"NineSaintsModel", "mark", "()I"⟩, 91) := ⟨⟨by decide +kernel, by decide +kernel⟩, List.mem_of_getElem? (i := 1329) (by decide +kernel), List.mem_of_getElem? (i := 1742) (by decide +kernel), List.mem_of_getElem? (i := 1743) (by decide +kernel)⟩
theorem lw_p91 : lw_okq (⟨"NineSaintsModel", "isMark", "(I)Z"⟩, 91) := ⟨⟨by decide +kernel, by decide +kernel⟩, List.mem_of_getElem? (i := 1329) (by decide +kernel), List.mem_of_getElem? (i := 1746) (by decide +kernel), List.mem_of_getElem? (i := 1747) (by decide +kernel)⟩
theorem lw_p92 : lw_okq (⟨"NineSaintsModel", "dropsToMark", "()V"⟩, 91) := ⟨⟨by decide +kernel, by decide +kernel⟩, List.mem_of_getElem? (i := 1329) (by decide +kernel), List.mem_of_getElem? (i := 1750) (by decide +kernel), List.mem_of_getElem? (i := 1751) (by decide +kernel)⟩
theorem lw_p93 : lw_okq (⟨"NineSaintsModel", "drops", "()V"⟩, 91) := ⟨⟨by decide +kernel, by decide +kernel⟩, List.mem_of_getElem? (i := 1329) (by decide +kernel), List.mem_of_getElem? (i := 1754) (by decide +kernel), List.mem_of_getElem? (i := 1755) (by decide +kernel)⟩
theorem lw_p94 : lw_okq (⟨"NineSaintsModel", "isOn", "(I)Z"⟩, 91) := ⟨⟨by decide +kernel, by decide +kernel⟩, List.mem_of_getElem? (i := 1329) (by decide +kernel), List.mem_of_getElem? (i := 1758) (by decide +kernel), List.mem_of_getElem? (i := 1759) (by decide +kernel)⟩
theorem lw_p95 : lw_okq (⟨"NineSaintsModel", "dropsNots", "()V"⟩, 91) := ⟨⟨by decide +kernel, by decide +kernel⟩, List.mem_of_getElem? (i := 1329) (by decide +kernel), List.mem_of_getElem? (i := 1762) (by decide +kernel), List.mem_of_getElem? (i := 1763) (by decide +kernel)⟩
def lw_privs_6 : List (MethodName × Nat) := [(⟨"NineSaintsModel", "newException", "(I)V"⟩, 91), (⟨"NineSaintsModel", "test", "()V"⟩, 91), (⟨"NineSaintsModel", "opens", "(II)V"⟩, 91), (⟨"NineSaintsModel", "fact", "()V"⟩, 91), (⟨"NineSaintsModel", "code", "(I)V"⟩, 91), (⟨"NineSaintsModel", "sumsTold", "()V"⟩, 91), (⟨"NineSaintsModel", "onePart", "()V"⟩, 91), (⟨"NineSaintsModel", "asksSign", "(I)V"⟩, 91), (⟨"NineSaintsModel", "takesSign", "(I)Z"⟩, 91), (⟨"NineSaintsModel", "goesOn", "()Z"⟩, 91), (⟨"NineSaintsModel", "mark", "()I"⟩, 91), (⟨"NineSaintsModel", "isMark", "(I)Z"⟩, 91), (⟨"NineSaintsModel", "dropsToMark", "()V"⟩, 91), (⟨"NineSaintsModel", "drops", "()V"⟩, 91), (⟨"NineSaintsModel", "isOn", "(I)Z"⟩, 91), (⟨"NineSaintsModel", "dropsNots", "()V"⟩, 91)]
theorem lw_r6 : ∀ q ∈ lw_privs_6, lw_okq q := List.forall_mem_cons.mpr ⟨lw_p80, List.forall_mem_cons.mpr ⟨lw_p81, List.forall_mem_cons.mpr ⟨lw_p82, List.forall_mem_cons.mpr ⟨lw_p83, List.forall_mem_cons.mpr ⟨lw_p84, List.forall_mem_cons.mpr ⟨lw_p85, List.forall_mem_cons.mpr ⟨lw_p86, List.forall_mem_cons.mpr ⟨lw_p87, List.forall_mem_cons.mpr ⟨lw_p88, List.forall_mem_cons.mpr ⟨lw_p89, List.forall_mem_cons.mpr ⟨lw_p90, List.forall_mem_cons.mpr ⟨lw_p91, List.forall_mem_cons.mpr ⟨lw_p92, List.forall_mem_cons.mpr ⟨lw_p93, List.forall_mem_cons.mpr ⟨lw_p94, List.forall_mem_cons.mpr ⟨lw_p95, fun _ h => absurd h List.not_mem_nil⟩⟩⟩⟩⟩⟩⟩⟩⟩⟩⟩⟩⟩⟩⟩⟩
theorem lw_p96 : lw_okq (⟨"NineSaintsModel", "goesOnTest", "()Z"⟩, 91) := ⟨⟨by decide +kernel, by decide +kernel⟩, List.mem_of_getElem? (i := 1329) (by decide +kernel), List.mem_of_getElem? (i := 1766) (by decide +kernel), List.mem_of_getElem? (i := 1767) (by decide +kernel)⟩
theorem lw_p97 : lw_okq (⟨"NineSaintsModel", "hasSquare", "()Z"⟩, 91) := ⟨⟨by decide +kernel, by decide +kernel⟩, List.mem_of_getElem? (i := 1329) (by decide +kernel), List.mem_of_getElem? (i := 1770) (by decide +kernel), List.mem_of_getElem? (i := 1771) (by decide +kernel)⟩
theorem lw_p98 : lw_okq (⟨"NineSaintsModel", "wordsIn", "(II)I"⟩, 91) := ⟨⟨by decide +kernel, by decide +kernel⟩, List.mem_of_getElem? (i := 1329) (by decide +kernel), List.mem_of_getElem? (i := 1774) (by decide +kernel), List.mem_of_getElem? (i := 1775) (by decide +kernel)⟩
theorem lw_p99 : lw_okq (⟨"NineSaintsModel", "stands", "()V"⟩, 91) := ⟨⟨by decide +kernel, by decide +kernel⟩, List.mem_of_getElem? (i := 1329) (by decide +kernel), List.mem_of_getElem? (i := 1778) (by decide +kernel), List.mem_of_getElem? (i := 1779) (by decide +kernel)⟩
theorem lw_p100 : lw_okq (⟨"NineSaintsModel", "sounds", "()V"⟩, 91) := ⟨⟨by decide +kernel, by decide +kernel⟩, List.mem_of_getElem? (i := 1329) (by decide +kernel), List.mem_of_getElem? (i := 1782) (by decide +kernel), List.mem_of_getElem? (i := 1783) (by decide +kernel)⟩
theorem lw_p101 : lw_okq (⟨"NineSaintsModel", "laneMany", "()I"⟩, 91) := ⟨⟨by decide +kernel, by decide +kernel⟩, List.mem_of_getElem? (i := 1329) (by decide +kernel), List.mem_of_getElem? (i := 1786) (by decide +kernel), List.mem_of_getElem? (i := 1787) (by decide +kernel)⟩
theorem lw_p102 : lw_okq (⟨"NineSaintsModel", "corners", "()I"⟩, 91) := ⟨⟨by decide +kernel, by decide +kernel⟩, List.mem_of_getElem? (i := 1329) (by decide +kernel), List.mem_of_getElem? (i := 1798) (by decide +kernel), List.mem_of_getElem? (i := 1799) (by decide +kernel)⟩
theorem lw_p103 : lw_okq (⟨"NineSaintsModel", "saintMany", "()I"⟩, 91) := ⟨⟨by decide +kernel, by decide +kernel⟩, List.mem_of_getElem? (i := 1329) (by decide +kernel), List.mem_of_getElem? (i := 1802) (by decide +kernel), List.mem_of_getElem? (i := 1803) (by decide +kernel)⟩
theorem lw_p104 : lw_okq (⟨"NineSaintsModel", "exceptions", "()I"⟩, 91) := ⟨⟨by decide +kernel, by decide +kernel⟩, List.mem_of_getElem? (i := 1329) (by decide +kernel), List.mem_of_getElem? (i := 1806) (by decide +kernel), List.mem_of_getElem? (i := 1807) (by decide +kernel)⟩
theorem lw_p105 : lw_okq (⟨"NineSaintsModel", "parishes", "()I"⟩, 91) := ⟨⟨by decide +kernel, by decide +kernel⟩, List.mem_of_getElem? (i := 1329) (by decide +kernel), List.mem_of_getElem? (i := 1810) (by decide +kernel), List.mem_of_getElem? (i := 1811) (by decide +kernel)⟩
theorem lw_p106 : lw_okq (⟨"NineSaintsModel", "isLane", "(I)Z"⟩, 91) := ⟨⟨by decide +kernel, by decide +kernel⟩, List.mem_of_getElem? (i := 1329) (by decide +kernel), List.mem_of_getElem? (i := 1826) (by decide +kernel), List.mem_of_getElem? (i := 1827) (by decide +kernel)⟩
theorem lw_p107 : lw_okq (⟨"NineSaintsModel", "isCorner", "(I)Z"⟩, 91) := ⟨⟨by decide +kernel, by decide +kernel⟩, List.mem_of_getElem? (i := 1329) (by decide +kernel), List.mem_of_getElem? (i := 1835) (by decide +kernel), List.mem_of_getElem? (i := 1836) (by decide +kernel)⟩
theorem lw_p108 : lw_okq (⟨"NineSaintsModel", "isSaint", "(I)Z"⟩, 91) := ⟨⟨by decide +kernel, by decide +kernel⟩, List.mem_of_getElem? (i := 1329) (by decide +kernel), List.mem_of_getElem? (i := 1843) (by decide +kernel), List.mem_of_getElem? (i := 1844) (by decide +kernel)⟩
theorem lw_p109 : lw_okq (⟨"NineSaintsModel", "endOf", "(I)I"⟩, 91) := ⟨⟨by decide +kernel, by decide +kernel⟩, List.mem_of_getElem? (i := 1329) (by decide +kernel), List.mem_of_getElem? (i := 1847) (by decide +kernel), List.mem_of_getElem? (i := 1848) (by decide +kernel)⟩
theorem lw_p110 : lw_okq (⟨"NineSaintsModel", "endsAt", "(I)I"⟩, 91) := ⟨⟨by decide +kernel, by decide +kernel⟩, List.mem_of_getElem? (i := 1329) (by decide +kernel), List.mem_of_getElem? (i := 1851) (by decide +kernel), List.mem_of_getElem? (i := 1852) (by decide +kernel)⟩
theorem lw_p111 : lw_okq (⟨"NineSaintsModel", "homeOf", "(I)I"⟩, 91) := ⟨⟨by decide +kernel, by decide +kernel⟩, List.mem_of_getElem? (i := 1329) (by decide +kernel), List.mem_of_getElem? (i := 1858) (by decide +kernel), List.mem_of_getElem? (i := 1859) (by decide +kernel)⟩
def lw_privs_7 : List (MethodName × Nat) := [(⟨"NineSaintsModel", "goesOnTest", "()Z"⟩, 91), (⟨"NineSaintsModel", "hasSquare", "()Z"⟩, 91), (⟨"NineSaintsModel", "wordsIn", "(II)I"⟩, 91), (⟨"NineSaintsModel", "stands", "()V"⟩, 91), (⟨"NineSaintsModel", "sounds", "()V"⟩, 91), (⟨"NineSaintsModel", "laneMany", "()I"⟩, 91), (⟨"NineSaintsModel", "corners", "()I"⟩, 91), (⟨"NineSaintsModel", "saintMany", "()I"⟩, 91), (⟨"NineSaintsModel", "exceptions", "()I"⟩, 91), (⟨"NineSaintsModel", "parishes", "()I"⟩, 91), (⟨"NineSaintsModel", "isLane", "(I)Z"⟩, 91), (⟨"NineSaintsModel", "isCorner", "(I)Z"⟩, 91), (⟨"NineSaintsModel", "isSaint", "(I)Z"⟩, 91), (⟨"NineSaintsModel", "endOf", "(I)I"⟩, 91), (⟨"NineSaintsModel", "endsAt", "(I)I"⟩, 91), (⟨"NineSaintsModel", "homeOf", "(I)I"⟩, 91)]
theorem lw_r7 : ∀ q ∈ lw_privs_7, lw_okq q := List.forall_mem_cons.mpr ⟨lw_p96, List.forall_mem_cons.mpr ⟨lw_p97, List.forall_mem_cons.mpr ⟨lw_p98, List.forall_mem_cons.mpr ⟨lw_p99, List.forall_mem_cons.mpr ⟨lw_p100, List.forall_mem_cons.mpr ⟨lw_p101, List.forall_mem_cons.mpr ⟨lw_p102, List.forall_mem_cons.mpr ⟨lw_p103, List.forall_mem_cons.mpr ⟨lw_p104, List.forall_mem_cons.mpr ⟨lw_p105, List.forall_mem_cons.mpr ⟨lw_p106, List.forall_mem_cons.mpr ⟨lw_p107, List.forall_mem_cons.mpr ⟨lw_p108, List.forall_mem_cons.mpr ⟨lw_p109, List.forall_mem_cons.mpr ⟨lw_p110, List.forall_mem_cons.mpr ⟨lw_p111, fun _ h => absurd h List.not_mem_nil⟩⟩⟩⟩⟩⟩⟩⟩⟩⟩⟩⟩⟩⟩⟩⟩
theorem lw_p112 : lw_okq (⟨"NineSaintsModel", "laneOf", "(II)I"⟩, 91) := ⟨⟨by decide +kernel, by decide +kernel⟩, List.mem_of_getElem? (i := 1329) (by decide +kernel), List.mem_of_getElem? (i := 1870) (by decide +kernel), List.mem_of_getElem? (i := 1871) (by decide +kernel)⟩
theorem lw_p113 : lw_okq (⟨"NineSaintsModel", "isShut", "(I)Z"⟩, 91) := ⟨⟨by decide +kernel, by decide +kernel⟩, List.mem_of_getElem? (i := 1329) (by decide +kernel), List.mem_of_getElem? (i := 1874) (by decide +kernel), List.mem_of_getElem? (i := 1875) (by decide +kernel)⟩
theorem lw_p114 : lw_okq (⟨"NineSaintsModel", "longOf", "(II)I"⟩, 91) := ⟨⟨by decide +kernel, by decide +kernel⟩, List.mem_of_getElem? (i := 1329) (by decide +kernel), List.mem_of_getElem? (i := 1878) (by decide +kernel), List.mem_of_getElem? (i := 1879) (by decide +kernel)⟩
theorem lw_p115 : lw_okq (⟨"NineSaintsModel", "paceOf", "(I)I"⟩, 91) := ⟨⟨by decide +kernel, by decide +kernel⟩, List.mem_of_getElem? (i := 1329) (by decide +kernel), List.mem_of_getElem? (i := 1882) (by decide +kernel), List.mem_of_getElem? (i := 1883) (by decide +kernel)⟩
theorem lw_p116 : lw_okq (⟨"NineSaintsModel", "canGo", "(II)Z"⟩, 91) := ⟨⟨by decide +kernel, by decide +kernel⟩, List.mem_of_getElem? (i := 1329) (by decide +kernel), List.mem_of_getElem? (i := 1886) (by decide +kernel), List.mem_of_getElem? (i := 1887) (by decide +kernel)⟩
theorem lw_p117 : lw_okq (⟨"NineSaintsModel", "keeps", "()V"⟩, 91) := ⟨⟨by decide +kernel, by decide +kernel⟩, List.mem_of_getElem? (i := 1329) (by decide +kernel), List.mem_of_getElem? (i := 1890) (by decide +kernel), List.mem_of_getElem? (i := 1891) (by decide +kernel)⟩
theorem lw_p118 : lw_okq (⟨"NineSaintsModel", "remembers", "()V"⟩, 91) := ⟨⟨by decide +kernel, by decide +kernel⟩, List.mem_of_getElem? (i := 1329) (by decide +kernel), List.mem_of_getElem? (i := 1894) (by decide +kernel), List.mem_of_getElem? (i := 1895) (by decide +kernel)⟩
theorem lw_p119 : lw_okq (⟨"NineSaintsModel", "keepsAside", "()V"⟩, 91) := ⟨⟨by decide +kernel, by decide +kernel⟩, List.mem_of_getElem? (i := 1329) (by decide +kernel), List.mem_of_getElem? (i := 1898) (by decide +kernel), List.mem_of_getElem? (i := 1899) (by decide +kernel)⟩
theorem lw_p120 : lw_okq (⟨"NineSaintsModel", "treads", "(IIII)V"⟩, 91) := ⟨⟨by decide +kernel, by decide +kernel⟩, List.mem_of_getElem? (i := 1329) (by decide +kernel), List.mem_of_getElem? (i := 1902) (by decide +kernel), List.mem_of_getElem? (i := 1903) (by decide +kernel)⟩
theorem lw_p121 : lw_okq (⟨"NineSaintsModel", "whereOf", "(II)I"⟩, 91) := ⟨⟨by decide +kernel, by decide +kernel⟩, List.mem_of_getElem? (i := 1329) (by decide +kernel), List.mem_of_getElem? (i := 1920) (by decide +kernel), List.mem_of_getElem? (i := 1921) (by decide +kernel)⟩
theorem lw_p122 : lw_okq (⟨"NineSaintsModel", "onOf", "(II)I"⟩, 91) := ⟨⟨by decide +kernel, by decide +kernel⟩, List.mem_of_getElem? (i := 1329) (by decide +kernel), List.mem_of_getElem? (i := 1928) (by decide +kernel), List.mem_of_getElem? (i := 1929) (by decide +kernel)⟩
theorem lw_p123 : lw_okq (⟨"NineSaintsModel", "leaves", "(II)I"⟩, 91) := ⟨⟨by decide +kernel, by decide +kernel⟩, List.mem_of_getElem? (i := 1329) (by decide +kernel), List.mem_of_getElem? (i := 1932) (by decide +kernel), List.mem_of_getElem? (i := 1933) (by decide +kernel)⟩
theorem lw_p124 : lw_okq (⟨"NineSaintsModel", "arePetals", "(III)Z"⟩, 91) := ⟨⟨by decide +kernel, by decide +kernel⟩, List.mem_of_getElem? (i := 1329) (by decide +kernel), List.mem_of_getElem? (i := 1940) (by decide +kernel), List.mem_of_getElem? (i := 1941) (by decide +kernel)⟩
theorem lw_p125 : lw_okq (⟨"NineSaintsModel", "doLie", "(III)Z"⟩, 91) := ⟨⟨by decide +kernel, by decide +kernel⟩, List.mem_of_getElem? (i := 1329) (by decide +kernel), List.mem_of_getElem? (i := 1944) (by decide +kernel), List.mem_of_getElem? (i := 1945) (by decide +kernel)⟩
theorem lw_p126 : lw_okq (⟨"NineSaintsModel", "petalsOf", "(I)I"⟩, 91) := ⟨⟨by decide +kernel, by decide +kernel⟩, List.mem_of_getElem? (i := 1329) (by decide +kernel), List.mem_of_getElem? (i := 1948) (by decide +kernel), List.mem_of_getElem? (i := 1949) (by decide +kernel)⟩
theorem lw_p127 : lw_okq (⟨"NineSaintsModel", "drums", "(III)I"⟩, 91) := ⟨⟨by decide +kernel, by decide +kernel⟩, List.mem_of_getElem? (i := 1329) (by decide +kernel), List.mem_of_getElem? (i := 1962) (by decide +kernel), List.mem_of_getElem? (i := 1963) (by decide +kernel)⟩
def lw_privs_8 : List (MethodName × Nat) := [(⟨"NineSaintsModel", "laneOf", "(II)I"⟩, 91), (⟨"NineSaintsModel", "isShut", "(I)Z"⟩, 91), (⟨"NineSaintsModel", "longOf", "(II)I"⟩, 91), (⟨"NineSaintsModel", "paceOf", "(I)I"⟩, 91), (⟨"NineSaintsModel", "canGo", "(II)Z"⟩, 91), (⟨"NineSaintsModel", "keeps", "()V"⟩, 91), (⟨"NineSaintsModel", "remembers", "()V"⟩, 91), (⟨"NineSaintsModel", "keepsAside", "()V"⟩, 91), (⟨"NineSaintsModel", "treads", "(IIII)V"⟩, 91), (⟨"NineSaintsModel", "whereOf", "(II)I"⟩, 91), (⟨"NineSaintsModel", "onOf", "(II)I"⟩, 91), (⟨"NineSaintsModel", "leaves", "(II)I"⟩, 91), (⟨"NineSaintsModel", "arePetals", "(III)Z"⟩, 91), (⟨"NineSaintsModel", "doLie", "(III)Z"⟩, 91), (⟨"NineSaintsModel", "petalsOf", "(I)I"⟩, 91), (⟨"NineSaintsModel", "drums", "(III)I"⟩, 91)]
theorem lw_r8 : ∀ q ∈ lw_privs_8, lw_okq q := List.forall_mem_cons.mpr ⟨lw_p112, List.forall_mem_cons.mpr ⟨lw_p113, List.forall_mem_cons.mpr ⟨lw_p114, List.forall_mem_cons.mpr ⟨lw_p115, List.forall_mem_cons.mpr ⟨lw_p116, List.forall_mem_cons.mpr ⟨lw_p117, List.forall_mem_cons.mpr ⟨lw_p118, List.forall_mem_cons.mpr ⟨lw_p119, List.forall_mem_cons.mpr ⟨lw_p120, List.forall_mem_cons.mpr ⟨lw_p121, List.forall_mem_cons.mpr ⟨lw_p122, List.forall_mem_cons.mpr ⟨lw_p123, List.forall_mem_cons.mpr ⟨lw_p124, List.forall_mem_cons.mpr ⟨lw_p125, List.forall_mem_cons.mpr ⟨lw_p126, List.forall_mem_cons.mpr ⟨lw_p127, fun _ h => absurd h List.not_mem_nil⟩⟩⟩⟩⟩⟩⟩⟩⟩⟩⟩⟩⟩⟩⟩⟩
theorem lw_p128 : lw_okq (⟨"NineSaintsModel", "louder", "(II)I"⟩, 91) := ⟨⟨by decide +kernel, by decide +kernel⟩, List.mem_of_getElem? (i := 1329) (by decide +kernel), List.mem_of_getElem? (i := 1966) (by decide +kernel), List.mem_of_getElem? (i := 1967) (by decide +kernel)⟩
theorem lw_p129 : lw_okq (⟨"NineSaintsModel", "arePetalsIn", "(III)Z"⟩, 91) := ⟨⟨by decide +kernel, by decide +kernel⟩, List.mem_of_getElem? (i := 1329) (by decide +kernel), List.mem_of_getElem? (i := 1970) (by decide +kernel), List.mem_of_getElem? (i := 1971) (by decide +kernel)⟩
theorem lw_p130 : lw_okq (⟨"NineSaintsModel", "isUpon", "(III)Z"⟩, 91) := ⟨⟨by decide +kernel, by decide +kernel⟩, List.mem_of_getElem? (i := 1329) (by decide +kernel), List.mem_of_getElem? (i := 1974) (by decide +kernel), List.mem_of_getElem? (i := 1975) (by decide +kernel)⟩
theorem lw_p131 : lw_okq (⟨"NineSaintsModel", "isExcepted", "(IIIII)Z"⟩, 91) := ⟨⟨by decide +kernel, by decide +kernel⟩, List.mem_of_getElem? (i := 1329) (by decide +kernel), List.mem_of_getElem? (i := 1978) (by decide +kernel), List.mem_of_getElem? (i := 1979) (by decide +kernel)⟩
theorem lw_p132 : lw_okq (⟨"NineSaintsModel", "holds", "(I)Z"⟩, 91) := ⟨⟨by decide +kernel, by decide +kernel⟩, List.mem_of_getElem? (i := 1329) (by decide +kernel), List.mem_of_getElem? (i := 1982) (by decide +kernel), List.mem_of_getElem? (i := 1983) (by decide +kernel)⟩
theorem lw_p133 : lw_okq (⟨"NineSaintsModel", "puts", "(J)V"⟩, 91) := ⟨⟨by decide +kernel, by decide +kernel⟩, List.mem_of_getElem? (i := 1329) (by decide +kernel), List.mem_of_getElem? (i := 1986) (by decide +kernel), List.mem_of_getElem? (i := 1987) (by decide +kernel)⟩
theorem lw_p134 : lw_okq (⟨"NineSaintsModel", "joins", "(I)V"⟩, 91) := ⟨⟨by decide +kernel, by decide +kernel⟩, List.mem_of_getElem? (i := 1329) (by decide +kernel), List.mem_of_getElem? (i := 1992) (by decide +kernel), List.mem_of_getElem? (i := 1993) (by decide +kernel)⟩
theorem lw_p135 : lw_okq (⟨"NineSaintsModel", "isPleased", "(I)Z"⟩, 91) := ⟨⟨by decide +kernel, by decide +kernel⟩, List.mem_of_getElem? (i := 1329) (by decide +kernel), List.mem_of_getElem? (i := 2016) (by decide +kernel), List.mem_of_getElem? (i := 2017) (by decide +kernel)⟩
theorem lw_p136 : lw_okq (⟨"NineSaintsModel", "wordsOf", "(I)I"⟩, 91) := ⟨⟨by decide +kernel, by decide +kernel⟩, List.mem_of_getElem? (i := 1329) (by decide +kernel), List.mem_of_getElem? (i := 2032) (by decide +kernel), List.mem_of_getElem? (i := 2033) (by decide +kernel)⟩
theorem lw_p137 : lw_okq (⟨"NineSaintsModel", "isLawful", "()Z"⟩, 91) := ⟨⟨by decide +kernel, by decide +kernel⟩, List.mem_of_getElem? (i := 1329) (by decide +kernel), List.mem_of_getElem? (i := 2036) (by decide +kernel), List.mem_of_getElem? (i := 2037) (by decide +kernel)⟩
theorem lw_p138 : lw_okq (⟨"NineSaintsModel", "areLawful", "(II)Z"⟩, 91) := ⟨⟨by decide +kernel, by decide +kernel⟩, List.mem_of_getElem? (i := 1329) (by decide +kernel), List.mem_of_getElem? (i := 2040) (by decide +kernel), List.mem_of_getElem? (i := 2041) (by decide +kernel)⟩
theorem lw_p139 : lw_okq (⟨"NineSaintsModel", "areQuiet", "(II)Z"⟩, 91) := ⟨⟨by decide +kernel, by decide +kernel⟩, List.mem_of_getElem? (i := 1329) (by decide +kernel), List.mem_of_getElem? (i := 2044) (by decide +kernel), List.mem_of_getElem? (i := 2045) (by decide +kernel)⟩
theorem lw_p140 : lw_okq (⟨"NineSaintsModel", "fromOf", "(II)I"⟩, 91) := ⟨⟨by decide +kernel, by decide +kernel⟩, List.mem_of_getElem? (i := 1329) (by decide +kernel), List.mem_of_getElem? (i := 2048) (by decide +kernel), List.mem_of_getElem? (i := 2049) (by decide +kernel)⟩
theorem lw_p141 : lw_okq (⟨"NineSaintsModel", "staysTo", "(II)I"⟩, 91) := ⟨⟨by decide +kernel, by decide +kernel⟩, List.mem_of_getElem? (i := 1329) (by decide +kernel), List.mem_of_getElem? (i := 2052) (by decide +kernel), List.mem_of_getElem? (i := 2053) (by decide +kernel)⟩
theorem lw_p142 : lw_okq (⟨"NineSaintsModel", "isOff", "(II)Z"⟩, 91) := ⟨⟨by decide +kernel, by decide +kernel⟩, List.mem_of_getElem? (i := 1329) (by decide +kernel), List.mem_of_getElem? (i := 2062) (by decide +kernel), List.mem_of_getElem? (i := 2063) (by decide +kernel)⟩
theorem lw_p143 : lw_okq (⟨"NineSaintsModel", "trodden", "()I"⟩, 91) := ⟨⟨by decide +kernel, by decide +kernel⟩, List.mem_of_getElem? (i := 1329) (by decide +kernel), List.mem_of_getElem? (i := 2074) (by decide +kernel), List.mem_of_getElem? (i := 2075) (by decide +kernel)⟩
def lw_privs_9 : List (MethodName × Nat) := [(⟨"NineSaintsModel", "louder", "(II)I"⟩, 91), (⟨"NineSaintsModel", "arePetalsIn", "(III)Z"⟩, 91), (⟨"NineSaintsModel", "isUpon", "(III)Z"⟩, 91), (⟨"NineSaintsModel", "isExcepted", "(IIIII)Z"⟩, 91), (⟨"NineSaintsModel", "holds", "(I)Z"⟩, 91), (⟨"NineSaintsModel", "puts", "(J)V"⟩, 91), (⟨"NineSaintsModel", "joins", "(I)V"⟩, 91), (⟨"NineSaintsModel", "isPleased", "(I)Z"⟩, 91), (⟨"NineSaintsModel", "wordsOf", "(I)I"⟩, 91), (⟨"NineSaintsModel", "isLawful", "()Z"⟩, 91), (⟨"NineSaintsModel", "areLawful", "(II)Z"⟩, 91), (⟨"NineSaintsModel", "areQuiet", "(II)Z"⟩, 91), (⟨"NineSaintsModel", "fromOf", "(II)I"⟩, 91), (⟨"NineSaintsModel", "staysTo", "(II)I"⟩, 91), (⟨"NineSaintsModel", "isOff", "(II)Z"⟩, 91), (⟨"NineSaintsModel", "trodden", "()I"⟩, 91)]
theorem lw_r9 : ∀ q ∈ lw_privs_9, lw_okq q := List.forall_mem_cons.mpr ⟨lw_p128, List.forall_mem_cons.mpr ⟨lw_p129, List.forall_mem_cons.mpr ⟨lw_p130, List.forall_mem_cons.mpr ⟨lw_p131, List.forall_mem_cons.mpr ⟨lw_p132, List.forall_mem_cons.mpr ⟨lw_p133, List.forall_mem_cons.mpr ⟨lw_p134, List.forall_mem_cons.mpr ⟨lw_p135, List.forall_mem_cons.mpr ⟨lw_p136, List.forall_mem_cons.mpr ⟨lw_p137, List.forall_mem_cons.mpr ⟨lw_p138, List.forall_mem_cons.mpr ⟨lw_p139, List.forall_mem_cons.mpr ⟨lw_p140, List.forall_mem_cons.mpr ⟨lw_p141, List.forall_mem_cons.mpr ⟨lw_p142, List.forall_mem_cons.mpr ⟨lw_p143, fun _ h => absurd h List.not_mem_nil⟩⟩⟩⟩⟩⟩⟩⟩⟩⟩⟩⟩⟩⟩⟩⟩
theorem lw_p144 : lw_okq (⟨"NineSaintsModel", "routesOf", "(I)V"⟩, 91) := ⟨⟨by decide +kernel, by decide +kernel⟩, List.mem_of_getElem? (i := 1329) (by decide +kernel), List.mem_of_getElem? (i := 2085) (by decide +kernel), List.mem_of_getElem? (i := 2086) (by decide +kernel)⟩
theorem lw_p145 : lw_okq (⟨"NineSaintsModel", "usedBy", "(I)I"⟩, 91) := ⟨⟨by decide +kernel, by decide +kernel⟩, List.mem_of_getElem? (i := 1329) (by decide +kernel), List.mem_of_getElem? (i := 2089) (by decide +kernel), List.mem_of_getElem? (i := 2090) (by decide +kernel)⟩
theorem lw_p146 : lw_okq (⟨"NineSaintsModel", "canCome", "(III)Z"⟩, 91) := ⟨⟨by decide +kernel, by decide +kernel⟩, List.mem_of_getElem? (i := 1329) (by decide +kernel), List.mem_of_getElem? (i := 2093) (by decide +kernel), List.mem_of_getElem? (i := 2094) (by decide +kernel)⟩
theorem lw_p147 : lw_okq (⟨"NineSaintsModel", "options", "()V"⟩, 91) := ⟨⟨by decide +kernel, by decide +kernel⟩, List.mem_of_getElem? (i := 1329) (by decide +kernel), List.mem_of_getElem? (i := 2105) (by decide +kernel), List.mem_of_getElem? (i := 2106) (by decide +kernel)⟩
theorem lw_p148 : lw_okq (⟨"NineSaintsModel", "optionsOf", "(I)V"⟩, 91) := ⟨⟨by decide +kernel, by decide +kernel⟩, List.mem_of_getElem? (i := 1329) (by decide +kernel), List.mem_of_getElem? (i := 2109) (by decide +kernel), List.mem_of_getElem? (i := 2110) (by decide +kernel)⟩
theorem lw_p149 : lw_okq (⟨"NineSaintsModel", "everybody", "()I"⟩, 91) := ⟨⟨by decide +kernel, by decide +kernel⟩, List.mem_of_getElem? (i := 1329) (by decide +kernel), List.mem_of_getElem? (i := 2116) (by decide +kernel), List.mem_of_getElem? (i := 2117) (by decide +kernel)⟩
theorem lw_p150 : lw_okq (⟨"NineSaintsModel", "isChosen", "(IZZ)Z"⟩, 91) := ⟨⟨by decide +kernel, by decide +kernel⟩, List.mem_of_getElem? (i := 1329) (by decide +kernel), List.mem_of_getElem? (i := 2120) (by decide +kernel), List.mem_of_getElem? (i := 2121) (by decide +kernel)⟩
theorem lw_p151 : lw_okq (⟨"NineSaintsModel", "endsTo", "(II)I"⟩, 91) := ⟨⟨by decide +kernel, by decide +kernel⟩, List.mem_of_getElem? (i := 1329) (by decide +kernel), List.mem_of_getElem? (i := 2124) (by decide +kernel), List.mem_of_getElem? (i := 2125) (by decide +kernel)⟩
theorem lw_p152 : lw_okq (⟨"NineSaintsModel", "wayBy", "(I)I"⟩, 91) := ⟨⟨by decide +kernel, by decide +kernel⟩, List.mem_of_getElem? (i := 1329) (by decide +kernel), List.mem_of_getElem? (i := 2128) (by decide +kernel), List.mem_of_getElem? (i := 2129) (by decide +kernel)⟩
theorem lw_p153 : lw_okq (⟨"NineSaintsModel", "changesTo", "(II)I"⟩, 91) := ⟨⟨by decide +kernel, by decide +kernel⟩, List.mem_of_getElem? (i := 1329) (by decide +kernel), List.mem_of_getElem? (i := 2132) (by decide +kernel), List.mem_of_getElem? (i := 2133) (by decide +kernel)⟩
theorem lw_p154 : lw_okq (⟨"NineSaintsModel", "lastOf", "(II)I"⟩, 91) := ⟨⟨by decide +kernel, by decide +kernel⟩, List.mem_of_getElem? (i := 1329) (by decide +kernel), List.mem_of_getElem? (i := 2136) (by decide +kernel), List.mem_of_getElem? (i := 2137) (by decide +kernel)⟩
theorem lw_p155 : lw_okq (⟨"NineSaintsModel", "optionMany", "(I)I"⟩, 91) := ⟨⟨by decide +kernel, by decide +kernel⟩, List.mem_of_getElem? (i := 1329) (by decide +kernel), List.mem_of_getElem? (i := 2140) (by decide +kernel), List.mem_of_getElem? (i := 2141) (by decide +kernel)⟩
theorem lw_p156 : lw_okq (⟨"NineSaintsModel", "fits", "(IIZ)Z"⟩, 91) := ⟨⟨by decide +kernel, by decide +kernel⟩, List.mem_of_getElem? (i := 1329) (by decide +kernel), List.mem_of_getElem? (i := 2144) (by decide +kernel), List.mem_of_getElem? (i := 2145) (by decide +kernel)⟩
theorem lw_p157 : lw_okq (⟨"NineSaintsModel", "isWhole", "(I)Z"⟩, 91) := ⟨⟨by decide +kernel, by decide +kernel⟩, List.mem_of_getElem? (i := 1329) (by decide +kernel), List.mem_of_getElem? (i := 2148) (by decide +kernel), List.mem_of_getElem? (i := 2149) (by decide +kernel)⟩
theorem lw_p158 : lw_okq (⟨"NineSaintsModel", "areKnown", "(II)Z"⟩, 91) := ⟨⟨by decide +kernel, by decide +kernel⟩, List.mem_of_getElem? (i := 1329) (by decide +kernel), List.mem_of_getElem? (i := 2152) (by decide +kernel), List.mem_of_getElem? (i := 2153) (by decide +kernel)⟩
theorem lw_p159 : lw_okq (⟨"NineSaintsModel", "canBeBetter", "(IIZ)Z"⟩, 91) := ⟨⟨by decide +kernel, by decide +kernel⟩, List.mem_of_getElem? (i := 1329) (by decide +kernel), List.mem_of_getElem? (i := 2156) (by decide +kernel), List.mem_of_getElem? (i := 2157) (by decide +kernel)⟩
def lw_privs_10 : List (MethodName × Nat) := [(⟨"NineSaintsModel", "routesOf", "(I)V"⟩, 91), (⟨"NineSaintsModel", "usedBy", "(I)I"⟩, 91), (⟨"NineSaintsModel", "canCome", "(III)Z"⟩, 91), (⟨"NineSaintsModel", "options", "()V"⟩, 91), (⟨"NineSaintsModel", "optionsOf", "(I)V"⟩, 91), (⟨"NineSaintsModel", "everybody", "()I"⟩, 91), (⟨"NineSaintsModel", "isChosen", "(IZZ)Z"⟩, 91), (⟨"NineSaintsModel", "endsTo", "(II)I"⟩, 91), (⟨"NineSaintsModel", "wayBy", "(I)I"⟩, 91), (⟨"NineSaintsModel", "changesTo", "(II)I"⟩, 91), (⟨"NineSaintsModel", "lastOf", "(II)I"⟩, 91), (⟨"NineSaintsModel", "optionMany", "(I)I"⟩, 91), (⟨"NineSaintsModel", "fits", "(IIZ)Z"⟩, 91), (⟨"NineSaintsModel", "isWhole", "(I)Z"⟩, 91), (⟨"NineSaintsModel", "areKnown", "(II)Z"⟩, 91), (⟨"NineSaintsModel", "canBeBetter", "(IIZ)Z"⟩, 91)]
theorem lw_r10 : ∀ q ∈ lw_privs_10, lw_okq q := List.forall_mem_cons.mpr ⟨lw_p144, List.forall_mem_cons.mpr ⟨lw_p145, List.forall_mem_cons.mpr ⟨lw_p146, List.forall_mem_cons.mpr ⟨lw_p147, List.forall_mem_cons.mpr ⟨lw_p148, List.forall_mem_cons.mpr ⟨lw_p149, List.forall_mem_cons.mpr ⟨lw_p150, List.forall_mem_cons.mpr ⟨lw_p151, List.forall_mem_cons.mpr ⟨lw_p152, List.forall_mem_cons.mpr ⟨lw_p153, List.forall_mem_cons.mpr ⟨lw_p154, List.forall_mem_cons.mpr ⟨lw_p155, List.forall_mem_cons.mpr ⟨lw_p156, List.forall_mem_cons.mpr ⟨lw_p157, List.forall_mem_cons.mpr ⟨lw_p158, List.forall_mem_cons.mpr ⟨lw_p159, fun _ h => absurd h List.not_mem_nil⟩⟩⟩⟩⟩⟩⟩⟩⟩⟩⟩⟩⟩⟩⟩⟩
theorem lw_p160 : lw_okq (⟨"NineSaintsModel", "comesTo", "(II)V"⟩, 91) := ⟨⟨by decide +kernel, by decide +kernel⟩, List.mem_of_getElem? (i := 1329) (by decide +kernel), List.mem_of_getElem? (i := 2168) (by decide +kernel), List.mem_of_getElem? (i := 2169) (by decide +kernel)⟩
theorem lw_p161 : lw_okq (⟨"NineSaintsModel", "isAlone", "(II)Z"⟩, 91) := ⟨⟨by decide +kernel, by decide +kernel⟩, List.mem_of_getElem? (i := 1329) (by decide +kernel), List.mem_of_getElem? (i := 2180) (by decide +kernel), List.mem_of_getElem? (i := 2181) (by decide +kernel)⟩
theorem lw_p162 : lw_okq (⟨"NineSaintsModel", "leastAlone", "(I)I"⟩, 91) := ⟨⟨by decide +kernel, by decide +kernel⟩, List.mem_of_getElem? (i := 1329) (by decide +kernel), List.mem_of_getElem? (i := 2188) (by decide +kernel), List.mem_of_getElem? (i := 2189) (by decide +kernel)⟩
theorem lw_p163 : lw_okq (⟨"NineSaintsModel", "isOrder", "(I)Z"⟩, 91) := ⟨⟨by decide +kernel, by decide +kernel⟩, List.mem_of_getElem? (i := 1329) (by decide +kernel), List.mem_of_getElem? (i := 2192) (by decide +kernel), List.mem_of_getElem? (i := 2193) (by decide +kernel)⟩
theorem lw_p164 : lw_okq (⟨"NineSaintsModel", "getsBeside", "(I)I"⟩, 91) := ⟨⟨by decide +kernel, by decide +kernel⟩, List.mem_of_getElem? (i := 1329) (by decide +kernel), List.mem_of_getElem? (i := 2196) (by decide +kernel), List.mem_of_getElem? (i := 2197) (by decide +kernel)⟩
theorem lw_p165 : lw_okq (⟨"NineSaintsModel", "dawns", "(II)V"⟩, 91) := ⟨⟨by decide +kernel, by decide +kernel⟩, List.mem_of_getElem? (i := 1329) (by decide +kernel), List.mem_of_getElem? (i := 2205) (by decide +kernel), List.mem_of_getElem? (i := 2206) (by decide +kernel)⟩
theorem lw_p166 : lw_okq (⟨"NineSaintsModel", "choicesOf", "(I)I"⟩, 91) := ⟨⟨by decide +kernel, by decide +kernel⟩, List.mem_of_getElem? (i := 1329) (by decide +kernel), List.mem_of_getElem? (i := 2209) (by decide +kernel), List.mem_of_getElem? (i := 2210) (by decide +kernel)⟩
theorem lw_p167 : lw_okq (⟨"NineSaintsModel", "writes", "(I)V"⟩, 91) := ⟨⟨by decide +kernel, by decide +kernel⟩, List.mem_of_getElem? (i := 1329) (by decide +kernel), List.mem_of_getElem? (i := 2217) (by decide +kernel), List.mem_of_getElem? (i := 2218) (by decide +kernel)⟩
theorem lw_p168 : lw_okq (⟨"NineSaintsModel", "isTold", "(I)Z"⟩, 91) := ⟨⟨by decide +kernel, by decide +kernel⟩, List.mem_of_getElem? (i := 1329) (by decide +kernel), List.mem_of_getElem? (i := 2232) (by decide +kernel), List.mem_of_getElem? (i := 2233) (by decide +kernel)⟩
theorem lw_p169 : lw_okq (⟨"NineSaintsModel", "isStepTold", "(II)Z"⟩, 91) := ⟨⟨by decide +kernel, by decide +kernel⟩, List.mem_of_getElem? (i := 1329) (by decide +kernel), List.mem_of_getElem? (i := 2236) (by decide +kernel), List.mem_of_getElem? (i := 2237) (by decide +kernel)⟩
def lw_privs_11 : List (MethodName × Nat) := [(⟨"NineSaintsModel", "comesTo", "(II)V"⟩, 91), (⟨"NineSaintsModel", "isAlone", "(II)Z"⟩, 91), (⟨"NineSaintsModel", "leastAlone", "(I)I"⟩, 91), (⟨"NineSaintsModel", "isOrder", "(I)Z"⟩, 91), (⟨"NineSaintsModel", "getsBeside", "(I)I"⟩, 91), (⟨"NineSaintsModel", "dawns", "(II)V"⟩, 91), (⟨"NineSaintsModel", "choicesOf", "(I)I"⟩, 91), (⟨"NineSaintsModel", "writes", "(I)V"⟩, 91), (⟨"NineSaintsModel", "isTold", "(I)Z"⟩, 91), (⟨"NineSaintsModel", "isStepTold", "(II)Z"⟩, 91)]
theorem lw_r11 : ∀ q ∈ lw_privs_11, lw_okq q := List.forall_mem_cons.mpr ⟨lw_p160, List.forall_mem_cons.mpr ⟨lw_p161, List.forall_mem_cons.mpr ⟨lw_p162, List.forall_mem_cons.mpr ⟨lw_p163, List.forall_mem_cons.mpr ⟨lw_p164, List.forall_mem_cons.mpr ⟨lw_p165, List.forall_mem_cons.mpr ⟨lw_p166, List.forall_mem_cons.mpr ⟨lw_p167, List.forall_mem_cons.mpr ⟨lw_p168, List.forall_mem_cons.mpr ⟨lw_p169, fun _ h => absurd h List.not_mem_nil⟩⟩⟩⟩⟩⟩⟩⟩⟩⟩
def lw_privs : List (MethodName × Nat) := lw_privs_1 ++ (lw_privs_2 ++ (lw_privs_3 ++ (lw_privs_4 ++ (lw_privs_5 ++ (lw_privs_6 ++ (lw_privs_7 ++ (lw_privs_8 ++ (lw_privs_9 ++ (lw_privs_10 ++ (lw_privs_11))))))))))
def lw_tbl : List Cond := k2_sels lw_privs ++ tables_1
theorem lw_privs_ok : ∀ q ∈ lw_privs, lw_okq q := by
  show ∀ q ∈ lw_privs_1 ++ (lw_privs_2 ++ (lw_privs_3 ++ (lw_privs_4 ++ (lw_privs_5 ++ (lw_privs_6 ++ (lw_privs_7 ++ (lw_privs_8 ++ (lw_privs_9 ++ (lw_privs_10 ++ (lw_privs_11)))))))))), lw_okq q
  exact List.forall_mem_append.mpr ⟨lw_r1, List.forall_mem_append.mpr ⟨lw_r2, List.forall_mem_append.mpr ⟨lw_r3, List.forall_mem_append.mpr ⟨lw_r4, List.forall_mem_append.mpr ⟨lw_r5, List.forall_mem_append.mpr ⟨lw_r6, List.forall_mem_append.mpr ⟨lw_r7, List.forall_mem_append.mpr ⟨lw_r8, List.forall_mem_append.mpr ⟨lw_r9, List.forall_mem_append.mpr ⟨lw_r10, lw_r11⟩⟩⟩⟩⟩⟩⟩⟩⟩⟩
/-! ===== BEGIN words of one list among another's, by their places ===== -/
theorem goodIn_r {big : List Cond} (ws : List Cond) (ps : List Nat) (hp : ws = ps.filterMap (fun i => big[i]?)) (h : ws.all goodWord = true) : GoodIn big ws := by
  intro w hw
  have h1 := List.all_eq_true.mp h w hw
  rw [hp] at hw
  obtain ⟨i, -, hi⟩ := List.mem_filterMap.mp hw
  have hm : w ∈ big := by first | exact List.mem_of_getElem? hi | exact List.getElem?_mem hi
  exact ⟨hm, good_of_word h1⟩
theorem goodIn_app {big a b : List Cond} (ha : GoodIn big a) (hb : GoodIn big b) : GoodIn big (a ++ b) := fun w h => (List.mem_append.mp h).elim (ha w) (hb w)
theorem goodIn_ca {big a b : List Cond} {c : Cond} (ha : GoodIn big (c :: a)) (hb : GoodIn big b) : GoodIn big (c :: (a ++ b)) := fun w h => (List.mem_cons.mp h).elim (fun e => ha w (List.mem_cons.mpr (Or.inl e))) (fun h => (List.mem_append.mp h).elim (fun h => ha w (List.mem_cons.mpr (Or.inr h))) (hb w))
theorem goodIn_sub {big ws : List Cond} (hm : ∀ w ∈ ws, w ∈ big) (h : ws.all goodWord = true) : GoodIn big ws := fun w hw => ⟨hm w hw, good_of_word (List.all_eq_true.mp h w hw)⟩
/-! ===== END ===== -/

/-! ===== BEGIN printed: names, fields, word lists, decode rows ===== -/
def RX0 : String := "NineSaints$City"
def TX0 : u_T := fun k => match k with
  | 0 => ("NineSaints$City", "counts", "[I", true)
  | 1 => ("NineSaints$City", "cornerNames", "[I", true)
  | 2 => ("NineSaints$City", "saintNames", "[I", true)
  | 3 => ("NineSaints$City", "parish", "[I", true)
  | 4 => ("NineSaints$City", "lanes", "[I", true)
  | 5 => ("NineSaints$City", "saints", "[I", true)
  | 6 => ("NineSaints$City", "balconies", "[I", true)
  | 7 => ("NineSaints$City", "code", "[I", true)
  | 8 => ("NineSaints$City", "codeEnds", "[I", true)
  | 9 => ("NineSaints$City", "wordCounts", "[I", true)
  | 10 => ("NineSaints$City", "laneBetween", "[I", true)
  | 11 => ("NineSaints$City", "soundBetween", "[I", true)
  | 12 => ("NineSaints$City", "parishBits", "I", false)
  | _ => ("NineSaints$City", "rain", "I", false)
def tyX0 : Nat → FieldType := fun k => match k with
  | 0 => .array .int
  | 1 => .array .int
  | 2 => .array .int
  | 3 => .array .int
  | 4 => .array .int
  | 5 => .array .int
  | 6 => .array .int
  | 7 => .array .int
  | 8 => .array .int
  | 9 => .array .int
  | 10 => .array .int
  | 11 => .array .int
  | 12 => .int
  | _ => .int
abbrev wsX00 : List Cond := u_ws RX0 TX0 14
theorem nmX0 : ∀ a, a < 14 → ∀ b, b < 14 → a ≠ b → (TX0 a).2.1 ≠ (TX0 b).2.1 := by decide +kernel
theorem tyX0_ok : ∀ k, k < 14 → parseFieldDescriptor (TX0 k).2.2.1 = some (tyX0 k) := by decide +kernel
abbrev cX0_init : ByteArray := prog_2_method_1_code
def yX0_init : MethodName := ⟨RX0, "<init>", "()V"⟩
abbrev cX0_empty : ByteArray := prog_2_method_2_code
def yX0_empty : MethodName := ⟨RX0, "empty", "()V"⟩
abbrev cX0_copyFrom : ByteArray := prog_2_method_3_code
def yX0_copyFrom : MethodName := ⟨RX0, "copyFrom", "(LNineSaints$City;)V"⟩
abbrev cX0_copyRow : ByteArray := prog_2_method_4_code
def yX0_copyRow : MethodName := ⟨RX0, "copyRow", "([I[I)V"⟩
abbrev cX0_addLane : ByteArray := prog_2_method_5_code
def yX0_addLane : MethodName := ⟨RX0, "addLane", "(IIII)V"⟩
abbrev cX0_settle : ByteArray := prog_2_method_6_code
def yX0_settle : MethodName := ⟨RX0, "settle", "()V"⟩
abbrev cX0_hearThrough : ByteArray := prog_2_method_7_code
def yX0_hearThrough : MethodName := ⟨RX0, "hearThrough", "(I)V"⟩
abbrev cX0_greaterLoud : ByteArray := prog_2_method_8_code
def yX0_greaterLoud : MethodName := ⟨RX0, "greaterLoud", "(II)I"⟩
abbrev cX0_minutesOf : ByteArray := prog_2_method_9_code
def yX0_minutesOf : MethodName := ⟨RX0, "minutesOf", "(II)I"⟩
abbrev cX0_lastPetals : ByteArray := prog_2_method_10_code
def yX0_lastPetals : MethodName := ⟨RX0, "lastPetals", "(II)I"⟩
abbrev cX0_petalsOf : ByteArray := prog_2_method_11_code
def yX0_petalsOf : MethodName := ⟨RX0, "petalsOf", "(ILNineSaints$Track;II)I"⟩
abbrev cX0_wordsOf : ByteArray := prog_2_method_12_code
def yX0_wordsOf : MethodName := ⟨RX0, "wordsOf", "(I)I"⟩
def RX1 : String := "NineSaints$Custom"
def TX1 : u_T := fun k => match k with
  | 0 => ("NineSaints$Custom", "city", "LNineSaints$City;", true)
  | 1 => ("NineSaints$Custom", "held", "[J", true)
  | 2 => ("NineSaints$Custom", "heldSince", "[I", true)
  | 3 => ("NineSaints$Custom", "stack", "[I", true)
  | 4 => ("NineSaints$Custom", "facts", "[I", true)
  | 5 => ("NineSaints$Custom", "cities", "I", false)
  | _ => ("NineSaints$Custom", "minuteAsked", "Z", false)
def tyX1 : Nat → FieldType := fun k => match k with
  | 0 => .object "NineSaints$City"
  | 1 => .array .long
  | 2 => .array .int
  | 3 => .array .int
  | 4 => .array .int
  | 5 => .int
  | _ => .boolean
abbrev wsX10 : List Cond := u_ws RX1 TX1 7
theorem nmX1 : ∀ a, a < 7 → ∀ b, b < 7 → a ≠ b → (TX1 a).2.1 ≠ (TX1 b).2.1 := by decide +kernel
theorem tyX1_ok : ∀ k, k < 7 → parseFieldDescriptor (TX1 k).2.2.1 = some (tyX1 k) := by decide +kernel
abbrev cX1_init : ByteArray := prog_3_method_1_code
def yX1_init : MethodName := ⟨RX1, "<init>", "(LNineSaints$City;)V"⟩
abbrev cX1_forget : ByteArray := prog_3_method_2_code
def yX1_forget : MethodName := ⟨RX1, "forget", "()V"⟩
abbrev cX1_holding : ByteArray := prog_3_method_3_code
def yX1_holding : MethodName := ⟨RX1, "holding", "(IIII)I"⟩
abbrev cX1_firstUnexcused : ByteArray := prog_3_method_4_code
def yX1_firstUnexcused : MethodName := ⟨RX1, "firstUnexcused", "(LNineSaints$Meetings;II)I"⟩
abbrev cX1_wordsOf : ByteArray := prog_3_method_5_code
def yX1_wordsOf : MethodName := ⟨RX1, "wordsOf", "(IIII)I"⟩
abbrev cX1_holds : ByteArray := prog_3_method_6_code
def yX1_holds : MethodName := ⟨RX1, "holds", "(I)Z"⟩
def RX2 : String := "NineSaints$Dawn"
def TX2 : u_T := fun k => match k with
  | 0 => ("NineSaints$Dawn", "city", "LNineSaints$City;", true)
  | 1 => ("NineSaints$Dawn", "options", "LNineSaints$Options;", true)
  | 2 => ("NineSaints$Dawn", "left", "[I", true)
  | 3 => ("NineSaints$Dawn", "size", "[I", true)
  | 4 => ("NineSaints$Dawn", "gone", "[I", true)
  | 5 => ("NineSaints$Dawn", "out", "[Z", true)
  | 6 => ("NineSaints$Dawn", "heaps", "[I", true)
  | 7 => ("NineSaints$Dawn", "nights", "I", false)
  | 8 => ("NineSaints$Dawn", "alwaysGone", "I", false)
  | _ => ("NineSaints$Dawn", "sometimesOut", "I", false)
def tyX2 : Nat → FieldType := fun k => match k with
  | 0 => .object "NineSaints$City"
  | 1 => .object "NineSaints$Options"
  | 2 => .array .int
  | 3 => .array .int
  | 4 => .array .int
  | 5 => .array .boolean
  | 6 => .array .int
  | 7 => .int
  | 8 => .int
  | _ => .int
abbrev wsX20 : List Cond := u_ws RX2 TX2 10
theorem nmX2 : ∀ a, a < 10 → ∀ b, b < 10 → a ≠ b → (TX2 a).2.1 ≠ (TX2 b).2.1 := by decide +kernel
theorem tyX2_ok : ∀ k, k < 10 → parseFieldDescriptor (TX2 k).2.2.1 = some (tyX2 k) := by decide +kernel
abbrev cX2_init : ByteArray := prog_4_method_1_code
def yX2_init : MethodName := ⟨RX2, "<init>", "(LNineSaints$City;LNineSaints$Options;)V"⟩
abbrev cX2_look : ByteArray := prog_4_method_2_code
def yX2_look : MethodName := ⟨RX2, "look", "(II)V"⟩
abbrev cX2_heap : ByteArray := prog_4_method_3_code
def yX2_heap : MethodName := ⟨RX2, "heap", "(IIIZ)V"⟩
abbrev cX2_count : ByteArray := prog_4_method_4_code
def yX2_count : MethodName := ⟨RX2, "count", "(I)V"⟩
def RX3 : String := "NineSaints$Meetings"
def TX3 : u_T := fun k => match k with
  | 0 => ("NineSaints$Meetings", "city", "LNineSaints$City;", true)
  | 1 => ("NineSaints$Meetings", "from", "[I", true)
  | 2 => ("NineSaints$Meetings", "to", "[I", true)
  | 3 => ("NineSaints$Meetings", "slot", "[I", true)
  | 4 => ("NineSaints$Meetings", "lane", "[I", true)
  | 5 => ("NineSaints$Meetings", "count", "I", false)
  | 6 => ("NineSaints$Meetings", "most", "I", false)
  | 7 => ("NineSaints$Meetings", "lesser", "I", false)
  | _ => ("NineSaints$Meetings", "greater", "I", false)
def tyX3 : Nat → FieldType := fun k => match k with
  | 0 => .object "NineSaints$City"
  | 1 => .array .int
  | 2 => .array .int
  | 3 => .array .int
  | 4 => .array .int
  | 5 => .int
  | 6 => .int
  | 7 => .int
  | _ => .int
abbrev wsX30 : List Cond := u_ws RX3 TX3 9
theorem nmX3 : ∀ a, a < 9 → ∀ b, b < 9 → a ≠ b → (TX3 a).2.1 ≠ (TX3 b).2.1 := by decide +kernel
theorem tyX3_ok : ∀ k, k < 9 → parseFieldDescriptor (TX3 k).2.2.1 = some (tyX3 k) := by decide +kernel
abbrev cX3_init : ByteArray := prog_5_method_1_code
def yX3_init : MethodName := ⟨RX3, "<init>", "(LNineSaints$City;)V"⟩
abbrev cX3_scanAll : ByteArray := prog_5_method_2_code
def yX3_scanAll : MethodName := ⟨RX3, "scanAll", "(II[LNineSaints$Track;)V"⟩
abbrev cX3_scan : ByteArray := prog_5_method_3_code
def yX3_scan : MethodName := ⟨RX3, "scan", "(ILNineSaints$Track;IILNineSaints$Track;I)V"⟩
abbrev cX3_drums : ByteArray := prog_5_method_4_code
def yX3_drums : MethodName := ⟨RX3, "drums", "(ILNineSaints$Track;ILNineSaints$Track;I)V"⟩
abbrev cX3_trodden : ByteArray := prog_5_method_5_code
def yX3_trodden : MethodName := ⟨RX3, "trodden", "(LNineSaints$Track;IILNineSaints$Track;I)V"⟩
abbrev cX3_add : ByteArray := prog_5_method_6_code
def yX3_add : MethodName := ⟨RX3, "add", "(IIII)V"⟩
def RX4 : String := "NineSaints$Night"
def TX4 : u_T := fun k => match k with
  | 0 => ("NineSaints$Night", "city", "LNineSaints$City;", true)
  | 1 => ("NineSaints$Night", "ways", "LNineSaints$Ways;", true)
  | 2 => ("NineSaints$Night", "met", "LNineSaints$Meetings;", true)
  | 3 => ("NineSaints$Night", "custom", "LNineSaints$Custom;", true)
  | 4 => ("NineSaints$Night", "marks", "[I", true)
  | _ => ("NineSaints$Night", "mark", "I", false)
def tyX4 : Nat → FieldType := fun k => match k with
  | 0 => .object "NineSaints$City"
  | 1 => .object "NineSaints$Ways"
  | 2 => .object "NineSaints$Meetings"
  | 3 => .object "NineSaints$Custom"
  | 4 => .array .int
  | _ => .int
abbrev wsX40 : List Cond := u_ws RX4 TX4 6
theorem nmX4 : ∀ a, a < 6 → ∀ b, b < 6 → a ≠ b → (TX4 a).2.1 ≠ (TX4 b).2.1 := by decide +kernel
theorem tyX4_ok : ∀ k, k < 6 → parseFieldDescriptor (TX4 k).2.2.1 = some (tyX4 k) := by decide +kernel
abbrev cX4_init : ByteArray := prog_6_method_1_code
def yX4_init : MethodName := ⟨RX4, "<init>", "(LNineSaints$City;LNineSaints$Ways;LNineSaints$Meetings;LNineSaints$Custom;)V"⟩
abbrev cX4_firstIn : ByteArray := prog_6_method_2_code
def yX4_firstIn : MethodName := ⟨RX4, "firstIn", "(II)I"⟩
abbrev cX4_firstClash : ByteArray := prog_6_method_3_code
def yX4_firstClash : MethodName := ⟨RX4, "firstClash", "(I)I"⟩
abbrev cX4_unexcusedOf : ByteArray := prog_6_method_4_code
def yX4_unexcusedOf : MethodName := ⟨RX4, "unexcusedOf", "(II)I"⟩
abbrev cX4_tally : ByteArray := prog_6_method_5_code
def yX4_tally : MethodName := ⟨RX4, "tally", "(I)I"⟩
abbrev cX4_tallyOf : ByteArray := prog_6_method_6_code
def yX4_tallyOf : MethodName := ⟨RX4, "tallyOf", "(III)I"⟩
abbrev cX4_firstMeeting : ByteArray := prog_6_method_7_code
def yX4_firstMeeting : MethodName := ⟨RX4, "firstMeeting", "(II)I"⟩
abbrev cX4_joy : ByteArray := prog_6_method_8_code
def yX4_joy : MethodName := ⟨RX4, "joy", "()I"⟩
abbrev cX4_pleases : ByteArray := prog_6_method_9_code
def yX4_pleases : MethodName := ⟨RX4, "pleases", "(II)Z"⟩
abbrev cX4_softest : ByteArray := prog_6_method_10_code
def yX4_softest : MethodName := ⟨RX4, "softest", "()I"⟩
abbrev cX4_heldSets : ByteArray := prog_6_method_11_code
def yX4_heldSets : MethodName := ⟨RX4, "heldSets", "(II)J"⟩
abbrev cX4_excuses : ByteArray := prog_6_method_12_code
def yX4_excuses : MethodName := ⟨RX4, "excuses", "(IJ)Z"⟩
abbrev cX4_foul : ByteArray := prog_6_method_13_code
def yX4_foul : MethodName := ⟨RX4, "foul", "()I"⟩
def RX5 : String := "NineSaints$Options"
def TX5 : u_T := fun k => match k with
  | 0 => ("NineSaints$Options", "city", "LNineSaints$City;", true)
  | 1 => ("NineSaints$Options", "ways", "LNineSaints$Ways;", true)
  | 2 => ("NineSaints$Options", "met", "LNineSaints$Meetings;", true)
  | 3 => ("NineSaints$Options", "custom", "LNineSaints$Custom;", true)
  | 4 => ("NineSaints$Options", "tracks", "[LNineSaints$Track;", true)
  | 5 => ("NineSaints$Options", "found", "[I", true)
  | 6 => ("NineSaints$Options", "ends", "[I", true)
  | 7 => ("NineSaints$Options", "ranked", "[I", true)
  | 8 => ("NineSaints$Options", "path", "[I", true)
  | 9 => ("NineSaints$Options", "known", "[J", true)
  | 10 => ("NineSaints$Options", "fits", "[J", true)
  | _ => ("NineSaints$Options", "version", "I", false)
def tyX5 : Nat → FieldType := fun k => match k with
  | 0 => .object "NineSaints$City"
  | 1 => .object "NineSaints$Ways"
  | 2 => .object "NineSaints$Meetings"
  | 3 => .object "NineSaints$Custom"
  | 4 => .array (.object "NineSaints$Track")
  | 5 => .array .int
  | 6 => .array .int
  | 7 => .array .int
  | 8 => .array .int
  | 9 => .array .long
  | 10 => .array .long
  | _ => .int
abbrev wsX50 : List Cond := u_ws RX5 TX5 12
theorem nmX5 : ∀ a, a < 12 → ∀ b, b < 12 → a ≠ b → (TX5 a).2.1 ≠ (TX5 b).2.1 := by decide +kernel
theorem tyX5_ok : ∀ k, k < 12 → parseFieldDescriptor (TX5 k).2.2.1 = some (tyX5 k) := by decide +kernel
abbrev cX5_init : ByteArray := prog_7_method_1_code
def yX5_init : MethodName := ⟨RX5, "<init>", "(LNineSaints$City;LNineSaints$Ways;LNineSaints$Meetings;LNineSaints$Custom;)V"⟩
abbrev cX5_prepare : ByteArray := prog_7_method_2_code
def yX5_prepare : MethodName := ⟨RX5, "prepare", "()V"⟩
abbrev cX5_forgetWays : ByteArray := prog_7_method_3_code
def yX5_forgetWays : MethodName := ⟨RX5, "forgetWays", "()V"⟩
abbrev cX5_explore : ByteArray := prog_7_method_4_code
def yX5_explore : MethodName := ⟨RX5, "explore", "(III)V"⟩
abbrev cX5_record : ByteArray := prog_7_method_5_code
def yX5_record : MethodName := ⟨RX5, "record", "(II)V"⟩
abbrev cX5_rank : ByteArray := prog_7_method_6_code
def yX5_rank : MethodName := ⟨RX5, "rank", "(I)V"⟩
abbrev cX5_routesOf : ByteArray := prog_7_method_7_code
def yX5_routesOf : MethodName := ⟨RX5, "routesOf", "(I)I"⟩
abbrev cX5_trackOf : ByteArray := prog_7_method_8_code
def yX5_trackOf : MethodName := ⟨RX5, "trackOf", "(II)LNineSaints$Track;"⟩
abbrev cX5_lateOf : ByteArray := prog_7_method_9_code
def yX5_lateOf : MethodName := ⟨RX5, "lateOf", "(I)I"⟩
abbrev cX5_endOf : ByteArray := prog_7_method_10_code
def yX5_endOf : MethodName := ⟨RX5, "endOf", "(II)I"⟩
abbrev cX5_optionBits : ByteArray := prog_7_method_11_code
def yX5_optionBits : MethodName := ⟨RX5, "optionBits", "(I)J"⟩
abbrev cX5_fitting : ByteArray := prog_7_method_12_code
def yX5_fitting : MethodName := ⟨RX5, "fitting", "(IIIJ)J"⟩
abbrev cX5_judged : ByteArray := prog_7_method_13_code
def yX5_judged : MethodName := ⟨RX5, "judged", "(IIII)Z"⟩
def RX6 : String := "NineSaints$Planner"
def TX6 : u_T := fun k => match k with
  | 0 => ("NineSaints$Planner", "city", "LNineSaints$City;", true)
  | 1 => ("NineSaints$Planner", "ways", "LNineSaints$Ways;", true)
  | 2 => ("NineSaints$Planner", "options", "LNineSaints$Options;", true)
  | 3 => ("NineSaints$Planner", "domains", "[J", true)
  | 4 => ("NineSaints$Planner", "members", "[I", true)
  | 5 => ("NineSaints$Planner", "chosen", "[I", true)
  | 6 => ("NineSaints$Planner", "best", "[I", true)
  | 7 => ("NineSaints$Planner", "count", "I", false)
  | 8 => ("NineSaints$Planner", "bestCost", "I", false)
  | 9 => ("NineSaints$Planner", "staying", "Z", false)
  | 10 => ("NineSaints$Planner", "byNumber", "Z", false)
  | 11 => ("NineSaints$Planner", "solvedBits", "I", false)
  | 12 => ("NineSaints$Planner", "solvedVersion", "I", false)
  | _ => ("NineSaints$Planner", "solvedCost", "I", false)
def tyX6 : Nat → FieldType := fun k => match k with
  | 0 => .object "NineSaints$City"
  | 1 => .object "NineSaints$Ways"
  | 2 => .object "NineSaints$Options"
  | 3 => .array .long
  | 4 => .array .int
  | 5 => .array .int
  | 6 => .array .int
  | 7 => .int
  | 8 => .int
  | 9 => .boolean
  | 10 => .boolean
  | 11 => .int
  | 12 => .int
  | _ => .int
abbrev wsX60 : List Cond := u_ws RX6 TX6 14
theorem nmX6 : ∀ a, a < 14 → ∀ b, b < 14 → a ≠ b → (TX6 a).2.1 ≠ (TX6 b).2.1 := by decide +kernel
theorem tyX6_ok : ∀ k, k < 14 → parseFieldDescriptor (TX6 k).2.2.1 = some (tyX6 k) := by decide +kernel
abbrev cX6_init : ByteArray := prog_8_method_1_code
def yX6_init : MethodName := ⟨RX6, "<init>", "(LNineSaints$City;LNineSaints$Ways;LNineSaints$Options;)V"⟩
abbrev cX6_solve : ByteArray := prog_8_method_2_code
def yX6_solve : MethodName := ⟨RX6, "solve", "(IZ)I"⟩
abbrev cX6_dive : ByteArray := prog_8_method_3_code
def yX6_dive : MethodName := ⟨RX6, "dive", "(II)V"⟩
abbrev cX6_price : ByteArray := prog_8_method_4_code
def yX6_price : MethodName := ⟨RX6, "price", "(II)I"⟩
abbrev cX6_leastBehind : ByteArray := prog_8_method_5_code
def yX6_leastBehind : MethodName := ⟨RX6, "leastBehind", "(II)I"⟩
abbrev cX6_cheapest : ByteArray := prog_8_method_6_code
def yX6_cheapest : MethodName := ⟨RX6, "cheapest", "(IJ)I"⟩
abbrev cX6_cheapEnough : ByteArray := prog_8_method_7_code
def yX6_cheapEnough : MethodName := ⟨RX6, "cheapEnough", "(IJI)J"⟩
abbrev cX6_carryOut : ByteArray := prog_8_method_8_code
def yX6_carryOut : MethodName := ⟨RX6, "carryOut", "()I"⟩
abbrev cX6_adopt : ByteArray := prog_8_method_9_code
def yX6_adopt : MethodName := ⟨RX6, "adopt", "(II)V"⟩
abbrev cX6_takeTurn : ByteArray := prog_8_method_10_code
def yX6_takeTurn : MethodName := ⟨RX6, "takeTurn", "(I)Z"⟩
abbrev cX6_fitsWays : ByteArray := prog_8_method_11_code
def yX6_fitsWays : MethodName := ⟨RX6, "fitsWays", "(II)Z"⟩
abbrev cX6_drawOrder : ByteArray := prog_8_method_12_code
def yX6_drawOrder : MethodName := ⟨RX6, "drawOrder", "(I)Z"⟩
abbrev cX6_luckyIn : ByteArray := prog_8_method_13_code
def yX6_luckyIn : MethodName := ⟨RX6, "luckyIn", "(I)Z"⟩
abbrev cX6_pick : ByteArray := prog_8_method_14_code
def yX6_pick : MethodName := ⟨RX6, "pick", "(I)I"⟩
def RX7 : String := "NineSaints$Reader"
def TX7 : u_T := fun k => match k with
  | 0 => ("NineSaints$Reader", "city", "LNineSaints$City;", true)
  | 1 => ("NineSaints$Reader", "text", "[I", true)
  | 2 => ("NineSaints$Reader", "starts", "[I", true)
  | 3 => ("NineSaints$Reader", "stops", "[I", true)
  | 4 => ("NineSaints$Reader", "kinds", "[I", true)
  | 5 => ("NineSaints$Reader", "next", "I", false)
  | 6 => ("NineSaints$Reader", "at", "I", false)
  | 7 => ("NineSaints$Reader", "after", "I", false)
  | 8 => ("NineSaints$Reader", "kind", "I", false)
  | 9 => ("NineSaints$Reader", "joined", "Z", false)
  | 10 => ("NineSaints$Reader", "value", "I", false)
  | 11 => ("NineSaints$Reader", "told", "I", false)
  | 12 => ("NineSaints$Reader", "written", "I", false)
  | 13 => ("NineSaints$Reader", "faultKind", "I", false)
  | _ => ("NineSaints$Reader", "faultPlace", "I", false)
def tyX7 : Nat → FieldType := fun k => match k with
  | 0 => .object "NineSaints$City"
  | 1 => .array .int
  | 2 => .array .int
  | 3 => .array .int
  | 4 => .array .int
  | 5 => .int
  | 6 => .int
  | 7 => .int
  | 8 => .int
  | 9 => .boolean
  | 10 => .int
  | 11 => .int
  | 12 => .int
  | 13 => .int
  | _ => .int
abbrev wsX70 : List Cond := u_ws RX7 TX7 15
theorem nmX7 : ∀ a, a < 15 → ∀ b, b < 15 → a ≠ b → (TX7 a).2.1 ≠ (TX7 b).2.1 := by decide +kernel
theorem tyX7_ok : ∀ k, k < 15 → parseFieldDescriptor (TX7 k).2.2.1 = some (tyX7 k) := by decide +kernel
abbrev cX7_init : ByteArray := prog_9_method_1_code
def yX7_init : MethodName := ⟨RX7, "<init>", "(LNineSaints$City;[I)V"⟩
abbrev cX7_open : ByteArray := prog_9_method_2_code
def yX7_open : MethodName := ⟨RX7, "open", "(I)V"⟩
abbrev cX7_cut : ByteArray := prog_9_method_3_code
def yX7_cut : MethodName := ⟨RX7, "cut", "(I)V"⟩
abbrev cX7_kindOfWord : ByteArray := prog_9_method_4_code
def yX7_kindOfWord : MethodName := ⟨RX7, "kindOfWord", "(II)I"⟩
abbrev cX7_advance : ByteArray := prog_9_method_5_code
def yX7_advance : MethodName := ⟨RX7, "advance", "()V"⟩
abbrev cX7_more : ByteArray := prog_9_method_6_code
def yX7_more : MethodName := ⟨RX7, "more", "()Z"⟩
abbrev cX7_fail : ByteArray := prog_9_method_7_code
def yX7_fail : MethodName := ⟨RX7, "fail", "(II)Z"⟩
abbrev cX7_statement : ByteArray := prog_9_method_8_code
def yX7_statement : MethodName := ⟨RX7, "statement", "()Z"⟩
abbrev cX7_full : ByteArray := prog_9_method_9_code
def yX7_full : MethodName := ⟨RX7, "full", "(II)Z"⟩
abbrev cX7_tellCorner : ByteArray := prog_9_method_10_code
def yX7_tellCorner : MethodName := ⟨RX7, "tellCorner", "()Z"⟩
abbrev cX7_tellLane : ByteArray := prog_9_method_11_code
def yX7_tellLane : MethodName := ⟨RX7, "tellLane", "()Z"⟩
abbrev cX7_tellSaint : ByteArray := prog_9_method_12_code
def yX7_tellSaint : MethodName := ⟨RX7, "tellSaint", "()Z"⟩
abbrev cX7_tellBalcony : ByteArray := prog_9_method_13_code
def yX7_tellBalcony : MethodName := ⟨RX7, "tellBalcony", "()Z"⟩
abbrev cX7_exceptionStands : ByteArray := prog_9_method_14_code
def yX7_exceptionStands : MethodName := ⟨RX7, "exceptionStands", "()Z"⟩
abbrev cX7_word : ByteArray := prog_9_method_15_code
def yX7_word : MethodName := ⟨RX7, "word", "(I)Z"⟩
abbrev cX7_isSign : ByteArray := prog_9_method_16_code
def yX7_isSign : MethodName := ⟨RX7, "isSign", "(I)Z"⟩
abbrev cX7_sign : ByteArray := prog_9_method_17_code
def yX7_sign : MethodName := ⟨RX7, "sign", "(I)Z"⟩
abbrev cX7_number : ByteArray := prog_9_method_18_code
def yX7_number : MethodName := ⟨RX7, "number", "(II)Z"⟩
abbrev cX7_nameStands : ByteArray := prog_9_method_19_code
def yX7_nameStands : MethodName := ⟨RX7, "nameStands", "()Z"⟩
abbrev cX7_letterOfToken : ByteArray := prog_9_method_20_code
def yX7_letterOfToken : MethodName := ⟨RX7, "letterOfToken", "(I)I"⟩
abbrev cX7_named : ByteArray := prog_9_method_21_code
def yX7_named : MethodName := ⟨RX7, "named", "([II)I"⟩
abbrev cX7_newName : ByteArray := prog_9_method_22_code
def yX7_newName : MethodName := ⟨RX7, "newName", "([II)Z"⟩
abbrev cX7_askedCorner : ByteArray := prog_9_method_23_code
def yX7_askedCorner : MethodName := ⟨RX7, "askedCorner", "(I)I"⟩
abbrev cX7_emit : ByteArray := prog_9_method_24_code
def yX7_emit : MethodName := ⟨RX7, "emit", "(I)V"⟩
abbrev cX7_test : ByteArray := prog_9_method_25_code
def yX7_test : MethodName := ⟨RX7, "test", "(I)Z"⟩
abbrev cX7_fact : ByteArray := prog_9_method_26_code
def yX7_fact : MethodName := ⟨RX7, "fact", "(I)Z"⟩
abbrev cX7_roomIn : ByteArray := prog_9_method_27_code
def yX7_roomIn : MethodName := ⟨RX7, "roomIn", "(I)Z"⟩
abbrev cX7_sum : ByteArray := prog_9_method_28_code
def yX7_sum : MethodName := ⟨RX7, "sum", "(I)Z"⟩
abbrev cX7_part : ByteArray := prog_9_method_29_code
def yX7_part : MethodName := ⟨RX7, "part", "(I)Z"⟩
def RX8 : String := "NineSaints$Track"
def TX8 : u_T := fun k => match k with
  | 0 => ("NineSaints$Track", "corner", "[I", true)
  | 1 => ("NineSaints$Track", "lane", "[I", true)
  | 2 => ("NineSaints$Track", "leave", "[I", true)
  | 3 => ("NineSaints$Track", "come", "[I", true)
  | 4 => ("NineSaints$Track", "points", "I", false)
  | 5 => ("NineSaints$Track", "finish", "I", false)
  | 6 => ("NineSaints$Track", "laneBits", "I", false)
  | _ => ("NineSaints$Track", "stepped", "Z", false)
def tyX8 : Nat → FieldType := fun k => match k with
  | 0 => .array .int
  | 1 => .array .int
  | 2 => .array .int
  | 3 => .array .int
  | 4 => .int
  | 5 => .int
  | 6 => .int
  | _ => .boolean
abbrev wsX80 : List Cond := u_ws RX8 TX8 8
theorem nmX8 : ∀ a, a < 8 → ∀ b, b < 8 → a ≠ b → (TX8 a).2.1 ≠ (TX8 b).2.1 := by decide +kernel
theorem tyX8_ok : ∀ k, k < 8 → parseFieldDescriptor (TX8 k).2.2.1 = some (tyX8 k) := by decide +kernel
abbrev cX8_init : ByteArray := prog_10_method_1_code
def yX8_init : MethodName := ⟨RX8, "<init>", "(I)V"⟩
abbrev cX8_start : ByteArray := prog_10_method_2_code
def yX8_start : MethodName := ⟨RX8, "start", "(I)V"⟩
abbrev cX8_walkBy : ByteArray := prog_10_method_3_code
def yX8_walkBy : MethodName := ⟨RX8, "walkBy", "(III)V"⟩
abbrev cX8_stay : ByteArray := prog_10_method_4_code
def yX8_stay : MethodName := ⟨RX8, "stay", "(I)V"⟩
abbrev cX8_lastCorner : ByteArray := prog_10_method_5_code
def yX8_lastCorner : MethodName := ⟨RX8, "lastCorner", "()I"⟩
abbrev cX8_cornerAt : ByteArray := prog_10_method_6_code
def yX8_cornerAt : MethodName := ⟨RX8, "cornerAt", "(I)I"⟩
abbrev cX8_laneAt : ByteArray := prog_10_method_7_code
def yX8_laneAt : MethodName := ⟨RX8, "laneAt", "(I)I"⟩
def RX9 : String := "NineSaints$Ways"
def TX9 : u_T := fun k => match k with
  | 0 => ("NineSaints$Ways", "city", "LNineSaints$City;", true)
  | 1 => ("NineSaints$Ways", "now", "[I", true)
  | 2 => ("NineSaints$Ways", "trial", "[I", true)
  | 3 => ("NineSaints$Ways", "past", "[I", true)
  | 4 => ("NineSaints$Ways", "tracks", "[LNineSaints$Track;", true)
  | 5 => ("NineSaints$Ways", "oldest", "I", false)
  | 6 => ("NineSaints$Ways", "kept", "I", false)
  | 7 => ("NineSaints$Ways", "newWays", "Z", false)
  | 8 => ("NineSaints$Ways", "newLanes", "Z", false)
  | _ => ("NineSaints$Ways", "newCustom", "Z", false)
def tyX9 : Nat → FieldType := fun k => match k with
  | 0 => .object "NineSaints$City"
  | 1 => .array .int
  | 2 => .array .int
  | 3 => .array .int
  | 4 => .array (.object "NineSaints$Track")
  | 5 => .int
  | 6 => .int
  | 7 => .boolean
  | 8 => .boolean
  | _ => .boolean
abbrev wsX90 : List Cond := u_ws RX9 TX9 10
theorem nmX9 : ∀ a, a < 10 → ∀ b, b < 10 → a ≠ b → (TX9 a).2.1 ≠ (TX9 b).2.1 := by decide +kernel
theorem tyX9_ok : ∀ k, k < 10 → parseFieldDescriptor (TX9 k).2.2.1 = some (tyX9 k) := by decide +kernel
abbrev cX9_init : ByteArray := prog_11_method_1_code
def yX9_init : MethodName := ⟨RX9, "<init>", "(LNineSaints$City;)V"⟩
abbrev cX9_begin : ByteArray := prog_11_method_2_code
def yX9_begin : MethodName := ⟨RX9, "begin", "()V"⟩
abbrev cX9_steps : ByteArray := prog_11_method_3_code
def yX9_steps : MethodName := ⟨RX9, "steps", "(I)I"⟩
abbrev cX9_shutBits : ByteArray := prog_11_method_4_code
def yX9_shutBits : MethodName := ⟨RX9, "shutBits", "()I"⟩
abbrev cX9_onBits : ByteArray := prog_11_method_5_code
def yX9_onBits : MethodName := ⟨RX9, "onBits", "()I"⟩
abbrev cX9_blocked : ByteArray := prog_11_method_6_code
def yX9_blocked : MethodName := ⟨RX9, "blocked", "(I)Z"⟩
abbrev cX9_replayAll : ByteArray := prog_11_method_7_code
def yX9_replayAll : MethodName := ⟨RX9, "replayAll", "()V"⟩
abbrev cX9_replay : ByteArray := prog_11_method_8_code
def yX9_replay : MethodName := ⟨RX9, "replay", "(I)V"⟩
abbrev cX9_laneTo : ByteArray := prog_11_method_9_code
def yX9_laneTo : MethodName := ⟨RX9, "laneTo", "(II)I"⟩
abbrev cX9_keep : ByteArray := prog_11_method_10_code
def yX9_keep : MethodName := ⟨RX9, "keep", "()V"⟩
abbrev cX9_commit : ByteArray := prog_11_method_11_code
def yX9_commit : MethodName := ⟨RX9, "commit", "()V"⟩
abbrev cX9_revert : ByteArray := prog_11_method_12_code
def yX9_revert : MethodName := ⟨RX9, "revert", "()Z"⟩
abbrev cX9_addStep : ByteArray := prog_11_method_13_code
def yX9_addStep : MethodName := ⟨RX9, "addStep", "(II)V"⟩
abbrev cX9_walk : ByteArray := prog_11_method_14_code
def yX9_walk : MethodName := ⟨RX9, "walk", "(II)I"⟩
abbrev cX9_pause : ByteArray := prog_11_method_15_code
def yX9_pause : MethodName := ⟨RX9, "pause", "(II)I"⟩
abbrev cX9_wipe : ByteArray := prog_11_method_16_code
def yX9_wipe : MethodName := ⟨RX9, "wipe", "(I)Z"⟩
abbrev cX9_bar : ByteArray := prog_11_method_17_code
def yX9_bar : MethodName := ⟨RX9, "bar", "(IZ)Z"⟩
abbrev cX9_soften : ByteArray := prog_11_method_18_code
def yX9_soften : MethodName := ⟨RX9, "soften", "(I)Z"⟩
abbrev cX9_adopt : ByteArray := prog_11_method_19_code
def yX9_adopt : MethodName := ⟨RX9, "adopt", "(ILNineSaints$Track;I)V"⟩
abbrev cX9_draw : ByteArray := prog_11_method_20_code
def yX9_draw : MethodName := ⟨RX9, "draw", "([I)I"⟩
abbrev cX9_sumOf : ByteArray := prog_11_method_21_code
def yX9_sumOf : MethodName := ⟨RX9, "sumOf", "([II)I"⟩
abbrev cX9_accept : ByteArray := prog_11_method_22_code
def yX9_accept : MethodName := ⟨RX9, "accept", "([II)Z"⟩
abbrev cX9_tryWay : ByteArray := prog_11_method_23_code
def yX9_tryWay : MethodName := ⟨RX9, "tryWay", "(I[III)I"⟩
def RX10 : String := "NineSaints"
def TX10 : u_T := fun k => match k with
  | 0 => ("NineSaints", "city", "LNineSaints$City;", true)
  | 1 => ("NineSaints", "draft", "LNineSaints$City;", true)
  | 2 => ("NineSaints", "tape", "[I", true)
  | 3 => ("NineSaints", "reader", "LNineSaints$Reader;", true)
  | 4 => ("NineSaints", "ways", "LNineSaints$Ways;", true)
  | 5 => ("NineSaints", "meetings", "LNineSaints$Meetings;", true)
  | 6 => ("NineSaints", "custom", "LNineSaints$Custom;", true)
  | 7 => ("NineSaints", "night", "LNineSaints$Night;", true)
  | 8 => ("NineSaints", "options", "LNineSaints$Options;", true)
  | 9 => ("NineSaints", "planner", "LNineSaints$Planner;", true)
  | 10 => ("NineSaints", "dawns", "LNineSaints$Dawn;", true)
  | 11 => ("NineSaints", "picture", "[I", true)
  | 12 => ("NineSaints", "taped", "I", false)
  | 13 => ("NineSaints", "pictured", "I", false)
  | 14 => ("NineSaints", "faultKind", "I", false)
  | _ => ("NineSaints", "faultPlace", "I", false)
def tyX10 : Nat → FieldType := fun k => match k with
  | 0 => .object "NineSaints$City"
  | 1 => .object "NineSaints$City"
  | 2 => .array .int
  | 3 => .object "NineSaints$Reader"
  | 4 => .object "NineSaints$Ways"
  | 5 => .object "NineSaints$Meetings"
  | 6 => .object "NineSaints$Custom"
  | 7 => .object "NineSaints$Night"
  | 8 => .object "NineSaints$Options"
  | 9 => .object "NineSaints$Planner"
  | 10 => .object "NineSaints$Dawn"
  | 11 => .array .int
  | 12 => .int
  | 13 => .int
  | 14 => .int
  | _ => .int
abbrev wsX100 : List Cond := u_ws RX10 TX10 16
theorem nmX10 : ∀ a, a < 16 → ∀ b, b < 16 → a ≠ b → (TX10 a).2.1 ≠ (TX10 b).2.1 := by decide +kernel
theorem tyX10_ok : ∀ k, k < 16 → parseFieldDescriptor (TX10 k).2.2.1 = some (tyX10 k) := by decide +kernel
abbrev cX10_init : ByteArray := prog_1_method_1_code
def yX10_init : MethodName := ⟨RX10, "<init>", "()V"⟩
abbrev cX10_feed : ByteArray := prog_1_method_2_code
def yX10_feed : MethodName := ⟨RX10, "feed", "(IIIII)I"⟩
abbrev cX10_tapeNumber : ByteArray := prog_1_method_3_code
def yX10_tapeNumber : MethodName := ⟨RX10, "tapeNumber", "(I)V"⟩
abbrev cX10_end : ByteArray := prog_1_method_4_code
def yX10_end : MethodName := ⟨RX10, "end", "(I)Z"⟩
abbrev cX10_city : ByteArray := prog_1_method_5_code
def yX10_city : MethodName := ⟨RX10, "city", "()I"⟩
abbrev cX10_fault : ByteArray := prog_1_method_6_code
def yX10_fault : MethodName := ⟨RX10, "fault", "(I)I"⟩
abbrev cX10_has : ByteArray := prog_1_method_7_code
def yX10_has : MethodName := ⟨RX10, "has", "(I)I"⟩
abbrev cX10_letter : ByteArray := prog_1_method_8_code
def yX10_letter : MethodName := ⟨RX10, "letter", "(III)I"⟩
abbrev cX10_lane : ByteArray := prog_1_method_9_code
def yX10_lane : MethodName := ⟨RX10, "lane", "(II)I"⟩
abbrev cX10_sound : ByteArray := prog_1_method_10_code
def yX10_sound : MethodName := ⟨RX10, "sound", "(II)I"⟩
abbrev cX10_saint : ByteArray := prog_1_method_11_code
def yX10_saint : MethodName := ⟨RX10, "saint", "(II)I"⟩
abbrev cX10_go : ByteArray := prog_1_method_12_code
def yX10_go : MethodName := ⟨RX10, "go", "(II)I"⟩
abbrev cX10_rest : ByteArray := prog_1_method_13_code
def yX10_rest : MethodName := ⟨RX10, "rest", "(II)I"⟩
abbrev cX10_clear : ByteArray := prog_1_method_14_code
def yX10_clear : MethodName := ⟨RX10, "clear", "(I)Z"⟩
abbrev cX10_undo : ByteArray := prog_1_method_15_code
def yX10_undo : MethodName := ⟨RX10, "undo", "()Z"⟩
abbrev cX10_where : ByteArray := prog_1_method_16_code
def yX10_where : MethodName := ⟨RX10, "where", "(II)I"⟩
abbrev cX10_on : ByteArray := prog_1_method_17_code
def yX10_on : MethodName := ⟨RX10, "on", "(II)I"⟩
abbrev cX10_petals : ByteArray := prog_1_method_18_code
def yX10_petals : MethodName := ⟨RX10, "petals", "(II)I"⟩
abbrev cX10_passes : ByteArray := prog_1_method_19_code
def yX10_passes : MethodName := ⟨RX10, "passes", "(II)I"⟩
abbrev cX10_clash : ByteArray := prog_1_method_20_code
def yX10_clash : MethodName := ⟨RX10, "clash", "(I)I"⟩
abbrev cX10_clashes : ByteArray := prog_1_method_21_code
def yX10_clashes : MethodName := ⟨RX10, "clashes", "(I)I"⟩
abbrev cX10_meet : ByteArray := prog_1_method_22_code
def yX10_meet : MethodName := ⟨RX10, "meet", "(II)I"⟩
abbrev cX10_pleased : ByteArray := prog_1_method_23_code
def yX10_pleased : MethodName := ⟨RX10, "pleased", "()I"⟩
abbrev cX10_but : ByteArray := prog_1_method_24_code
def yX10_but : MethodName := ⟨RX10, "but", "(I)Z"⟩
abbrev cX10_words : ByteArray := prog_1_method_25_code
def yX10_words : MethodName := ⟨RX10, "words", "(I)I"⟩
abbrev cX10_softer : ByteArray := prog_1_method_26_code
def yX10_softer : MethodName := ⟨RX10, "softer", "(I)I"⟩
abbrev cX10_shut : ByteArray := prog_1_method_27_code
def yX10_shut : MethodName := ⟨RX10, "shut", "(IZ)Z"⟩
abbrev cX10_sweep : ByteArray := prog_1_method_28_code
def yX10_sweep : MethodName := ⟨RX10, "sweep", "(I)I"⟩
abbrev cX10_routes : ByteArray := prog_1_method_29_code
def yX10_routes : MethodName := ⟨RX10, "routes", "(I)I"⟩
abbrev cX10_route : ByteArray := prog_1_method_30_code
def yX10_route : MethodName := ⟨RX10, "route", "(III)I"⟩
abbrev cX10_together : ByteArray := prog_1_method_31_code
def yX10_together : MethodName := ⟨RX10, "together", "(I)I"⟩
abbrev cX10_bars : ByteArray := prog_1_method_32_code
def yX10_bars : MethodName := ⟨RX10, "bars", "()I"⟩
abbrev cX10_take : ByteArray := prog_1_method_33_code
def yX10_take : MethodName := ⟨RX10, "take", "()I"⟩
abbrev cX10_mend : ByteArray := prog_1_method_34_code
def yX10_mend : MethodName := ⟨RX10, "mend", "()I"⟩
abbrev cX10_turn : ByteArray := prog_1_method_35_code
def yX10_turn : MethodName := ⟨RX10, "turn", "()I"⟩
abbrev cX10_lots : ByteArray := prog_1_method_36_code
def yX10_lots : MethodName := ⟨RX10, "lots", "(I)I"⟩
abbrev cX10_dawn : ByteArray := prog_1_method_37_code
def yX10_dawn : MethodName := ⟨RX10, "dawn", "(III)I"⟩
abbrev cX10_image : ByteArray := prog_1_method_38_code
def yX10_image : MethodName := ⟨RX10, "image", "()I"⟩
abbrev cX10_octet : ByteArray := prog_1_method_39_code
def yX10_octet : MethodName := ⟨RX10, "octet", "(I)I"⟩
abbrev cX10_back : ByteArray := prog_1_method_40_code
def yX10_back : MethodName := ⟨RX10, "back", "()Z"⟩
abbrev cX10_isCorner : ByteArray := prog_1_method_41_code
def yX10_isCorner : MethodName := ⟨RX10, "isCorner", "(I)Z"⟩
abbrev cX10_isLane : ByteArray := prog_1_method_42_code
def yX10_isLane : MethodName := ⟨RX10, "isLane", "(I)Z"⟩
abbrev cX10_isSaint : ByteArray := prog_1_method_43_code
def yX10_isSaint : MethodName := ⟨RX10, "isSaint", "(I)Z"⟩
abbrev cX10_isMinute : ByteArray := prog_1_method_44_code
def yX10_isMinute : MethodName := ⟨RX10, "isMinute", "(I)Z"⟩
abbrev cX10_allSaints : ByteArray := prog_1_method_45_code
def yX10_allSaints : MethodName := ⟨RX10, "allSaints", "()I"⟩
abbrev cX10_pairOf : ByteArray := prog_1_method_46_code
def yX10_pairOf : MethodName := ⟨RX10, "pairOf", "(II)I"⟩
def RX11 : String := "NineSaintsModel"
def TX11 : u_T := fun k => match k with
  | 0 => ("NineSaintsModel", "tape", "[I", true)
  | 1 => ("NineSaintsModel", "taped", "I", false)
  | 2 => ("NineSaintsModel", "at", "I", false)
  | 3 => ("NineSaintsModel", "end", "I", false)
  | 4 => ("NineSaintsModel", "ended", "I", false)
  | 5 => ("NineSaintsModel", "bad", "I", false)
  | 6 => ("NineSaintsModel", "badPlace", "I", false)
  | 7 => ("NineSaintsModel", "fault", "I", false)
  | 8 => ("NineSaintsModel", "faultPlace", "I", false)
  | 9 => ("NineSaintsModel", "cornerWord", "[C", true)
  | 10 => ("NineSaintsModel", "parishWord", "[C", true)
  | 11 => ("NineSaintsModel", "laneWord", "[C", true)
  | 12 => ("NineSaintsModel", "longWord", "[C", true)
  | 13 => ("NineSaintsModel", "wallsWord", "[C", true)
  | 14 => ("NineSaintsModel", "saintWord", "[C", true)
  | 15 => ("NineSaintsModel", "atWord", "[C", true)
  | 16 => ("NineSaintsModel", "paceWord", "[C", true)
  | 17 => ("NineSaintsModel", "loudWord", "[C", true)
  | 18 => ("NineSaintsModel", "petalsWord", "[C", true)
  | 19 => ("NineSaintsModel", "balconyWord", "[C", true)
  | 20 => ("NineSaintsModel", "fromWord", "[C", true)
  | 21 => ("NineSaintsModel", "toWord", "[C", true)
  | 22 => ("NineSaintsModel", "worthWord", "[C", true)
  | 23 => ("NineSaintsModel", "butWord", "[C", true)
  | 24 => ("NineSaintsModel", "rainWord", "[C", true)
  | 25 => ("NineSaintsModel", "orWord", "[C", true)
  | 26 => ("NineSaintsModel", "andWord", "[C", true)
  | 27 => ("NineSaintsModel", "notWord", "[C", true)
  | 28 => ("NineSaintsModel", "allWord", "[C", true)
  | 29 => ("NineSaintsModel", "minuteWord", "[C", true)
  | 30 => ("NineSaintsModel", "sortWord", "[C", true)
  | 31 => ("NineSaintsModel", "farWord", "[C", true)
  | 32 => ("NineSaintsModel", "firstWord", "[C", true)
  | 33 => ("NineSaintsModel", "secondWord", "[C", true)
  | 34 => ("NineSaintsModel", "minWord", "[C", true)
  | 35 => ("NineSaintsModel", "maxWord", "[C", true)
  | 36 => ("NineSaintsModel", "namePlace", "I", false)
  | 37 => ("NineSaintsModel", "many", "[I", true)
  | 38 => ("NineSaintsModel", "names", "[J", true)
  | 39 => ("NineSaintsModel", "parishOf", "[I", true)
  | 40 => ("NineSaintsModel", "lanes", "[I", true)
  | 41 => ("NineSaintsModel", "saints", "[I", true)
  | 42 => ("NineSaintsModel", "balconies", "[I", true)
  | 43 => ("NineSaintsModel", "rainTold", "I", false)
  | 44 => ("NineSaintsModel", "rainAt", "I", false)
  | 45 => ("NineSaintsModel", "statements", "I", false)
  | 46 => ("NineSaintsModel", "codes", "[I", true)
  | 47 => ("NineSaintsModel", "coded", "I", false)
  | 48 => ("NineSaintsModel", "wait", "[I", true)
  | 49 => ("NineSaintsModel", "waits", "I", false)
  | 50 => ("NineSaintsModel", "open", "I", false)
  | 51 => ("NineSaintsModel", "testFrom", "[I", true)
  | 52 => ("NineSaintsModel", "testEnd", "[I", true)
  | 53 => ("NineSaintsModel", "words", "[I", true)
  | 54 => ("NineSaintsModel", "base", "I", false)
  | 55 => ("NineSaintsModel", "pile", "[J", true)
  | 56 => ("NineSaintsModel", "piled", "I", false)
  | 57 => ("NineSaintsModel", "ask", "[I", true)
  | 58 => ("NineSaintsModel", "soundOf", "[I", true)
  | 59 => ("NineSaintsModel", "steps", "[I", true)
  | 60 => ("NineSaintsModel", "stepTo", "[I", true)
  | 61 => ("NineSaintsModel", "stepLane", "[I", true)
  | 62 => ("NineSaintsModel", "stepCome", "[I", true)
  | 63 => ("NineSaintsModel", "shutSet", "I", false)
  | 64 => ("NineSaintsModel", "onSet", "I", false)
  | 65 => ("NineSaintsModel", "keptSteps", "[I", true)
  | 66 => ("NineSaintsModel", "keptTo", "[I", true)
  | 67 => ("NineSaintsModel", "keptLane", "[I", true)
  | 68 => ("NineSaintsModel", "keptCome", "[I", true)
  | 69 => ("NineSaintsModel", "keptShut", "[I", true)
  | 70 => ("NineSaintsModel", "keptOn", "[I", true)
  | 71 => ("NineSaintsModel", "undoable", "I", false)
  | 72 => ("NineSaintsModel", "newest", "I", false)
  | 73 => ("NineSaintsModel", "asideSteps", "[I", true)
  | 74 => ("NineSaintsModel", "asideTo", "[I", true)
  | 75 => ("NineSaintsModel", "asideLane", "[I", true)
  | 76 => ("NineSaintsModel", "asideCome", "[I", true)
  | 77 => ("NineSaintsModel", "routeMany", "[I", true)
  | 78 => ("NineSaintsModel", "routes", "[I", true)
  | 79 => ("NineSaintsModel", "row", "[I", true)
  | 80 => ("NineSaintsModel", "weighed", "[I", true)
  | 81 => ("NineSaintsModel", "chosen", "[I", true)
  | 82 => ("NineSaintsModel", "best", "[I", true)
  | 83 => ("NineSaintsModel", "bestChanges", "I", false)
  | 84 => ("NineSaintsModel", "bestEnds", "I", false)
  | 85 => ("NineSaintsModel", "order", "[I", true)
  | 86 => ("NineSaintsModel", "lotOf", "[I", true)
  | 87 => ("NineSaintsModel", "lying", "[I", true)
  | 88 => ("NineSaintsModel", "gone", "[I", true)
  | 89 => ("NineSaintsModel", "octet", "[I", true)
  | _ => ("NineSaintsModel", "octets", "I", false)
def tyX11 : Nat → FieldType := fun k => match k with
  | 0 => .array .int
  | 1 => .int
  | 2 => .int
  | 3 => .int
  | 4 => .int
  | 5 => .int
  | 6 => .int
  | 7 => .int
  | 8 => .int
  | 9 => .array .char
  | 10 => .array .char
  | 11 => .array .char
  | 12 => .array .char
  | 13 => .array .char
  | 14 => .array .char
  | 15 => .array .char
  | 16 => .array .char
  | 17 => .array .char
  | 18 => .array .char
  | 19 => .array .char
  | 20 => .array .char
  | 21 => .array .char
  | 22 => .array .char
  | 23 => .array .char
  | 24 => .array .char
  | 25 => .array .char
  | 26 => .array .char
  | 27 => .array .char
  | 28 => .array .char
  | 29 => .array .char
  | 30 => .array .char
  | 31 => .array .char
  | 32 => .array .char
  | 33 => .array .char
  | 34 => .array .char
  | 35 => .array .char
  | 36 => .int
  | 37 => .array .int
  | 38 => .array .long
  | 39 => .array .int
  | 40 => .array .int
  | 41 => .array .int
  | 42 => .array .int
  | 43 => .int
  | 44 => .int
  | 45 => .int
  | 46 => .array .int
  | 47 => .int
  | 48 => .array .int
  | 49 => .int
  | 50 => .int
  | 51 => .array .int
  | 52 => .array .int
  | 53 => .array .int
  | 54 => .int
  | 55 => .array .long
  | 56 => .int
  | 57 => .array .int
  | 58 => .array .int
  | 59 => .array .int
  | 60 => .array .int
  | 61 => .array .int
  | 62 => .array .int
  | 63 => .int
  | 64 => .int
  | 65 => .array .int
  | 66 => .array .int
  | 67 => .array .int
  | 68 => .array .int
  | 69 => .array .int
  | 70 => .array .int
  | 71 => .int
  | 72 => .int
  | 73 => .array .int
  | 74 => .array .int
  | 75 => .array .int
  | 76 => .array .int
  | 77 => .array .int
  | 78 => .array .int
  | 79 => .array .int
  | 80 => .array .int
  | 81 => .array .int
  | 82 => .array .int
  | 83 => .int
  | 84 => .int
  | 85 => .array .int
  | 86 => .array .int
  | 87 => .array .int
  | 88 => .array .int
  | 89 => .array .int
  | _ => .int
abbrev wsX110 : List Cond := u_ws RX11 TX11 91
theorem nmX11 : ∀ a, a < 91 → ∀ b, b < 91 → a ≠ b → (TX11 a).2.1 ≠ (TX11 b).2.1 := by decide +kernel
theorem tyX11_ok : ∀ k, k < 91 → parseFieldDescriptor (TX11 k).2.2.1 = some (tyX11 k) := by decide +kernel
abbrev cX11_init : ByteArray := prog_13_method_1_code
def yX11_init : MethodName := ⟨RX11, "<init>", "()V"⟩
abbrev cX11_isIn : ByteArray := prog_13_method_2_code
def yX11_isIn : MethodName := ⟨RX11, "isIn", "(JJJ)Z"⟩
abbrev cX11_feed : ByteArray := prog_13_method_3_code
def yX11_feed : MethodName := ⟨RX11, "feed", "(IIIII)I"⟩
abbrev cX11_end : ByteArray := prog_13_method_4_code
def yX11_end : MethodName := ⟨RX11, "end", "(I)Z"⟩
abbrev cX11_fail : ByteArray := prog_13_method_5_code
def yX11_fail : MethodName := ⟨RX11, "fail", "(II)V"⟩
abbrev cX11_isLetter : ByteArray := prog_13_method_6_code
def yX11_isLetter : MethodName := ⟨RX11, "isLetter", "(I)Z"⟩
abbrev cX11_isDigit : ByteArray := prog_13_method_7_code
def yX11_isDigit : MethodName := ⟨RX11, "isDigit", "(I)Z"⟩
abbrev cX11_look : ByteArray := prog_13_method_8_code
def yX11_look : MethodName := ⟨RX11, "look", "()I"⟩
abbrev cX11_isHere : ByteArray := prog_13_method_9_code
def yX11_isHere : MethodName := ⟨RX11, "isHere", "([C)Z"⟩
abbrev cX11_takes : ByteArray := prog_13_method_10_code
def yX11_takes : MethodName := ⟨RX11, "takes", "([C)Z"⟩
abbrev cX11_asks : ByteArray := prog_13_method_11_code
def yX11_asks : MethodName := ⟨RX11, "asks", "([C)V"⟩
abbrev cX11_takesSign : ByteArray := prog_13_method_12_code
def yX11_takesSign : MethodName := ⟨RX11, "takesSign", "(I)Z"⟩
abbrev cX11_asksSign : ByteArray := prog_13_method_13_code
def yX11_asksSign : MethodName := ⟨RX11, "asksSign", "(I)V"⟩
abbrev cX11_number : ByteArray := prog_13_method_14_code
def yX11_number : MethodName := ⟨RX11, "number", "(II)I"⟩
abbrev cX11_isOwnHere : ByteArray := prog_13_method_15_code
def yX11_isOwnHere : MethodName := ⟨RX11, "isOwnHere", "()Z"⟩
abbrev cX11_name : ByteArray := prog_13_method_16_code
def yX11_name : MethodName := ⟨RX11, "name", "()J"⟩
abbrev cX11_isFull : ByteArray := prog_13_method_17_code
def yX11_isFull : MethodName := ⟨RX11, "isFull", "(III)Z"⟩
abbrev cX11_nameOf : ByteArray := prog_13_method_18_code
def yX11_nameOf : MethodName := ⟨RX11, "nameOf", "(IJ)I"⟩
abbrev cX11_newName : ByteArray := prog_13_method_19_code
def yX11_newName : MethodName := ⟨RX11, "newName", "(I)I"⟩
abbrev cX11_cornerTold : ByteArray := prog_13_method_20_code
def yX11_cornerTold : MethodName := ⟨RX11, "cornerTold", "()I"⟩
abbrev cX11_newCorner : ByteArray := prog_13_method_21_code
def yX11_newCorner : MethodName := ⟨RX11, "newCorner", "(I)V"⟩
abbrev cX11_newLane : ByteArray := prog_13_method_22_code
def yX11_newLane : MethodName := ⟨RX11, "newLane", "(I)V"⟩
abbrev cX11_newSaint : ByteArray := prog_13_method_23_code
def yX11_newSaint : MethodName := ⟨RX11, "newSaint", "(I)V"⟩
abbrev cX11_newBalcony : ByteArray := prog_13_method_24_code
def yX11_newBalcony : MethodName := ⟨RX11, "newBalcony", "(I)V"⟩
abbrev cX11_wordsIn : ByteArray := prog_13_method_25_code
def yX11_wordsIn : MethodName := ⟨RX11, "wordsIn", "(II)I"⟩
abbrev cX11_newException : ByteArray := prog_13_method_26_code
def yX11_newException : MethodName := ⟨RX11, "newException", "(I)V"⟩
abbrev cX11_statementTold : ByteArray := prog_13_method_27_code
def yX11_statementTold : MethodName := ⟨RX11, "statementTold", "()V"⟩
abbrev cX11_city : ByteArray := prog_13_method_28_code
def yX11_city : MethodName := ⟨RX11, "city", "()I"⟩
abbrev cX11_stands : ByteArray := prog_13_method_29_code
def yX11_stands : MethodName := ⟨RX11, "stands", "()V"⟩
abbrev cX11_code : ByteArray := prog_13_method_30_code
def yX11_code : MethodName := ⟨RX11, "code", "(I)V"⟩
abbrev cX11_opens : ByteArray := prog_13_method_31_code
def yX11_opens : MethodName := ⟨RX11, "opens", "(II)V"⟩
abbrev cX11_isOn : ByteArray := prog_13_method_32_code
def yX11_isOn : MethodName := ⟨RX11, "isOn", "(I)Z"⟩
abbrev cX11_drops : ByteArray := prog_13_method_33_code
def yX11_drops : MethodName := ⟨RX11, "drops", "()V"⟩
abbrev cX11_isMark : ByteArray := prog_13_method_34_code
def yX11_isMark : MethodName := ⟨RX11, "isMark", "(I)Z"⟩
abbrev cX11_mark : ByteArray := prog_13_method_35_code
def yX11_mark : MethodName := ⟨RX11, "mark", "()I"⟩
abbrev cX11_dropsToMark : ByteArray := prog_13_method_36_code
def yX11_dropsToMark : MethodName := ⟨RX11, "dropsToMark", "()V"⟩
abbrev cX11_onePart : ByteArray := prog_13_method_37_code
def yX11_onePart : MethodName := ⟨RX11, "onePart", "()V"⟩
abbrev cX11_goesOn : ByteArray := prog_13_method_38_code
def yX11_goesOn : MethodName := ⟨RX11, "goesOn", "()Z"⟩
abbrev cX11_sumsTold : ByteArray := prog_13_method_39_code
def yX11_sumsTold : MethodName := ⟨RX11, "sumsTold", "()V"⟩
abbrev cX11_fact : ByteArray := prog_13_method_40_code
def yX11_fact : MethodName := ⟨RX11, "fact", "()V"⟩
abbrev cX11_hasSquare : ByteArray := prog_13_method_41_code
def yX11_hasSquare : MethodName := ⟨RX11, "hasSquare", "()Z"⟩
abbrev cX11_dropsNots : ByteArray := prog_13_method_42_code
def yX11_dropsNots : MethodName := ⟨RX11, "dropsNots", "()V"⟩
abbrev cX11_test : ByteArray := prog_13_method_43_code
def yX11_test : MethodName := ⟨RX11, "test", "()V"⟩
abbrev cX11_goesOnTest : ByteArray := prog_13_method_44_code
def yX11_goesOnTest : MethodName := ⟨RX11, "goesOnTest", "()Z"⟩
abbrev cX11_fault : ByteArray := prog_13_method_45_code
def yX11_fault : MethodName := ⟨RX11, "fault", "(I)I"⟩
abbrev cX11_clip : ByteArray := prog_13_method_46_code
def yX11_clip : MethodName := ⟨RX11, "clip", "(J)J"⟩
abbrev cX11_floor : ByteArray := prog_13_method_47_code
def yX11_floor : MethodName := ⟨RX11, "floor", "(JJ)J"⟩
abbrev cX11_puts : ByteArray := prog_13_method_48_code
def yX11_puts : MethodName := ⟨RX11, "puts", "(J)V"⟩
abbrev cX11_joins : ByteArray := prog_13_method_49_code
def yX11_joins : MethodName := ⟨RX11, "joins", "(I)V"⟩
abbrev cX11_holds : ByteArray := prog_13_method_50_code
def yX11_holds : MethodName := ⟨RX11, "holds", "(I)Z"⟩
abbrev cX11_isExcepted : ByteArray := prog_13_method_51_code
def yX11_isExcepted : MethodName := ⟨RX11, "isExcepted", "(IIIII)Z"⟩
abbrev cX11_corners : ByteArray := prog_13_method_52_code
def yX11_corners : MethodName := ⟨RX11, "corners", "()I"⟩
abbrev cX11_laneMany : ByteArray := prog_13_method_53_code
def yX11_laneMany : MethodName := ⟨RX11, "laneMany", "()I"⟩
abbrev cX11_saintMany : ByteArray := prog_13_method_54_code
def yX11_saintMany : MethodName := ⟨RX11, "saintMany", "()I"⟩
abbrev cX11_exceptions : ByteArray := prog_13_method_55_code
def yX11_exceptions : MethodName := ⟨RX11, "exceptions", "()I"⟩
abbrev cX11_isCorner : ByteArray := prog_13_method_56_code
def yX11_isCorner : MethodName := ⟨RX11, "isCorner", "(I)Z"⟩
abbrev cX11_isSaint : ByteArray := prog_13_method_57_code
def yX11_isSaint : MethodName := ⟨RX11, "isSaint", "(I)Z"⟩
abbrev cX11_isLane : ByteArray := prog_13_method_58_code
def yX11_isLane : MethodName := ⟨RX11, "isLane", "(I)Z"⟩
abbrev cX11_homeOf : ByteArray := prog_13_method_59_code
def yX11_homeOf : MethodName := ⟨RX11, "homeOf", "(I)I"⟩
abbrev cX11_paceOf : ByteArray := prog_13_method_60_code
def yX11_paceOf : MethodName := ⟨RX11, "paceOf", "(I)I"⟩
abbrev cX11_petalsOf : ByteArray := prog_13_method_61_code
def yX11_petalsOf : MethodName := ⟨RX11, "petalsOf", "(I)I"⟩
abbrev cX11_laneOf : ByteArray := prog_13_method_62_code
def yX11_laneOf : MethodName := ⟨RX11, "laneOf", "(II)I"⟩
abbrev cX11_sounds : ByteArray := prog_13_method_63_code
def yX11_sounds : MethodName := ⟨RX11, "sounds", "()V"⟩
abbrev cX11_parishes : ByteArray := prog_13_method_64_code
def yX11_parishes : MethodName := ⟨RX11, "parishes", "()I"⟩
abbrev cX11_bits : ByteArray := prog_13_method_65_code
def yX11_bits : MethodName := ⟨RX11, "bits", "(I)I"⟩
abbrev cX11_saintOf : ByteArray := prog_13_method_66_code
def yX11_saintOf : MethodName := ⟨RX11, "saintOf", "(I)I"⟩
abbrev cX11_endOf : ByteArray := prog_13_method_67_code
def yX11_endOf : MethodName := ⟨RX11, "endOf", "(I)I"⟩
abbrev cX11_endsAt : ByteArray := prog_13_method_68_code
def yX11_endsAt : MethodName := ⟨RX11, "endsAt", "(I)I"⟩
abbrev cX11_fromOf : ByteArray := prog_13_method_69_code
def yX11_fromOf : MethodName := ⟨RX11, "fromOf", "(II)I"⟩
abbrev cX11_leaves : ByteArray := prog_13_method_70_code
def yX11_leaves : MethodName := ⟨RX11, "leaves", "(II)I"⟩
abbrev cX11_treads : ByteArray := prog_13_method_71_code
def yX11_treads : MethodName := ⟨RX11, "treads", "(IIII)V"⟩
abbrev cX11_canGo : ByteArray := prog_13_method_72_code
def yX11_canGo : MethodName := ⟨RX11, "canGo", "(II)Z"⟩
abbrev cX11_longOf : ByteArray := prog_13_method_73_code
def yX11_longOf : MethodName := ⟨RX11, "longOf", "(II)I"⟩
abbrev cX11_isShut : ByteArray := prog_13_method_74_code
def yX11_isShut : MethodName := ⟨RX11, "isShut", "(I)Z"⟩
abbrev cX11_has : ByteArray := prog_13_method_75_code
def yX11_has : MethodName := ⟨RX11, "has", "(I)I"⟩
abbrev cX11_letter : ByteArray := prog_13_method_76_code
def yX11_letter : MethodName := ⟨RX11, "letter", "(III)I"⟩
abbrev cX11_lane : ByteArray := prog_13_method_77_code
def yX11_lane : MethodName := ⟨RX11, "lane", "(II)I"⟩
abbrev cX11_sound : ByteArray := prog_13_method_78_code
def yX11_sound : MethodName := ⟨RX11, "sound", "(II)I"⟩
abbrev cX11_saint : ByteArray := prog_13_method_79_code
def yX11_saint : MethodName := ⟨RX11, "saint", "(II)I"⟩
abbrev cX11_remembers : ByteArray := prog_13_method_80_code
def yX11_remembers : MethodName := ⟨RX11, "remembers", "()V"⟩
abbrev cX11_keepsAside : ByteArray := prog_13_method_81_code
def yX11_keepsAside : MethodName := ⟨RX11, "keepsAside", "()V"⟩
abbrev cX11_keeps : ByteArray := prog_13_method_82_code
def yX11_keeps : MethodName := ⟨RX11, "keeps", "()V"⟩
abbrev cX11_undo : ByteArray := prog_13_method_83_code
def yX11_undo : MethodName := ⟨RX11, "undo", "()Z"⟩
abbrev cX11_go : ByteArray := prog_13_method_84_code
def yX11_go : MethodName := ⟨RX11, "go", "(II)I"⟩
abbrev cX11_rest : ByteArray := prog_13_method_85_code
def yX11_rest : MethodName := ⟨RX11, "rest", "(II)I"⟩
abbrev cX11_clear : ByteArray := prog_13_method_86_code
def yX11_clear : MethodName := ⟨RX11, "clear", "(I)Z"⟩
abbrev cX11_whereOf : ByteArray := prog_13_method_87_code
def yX11_whereOf : MethodName := ⟨RX11, "whereOf", "(II)I"⟩
abbrev cX11_onOf : ByteArray := prog_13_method_88_code
def yX11_onOf : MethodName := ⟨RX11, "onOf", "(II)I"⟩
abbrev cX11_where : ByteArray := prog_13_method_89_code
def yX11_where : MethodName := ⟨RX11, "where", "(II)I"⟩
abbrev cX11_on : ByteArray := prog_13_method_90_code
def yX11_on : MethodName := ⟨RX11, "on", "(II)I"⟩
abbrev cX11_doLie : ByteArray := prog_13_method_91_code
def yX11_doLie : MethodName := ⟨RX11, "doLie", "(III)Z"⟩
abbrev cX11_arePetals : ByteArray := prog_13_method_92_code
def yX11_arePetals : MethodName := ⟨RX11, "arePetals", "(III)Z"⟩
abbrev cX11_petals : ByteArray := prog_13_method_93_code
def yX11_petals : MethodName := ⟨RX11, "petals", "(II)I"⟩
abbrev cX11_passes : ByteArray := prog_13_method_94_code
def yX11_passes : MethodName := ⟨RX11, "passes", "(II)I"⟩
abbrev cX11_louder : ByteArray := prog_13_method_95_code
def yX11_louder : MethodName := ⟨RX11, "louder", "(II)I"⟩
abbrev cX11_drums : ByteArray := prog_13_method_96_code
def yX11_drums : MethodName := ⟨RX11, "drums", "(III)I"⟩
abbrev cX11_isUpon : ByteArray := prog_13_method_97_code
def yX11_isUpon : MethodName := ⟨RX11, "isUpon", "(III)Z"⟩
abbrev cX11_arePetalsIn : ByteArray := prog_13_method_98_code
def yX11_arePetalsIn : MethodName := ⟨RX11, "arePetalsIn", "(III)Z"⟩
abbrev cX11_clash : ByteArray := prog_13_method_99_code
def yX11_clash : MethodName := ⟨RX11, "clash", "(I)I"⟩
abbrev cX11_clashes : ByteArray := prog_13_method_100_code
def yX11_clashes : MethodName := ⟨RX11, "clashes", "(I)I"⟩
abbrev cX11_meet : ByteArray := prog_13_method_101_code
def yX11_meet : MethodName := ⟨RX11, "meet", "(II)I"⟩
abbrev cX11_isPleased : ByteArray := prog_13_method_102_code
def yX11_isPleased : MethodName := ⟨RX11, "isPleased", "(I)Z"⟩
abbrev cX11_pleased : ByteArray := prog_13_method_103_code
def yX11_pleased : MethodName := ⟨RX11, "pleased", "()I"⟩
abbrev cX11_areLawful : ByteArray := prog_13_method_104_code
def yX11_areLawful : MethodName := ⟨RX11, "areLawful", "(II)Z"⟩
abbrev cX11_greater : ByteArray := prog_13_method_105_code
def yX11_greater : MethodName := ⟨RX11, "greater", "(II)I"⟩
abbrev cX11_lesser : ByteArray := prog_13_method_106_code
def yX11_lesser : MethodName := ⟨RX11, "lesser", "(II)I"⟩
abbrev cX11_staysTo : ByteArray := prog_13_method_107_code
def yX11_staysTo : MethodName := ⟨RX11, "staysTo", "(II)I"⟩
abbrev cX11_areQuiet : ByteArray := prog_13_method_108_code
def yX11_areQuiet : MethodName := ⟨RX11, "areQuiet", "(II)Z"⟩
abbrev cX11_isOff : ByteArray := prog_13_method_109_code
def yX11_isOff : MethodName := ⟨RX11, "isOff", "(II)Z"⟩
abbrev cX11_but : ByteArray := prog_13_method_110_code
def yX11_but : MethodName := ⟨RX11, "but", "(I)Z"⟩
abbrev cX11_words : ByteArray := prog_13_method_111_code
def yX11_words : MethodName := ⟨RX11, "words", "(I)I"⟩
abbrev cX11_isLawful : ByteArray := prog_13_method_112_code
def yX11_isLawful : MethodName := ⟨RX11, "isLawful", "()Z"⟩
abbrev cX11_wordsOf : ByteArray := prog_13_method_113_code
def yX11_wordsOf : MethodName := ⟨RX11, "wordsOf", "(I)I"⟩
abbrev cX11_softer : ByteArray := prog_13_method_114_code
def yX11_softer : MethodName := ⟨RX11, "softer", "(I)I"⟩
abbrev cX11_shut : ByteArray := prog_13_method_115_code
def yX11_shut : MethodName := ⟨RX11, "shut", "(IZ)Z"⟩
abbrev cX11_trodden : ByteArray := prog_13_method_116_code
def yX11_trodden : MethodName := ⟨RX11, "trodden", "()I"⟩
abbrev cX11_bitAt : ByteArray := prog_13_method_117_code
def yX11_bitAt : MethodName := ⟨RX11, "bitAt", "(II)I"⟩
abbrev cX11_sweep : ByteArray := prog_13_method_118_code
def yX11_sweep : MethodName := ⟨RX11, "sweep", "(I)I"⟩
abbrev cX11_canCome : ByteArray := prog_13_method_119_code
def yX11_canCome : MethodName := ⟨RX11, "canCome", "(III)Z"⟩
abbrev cX11_usedBy : ByteArray := prog_13_method_120_code
def yX11_usedBy : MethodName := ⟨RX11, "usedBy", "(I)I"⟩
abbrev cX11_routesOf : ByteArray := prog_13_method_121_code
def yX11_routesOf : MethodName := ⟨RX11, "routesOf", "(I)V"⟩
abbrev cX11_wayOf : ByteArray := prog_13_method_122_code
def yX11_wayOf : MethodName := ⟨RX11, "wayOf", "(II)I"⟩
abbrev cX11_optionsOf : ByteArray := prog_13_method_123_code
def yX11_optionsOf : MethodName := ⟨RX11, "optionsOf", "(I)V"⟩
abbrev cX11_options : ByteArray := prog_13_method_124_code
def yX11_options : MethodName := ⟨RX11, "options", "()V"⟩
abbrev cX11_optionMany : ByteArray := prog_13_method_125_code
def yX11_optionMany : MethodName := ⟨RX11, "optionMany", "(I)I"⟩
abbrev cX11_areKnown : ByteArray := prog_13_method_126_code
def yX11_areKnown : MethodName := ⟨RX11, "areKnown", "(II)Z"⟩
abbrev cX11_routes : ByteArray := prog_13_method_127_code
def yX11_routes : MethodName := ⟨RX11, "routes", "(I)I"⟩
abbrev cX11_route : ByteArray := prog_13_method_128_code
def yX11_route : MethodName := ⟨RX11, "route", "(III)I"⟩
abbrev cX11_isWhole : ByteArray := prog_13_method_129_code
def yX11_isWhole : MethodName := ⟨RX11, "isWhole", "(I)Z"⟩
abbrev cX11_wayBy : ByteArray := prog_13_method_130_code
def yX11_wayBy : MethodName := ⟨RX11, "wayBy", "(I)I"⟩
abbrev cX11_fits : ByteArray := prog_13_method_131_code
def yX11_fits : MethodName := ⟨RX11, "fits", "(IIZ)Z"⟩
abbrev cX11_changesTo : ByteArray := prog_13_method_132_code
def yX11_changesTo : MethodName := ⟨RX11, "changesTo", "(II)I"⟩
abbrev cX11_endsTo : ByteArray := prog_13_method_133_code
def yX11_endsTo : MethodName := ⟨RX11, "endsTo", "(II)I"⟩
abbrev cX11_canBeBetter : ByteArray := prog_13_method_134_code
def yX11_canBeBetter : MethodName := ⟨RX11, "canBeBetter", "(IIZ)Z"⟩
abbrev cX11_isChosen : ByteArray := prog_13_method_135_code
def yX11_isChosen : MethodName := ⟨RX11, "isChosen", "(IZZ)Z"⟩
abbrev cX11_lastOf : ByteArray := prog_13_method_136_code
def yX11_lastOf : MethodName := ⟨RX11, "lastOf", "(II)I"⟩
abbrev cX11_everybody : ByteArray := prog_13_method_137_code
def yX11_everybody : MethodName := ⟨RX11, "everybody", "()I"⟩
abbrev cX11_together : ByteArray := prog_13_method_138_code
def yX11_together : MethodName := ⟨RX11, "together", "(I)I"⟩
abbrev cX11_bars : ByteArray := prog_13_method_139_code
def yX11_bars : MethodName := ⟨RX11, "bars", "()I"⟩
abbrev cX11_comesTo : ByteArray := prog_13_method_140_code
def yX11_comesTo : MethodName := ⟨RX11, "comesTo", "(II)V"⟩
abbrev cX11_take : ByteArray := prog_13_method_141_code
def yX11_take : MethodName := ⟨RX11, "take", "()I"⟩
abbrev cX11_mend : ByteArray := prog_13_method_142_code
def yX11_mend : MethodName := ⟨RX11, "mend", "()I"⟩
abbrev cX11_isAlone : ByteArray := prog_13_method_143_code
def yX11_isAlone : MethodName := ⟨RX11, "isAlone", "(II)Z"⟩
abbrev cX11_turn : ByteArray := prog_13_method_144_code
def yX11_turn : MethodName := ⟨RX11, "turn", "()I"⟩
abbrev cX11_leastAlone : ByteArray := prog_13_method_145_code
def yX11_leastAlone : MethodName := ⟨RX11, "leastAlone", "(I)I"⟩
abbrev cX11_getsBeside : ByteArray := prog_13_method_146_code
def yX11_getsBeside : MethodName := ⟨RX11, "getsBeside", "(I)I"⟩
abbrev cX11_isOrder : ByteArray := prog_13_method_147_code
def yX11_isOrder : MethodName := ⟨RX11, "isOrder", "(I)Z"⟩
abbrev cX11_lots : ByteArray := prog_13_method_148_code
def yX11_lots : MethodName := ⟨RX11, "lots", "(I)I"⟩
abbrev cX11_dawns : ByteArray := prog_13_method_149_code
def yX11_dawns : MethodName := ⟨RX11, "dawns", "(II)V"⟩
abbrev cX11_choicesOf : ByteArray := prog_13_method_150_code
def yX11_choicesOf : MethodName := ⟨RX11, "choicesOf", "(I)I"⟩
abbrev cX11_dawn : ByteArray := prog_13_method_151_code
def yX11_dawn : MethodName := ⟨RX11, "dawn", "(III)I"⟩
abbrev cX11_writes : ByteArray := prog_13_method_152_code
def yX11_writes : MethodName := ⟨RX11, "writes", "(I)V"⟩
abbrev cX11_checked : ByteArray := prog_13_method_153_code
def yX11_checked : MethodName := ⟨RX11, "checked", "([II)I"⟩
abbrev cX11_image : ByteArray := prog_13_method_154_code
def yX11_image : MethodName := ⟨RX11, "image", "()I"⟩
abbrev cX11_octet : ByteArray := prog_13_method_155_code
def yX11_octet : MethodName := ⟨RX11, "octet", "(I)I"⟩
abbrev cX11_isStepTold : ByteArray := prog_13_method_156_code
def yX11_isStepTold : MethodName := ⟨RX11, "isStepTold", "(II)Z"⟩
abbrev cX11_isTold : ByteArray := prog_13_method_157_code
def yX11_isTold : MethodName := ⟨RX11, "isTold", "(I)Z"⟩
abbrev cX11_back : ByteArray := prog_13_method_158_code
def yX11_back : MethodName := ⟨RX11, "back", "()Z"⟩
def RJ6 : String := "java/lang/Integer"
abbrev cJ6_numberOfTrailingZeros_0f7a4 : ByteArray := prog_14_method_48_code
def yJ6_numberOfTrailingZeros_0f7a4 : MethodName := ⟨RJ6, "numberOfTrailingZeros", "(I)I"⟩
abbrev cJ6_bitCount_0f7a4 : ByteArray := prog_14_method_49_code
def yJ6_bitCount_0f7a4 : MethodName := ⟨RJ6, "bitCount", "(I)I"⟩
def RJ13 : String := "java/lang/Long"
abbrev cJ13_numberOfTrailingZeros_95d88 : ByteArray := prog_15_method_49_code
def yJ13_numberOfTrailingZeros_95d88 : MethodName := ⟨RJ13, "numberOfTrailingZeros", "(J)I"⟩
def RJ9 : String := "java/lang/Math"
abbrev cJ9_floorDiv_7cf53 : ByteArray := prog_16_method_47_code
def yJ9_floorDiv_7cf53 : MethodName := ⟨RJ9, "floorDiv", "(II)I"⟩
abbrev cJ9_max_7cf53 : ByteArray := prog_16_method_65_code
def yJ9_max_7cf53 : MethodName := ⟨RJ9, "max", "(II)I"⟩
abbrev cJ9_min_7cf53 : ByteArray := prog_16_method_69_code
def yJ9_min_7cf53 : MethodName := ⟨RJ9, "min", "(II)I"⟩
def RJ0 : String := "java/lang/String"
abbrev cJ0_charAt_5068e : ByteArray := prog_18_method_56_code
def yJ0_charAt_5068e : MethodName := ⟨RJ0, "charAt", "(I)C"⟩
abbrev cJ0_isLatin1_aae02 : ByteArray := prog_18_method_154_code
def yJ0_isLatin1_aae02 : MethodName := ⟨RJ0, "isLatin1", "()Z"⟩
abbrev cJ0_checkIndex_df160 : ByteArray := prog_18_method_155_code
def yJ0_checkIndex_df160 : MethodName := ⟨RJ0, "checkIndex", "(II)V"⟩
def RJ1 : String := "java/lang/StringLatin1"
abbrev cJ1_charAt_3b067 : ByteArray := prog_19_method_2_code
def yJ1_charAt_3b067 : MethodName := ⟨RJ1, "charAt", "([BI)C"⟩
def RJ2 : String := "java/lang/StringUTF16"
abbrev cJ2_getChar_3b067 : ByteArray := prog_20_method_5_code
def yJ2_getChar_3b067 : MethodName := ⟨RJ2, "getChar", "([BI)C"⟩
abbrev cJ2_length_9d52b : ByteArray := prog_20_method_6_code
def yJ2_length_9d52b : MethodName := ⟨RJ2, "length", "([B)I"⟩
abbrev cJ2_charAt_3b067 : ByteArray := prog_20_method_83_code
def yJ2_charAt_3b067 : MethodName := ⟨RJ2, "charAt", "([BI)C"⟩
abbrev cJ2_checkIndex_2214a : ByteArray := prog_20_method_91_code
def yJ2_checkIndex_2214a : MethodName := ⟨RJ2, "checkIndex", "(I[B)V"⟩
def RJ10 : String := "java/lang/System"
def RJ7 : String := "java/util/Arrays"
abbrev cJ7_fill_d0a16 : ByteArray := prog_22_method_101_code
def yJ7_fill_d0a16 : MethodName := ⟨RJ7, "fill", "([JJ)V"⟩
abbrev cJ7_fill_53178 : ByteArray := prog_22_method_103_code
def yJ7_fill_53178 : MethodName := ⟨RJ7, "fill", "([II)V"⟩
def RJ3 : String := "jdk/internal/util/Preconditions"
abbrev cJ3_checkIndex_8e157 : ByteArray := prog_23_method_11_code
def yJ3_checkIndex_8e157 : MethodName := ⟨RJ3, "checkIndex", "(IILjava/util/function/BiFunction;)I"⟩
def RL : String := "NineSaintsLaw"
abbrev cL_law : ByteArray := code
def yL_law : MethodName := ⟨RL, "law", "([I)Z"⟩
abbrev vwCl : List vw_C := [(RX0, TX0, 14), (RX1, TX1, 7), (RX2, TX2, 10), (RX3, TX3, 9), (RX4, TX4, 6), (RX5, TX5, 12), (RX6, TX6, 14), (RX7, TX7, 15), (RX8, TX8, 8), (RX9, TX9, 10), (RX10, TX10, 16), (RX11, TX11, 91)]
/-! ===== END printed: names ===== -/
end
section
abbrev AV : Type := Int ⊕ (Int ⊕ (Option Nat ⊕ Unit))
abbrev vI (x : Int) : AV := .inl x
abbrev vL (x : Int) : AV := .inr (.inl x)
abbrev vR (k : Nat) : AV := .inr (.inr (.inl (some k)))
abbrev vN : AV := .inr (.inr (.inl none))
abbrev vX : AV := .inr (.inr (.inr ()))
abbrev SH : Type := Nat ⊕ (Nat × Nat)
abbrev AH : Type := List SH × (Nat → Nat → Option Nat) × (Nat → Nat → Int)
abbrev MD : Type := MethodName × ByteArray × Nat × Option FieldType
def ii (x : Int) : Prop := -2147483648 ≤ x ∧ x ≤ 2147483647
def ll (x : Int) : Prop := -9223372036854775808 ≤ x ∧ x ≤ 9223372036854775807
def okv : AV → Prop
  | .inl x => ii x
  | .inr (.inl x) => ll x
  | _ => True
def cv (B b : Nat) : AV → Value
  | .inl x => .int (Int32.ofInt x)
  | .inr (.inl x) => .long (Int64.ofInt x)
  | .inr (.inr (.inl none)) => .null
  | .inr (.inr (.inl (some k))) => .ref (B + k)
  | .inr (.inr (.inr _)) => .ref b
def ct : AV → Nat
  | .inr (.inl _) => 2
  | _ => 1
theorem cv_ct (B b : Nat) (v : AV) : (cv B b v).category = ct v := by
  rcases v with x | x | (_ | k) | _ <;> rfl
def wr (z : Int) : Int := if -2147483648 ≤ z ∧ z ≤ 2147483647 then z else (Int32.ofInt z).toInt
def wl (z : Int) : Int := if -9223372036854775808 ≤ z ∧ z ≤ 9223372036854775807 then z else (Int64.ofInt z).toInt
theorem ii_of (x : Int32) : ii x.toInt := by
  have h1 := Int32.le_toInt x
  have h2 := Int32.toInt_lt x
  unfold ii; omega
theorem ll_of (x : Int64) : ll x.toInt := by
  have h1 := Int64.le_toInt x
  have h2 := Int64.toInt_lt x
  unfold ll; omega
theorem ii_ofI {z : Int} (h : ii z) : (Int32.ofInt z).toInt = z := by
  unfold ii at h
  rw [Int32.toInt_ofInt]; show z.bmod (2 ^ 32) = z; rw [Int.bmod_eq_of_le (by omega) (by omega)]
theorem ll_ofI {z : Int} (h : ll z) : (Int64.ofInt z).toInt = z := by
  unfold ll at h
  rw [Int64.toInt_ofInt]; show z.bmod (2 ^ 64) = z; rw [Int.bmod_eq_of_le (by omega) (by omega)]
theorem wr_id {z : Int} (h1 : -2147483648 ≤ z) (h2 : z ≤ 2147483647) : wr z = z := by
  unfold wr; rw [if_pos ⟨h1, h2⟩]
theorem wl_id {z : Int} (h1 : -9223372036854775808 ≤ z) (h2 : z ≤ 9223372036854775807) : wl z = z := by
  unfold wl; rw [if_pos ⟨h1, h2⟩]
theorem wr_ii (z : Int) : ii (wr z) := by
  unfold wr; split
  · rename_i h; exact h
  · exact ii_of _
theorem wl_ll (z : Int) : ll (wl z) := by
  unfold wl; split
  · rename_i h; exact h
  · exact ll_of _
theorem wr_of (z : Int) : Int32.ofInt (wr z) = Int32.ofInt z := by
  unfold wr; split
  · rfl
  · exact Int32.ofInt_toInt _
theorem wl_of (z : Int) : Int64.ofInt (wl z) = Int64.ofInt z := by
  unfold wl; split
  · rfl
  · exact Int64.ofInt_toInt _
theorem io_eq {x y : Int} (hx : ii x) (hy : ii y) : Int32.ofInt x = Int32.ofInt y ↔ x = y := by
  constructor
  · intro h
    have := congrArg Int32.toInt h
    rwa [ii_ofI hx, ii_ofI hy] at this
  · rintro rfl; rfl
theorem io_lt {x y : Int} (hx : ii x) (hy : ii y) : Int32.ofInt x < Int32.ofInt y ↔ x < y := by
  rw [Int32.lt_iff_toInt_lt, ii_ofI hx, ii_ofI hy]
theorem io_le {x y : Int} (hx : ii x) (hy : ii y) : Int32.ofInt x ≤ Int32.ofInt y ↔ x ≤ y := by
  rw [Int32.le_iff_toInt_le, ii_ofI hx, ii_ofI hy]
theorem jo_lt {x y : Int} (hx : ll x) (hy : ll y) : Int64.ofInt x < Int64.ofInt y ↔ x < y := by
  rw [Int64.lt_iff_toInt_lt, ll_ofI hx, ll_ofI hy]
theorem jo_eq {x y : Int} (hx : ll x) (hy : ll y) : Int64.ofInt x = Int64.ofInt y ↔ x = y := by
  constructor
  · intro h
    have := congrArg Int64.toInt h
    rwa [ll_ofI hx, ll_ofI hy] at this
  · rintro rfl; rfl
theorem ii_0 : ii 0 := by unfold ii; omega
theorem io_0 : Int32.ofInt 0 = 0 := by decide
theorem io_in {i : Int} {n : Nat} (hi : ii i) (h0 : 0 ≤ i) (h1 : i < n) : vp_in (Int32.ofInt i) n := by
  rw [vp_in_iff, ii_ofI hi]; exact ⟨h0, h1⟩
theorem io_cl {i : Int} (hi : ii i) : (Int32.ofInt i).toNatClampNeg = i.toNat := by
  show (Int32.ofInt i).toInt.toNat = _
  rw [ii_ofI hi]
def GT : List Cond := lw_tbl.filter goodWord
theorem gt_in {w : Cond} (i : Nat) (h : lw_tbl[i]? = some w) (hg : goodWord w = true) : w ∈ GT := List.mem_filter.mpr ⟨List.mem_of_getElem? h, hg⟩
theorem gt_good {w : Cond} (h : w ∈ GT) : (w.onTables && w.keeps) = true ∨ ∃ ty, w = .arrayClass ty := good_of_word (List.mem_filter.mp h).2
def tyl (dA : Nat → ClassId) : List (ClassId × FieldType) := [(dA 0, .int), (dA 1, .long), (dA 2, .boolean), (dA 3, .char), (dA 4, .object RX8)]
def flg : List (List Bool) := [
  [true, true, true, true, true, true, true, true, true, true, true, true, false, false],
  [true, true, true, true, true, false, false],
  [true, true, true, true, true, true, true, false, false, false],
  [true, true, true, true, true, false, false, false, false],
  [true, true, true, true, true, false],
  [true, true, true, true, true, true, true, true, true, true, true, false],
  [true, true, true, true, true, true, true, false, false, false, false, false, false, false],
  [true, true, true, true, true, false, false, false, false, false, false, false, false, false, false],
  [true, true, true, true, false, false, false, false],
  [true, true, true, true, true, false, false, false, false, false],
  [true, true, true, true, true, true, true, true, true, true, true, true, false, false, false, false],
  [true, false, false, false, false, false, false, false, false, true, true, true, true, true, true, true, true, true, true, true, true, true, true, true, true, true, true, true, true, true, true, true, true, true, true, true, false, true, true, true, true, true, true, false, false, false, true, false, true, false, false, true, true, true, false, true, false, true, true, true, true, true, true, false, false, true, true, true, true, true, true, false, false, true, true, true, true, true, true, true, true, true, true, false, false, true, true, true, true, true, false]]
def fl (ci : Nat) : List Bool := flg.getD ci []
def rfv (B : Nat) (o : Option Nat) : Value := match o with
  | none => .null
  | some q => .ref (B + q)
def fV (B : Nat) (R : Nat → Nat → Option Nat) (I : Nat → Nat → Int) (k j : Nat) (r : Bool) : Value := if r then rfv B (R k j) else .int (Int32.ofInt (I k j))
def fvs (B : Nat) (R : Nat → Nat → Option Nat) (I : Nat → Nat → Int) (k ci : Nat) : List Value := (fl ci).mapIdx (fun j r => fV B R I k j r)
def enc (B : Nat) (dA : Nat → ClassId) (R : Nat → Nat → Option Nat) (I : Nat → Nat → Int) (k : Nat) (sh : SH) : va_E := match sh with
  | .inl ci => .inr (ci, fvs B R I k ci)
  | .inr (1, n) => .inl (dA 1, n, .inr (.inl (fun i => Int64.ofInt (I k i))))
  | .inr (4, n) => .inl (dA 4, n, .inr (.inr (.inr (.inr (fun i => (R k i).map (fun q => B + q))))))
  | .inr (t, n) => .inl (dA t, n, .inl (fun i => Int32.ofInt (I k i)))
def shr (sh : SH) (x : Int) : Prop := match sh with
  | .inr (1, _) => ll x
  | _ => ii x
def HR (D : va_G) (B : Nat) (dA : Nat → ClassId) (σ : AH) (H : Heap) : Prop :=
  (∀ (k : Nat) (sh : SH), σ.1[k]? = some sh → va_at D vwCl (B + k, enc B dA σ.2.1 σ.2.2 k sh) H) ∧ H.size = B + σ.1.length ∧ ∀ (k : Nat) (sh : SH), σ.1[k]? = some sh → ∀ j : Nat, shr sh (σ.2.2 k j)
def ownT : String := "corner  parish  lane    long    walls   saint   at      pace    loud    petals  balcony from    to      worth   but     rain    or      and     not     all     minute  sort    far     first   second  min     max     "
def ownB : List Int32 := [99, 111, 114, 110, 101, 114, 32, 32, 112, 97, 114, 105, 115, 104, 32, 32, 108, 97, 110, 101, 32, 32, 32, 32, 108, 111, 110, 103, 32, 32, 32, 32, 119, 97, 108, 108, 115, 32, 32, 32, 115, 97, 105, 110, 116, 32, 32, 32, 97, 116, 32, 32, 32, 32, 32, 32, 112, 97, 99, 101, 32, 32, 32, 32, 108, 111, 117, 100, 32, 32, 32, 32, 112, 101, 116, 97, 108, 115, 32, 32, 98, 97, 108, 99, 111, 110, 121, 32, 102, 114, 111, 109, 32, 32, 32, 32, 116, 111, 32, 32, 32, 32, 32, 32, 119, 111, 114, 116, 104, 32, 32, 32, 98, 117, 116, 32, 32, 32, 32, 32, 114, 97, 105, 110, 32, 32, 32, 32, 111, 114, 32, 32, 32, 32, 32, 32, 97, 110, 100, 32, 32, 32, 32, 32, 110, 111, 116, 32, 32, 32, 32, 32, 97, 108, 108, 32, 32, 32, 32, 32, 109, 105, 110, 117, 116, 101, 32, 32, 115, 111, 114, 116, 32, 32, 32, 32, 102, 97, 114, 32, 32, 32, 32, 32, 102, 105, 114, 115, 116, 32, 32, 32, 115, 101, 99, 111, 110, 100, 32, 32, 109, 105, 110, 32, 32, 32, 32, 32, 109, 97, 120, 32, 32, 32, 32, 32]
def KS (B : Nat) (E : Nat → Nat) (U : State) : Prop :=
  vk_R RX7 68 ownT (E 0) U ∧ vk_S 1 [216] [ownB] (fun _ => E 0) (fun _ => E 1) (fun q => B ≤ q) U U.heap ∧ va_Z "java/lang/String" "COMPACT_STRINGS" "Z" (.int 1) (fun q => B ≤ q) U U.heap ∧ va_AO RX8 U ∧ va_Nw (.methodLinkNest RX10 9 yX0_init RX10) U ∧ va_Nw (.methodLinkNest RX5 140 yX10_pairOf RX10) U ∧ va_Nw (.methodLinkNest RX1 73 yX10_pairOf RX10) U
def Cx (X : Option (Nat × (Nat → Int32))) (M : MD) (p : Program) (s : State) (m : MethodId) (args : Array Value) (meth : Method) (c : Code) (D : va_G) (B b : Nat) (dA : Nat → ClassId) (E : Nat → Nat) : Prop :=
  p.tables.exec = Jvm.exec ∧ c.code = M.2.1 ∧ c.maxLocals = M.2.2.1 ∧ s.vm.findClass M.1.cls = some m.cls ∧ (∀ w ∈ GT, w.before args s = true) ∧ va_K D vwCl (tyl dA) s ∧ B ≤ s.heap.size ∧ meth.name = M.1.name ∧ KS B E s ∧ (match X with
  | none => True
  | some q => va_X b q.1 q.2 s s.heap ∧ b < s.heap.size ∧ b < B)
def retI (r : Option AV) : Instr := match r with
  | none => .return_
  | some (.inl _) => .ireturn
  | some (.inr (.inl _)) => .lreturn
  | some (.inr (.inr _)) => .areturn
def okr (t : Option FieldType) (r : Option AV) : Prop := match t, r with
  | none, none => True
  | some .int, some (.inl x) => ii x
  | some .boolean, some (.inl x) => x = 0 ∨ x = 1
  | some .char, some (.inl x) => 0 ≤ x ∧ x ≤ 65535
  | some .long, some (.inr (.inl x)) => ll x
  | some (.object _), some (.inr (.inr (.inl (some _)))) => True
  | _, _ => False
def Hend (M : MD) (p : Program) (l : Launch) (e : Env) (R : Room) (s : State) (m : MethodId) (args : Array Value) (below : List Frame) (meth : Method) (c : Code) (D : va_G) (B b : Nat) (dA : Nat → ClassId) (C0 S0 : Nat) (Q : Option AV → AH → Prop) (Z : State → Prop) : Prop :=
  ∀ (H : Heap) (locs : List Loc) (cells slots pc : Nat) (lsC : Array Slot) (r : Option AV) (σ : AH), HR D B dA σ H → va_S (fun q => B ≤ q) s.heap H locs → cells ≤ C0 → slots ≤ S0 → okr M.2.2.2 r → Q r σ → decode M.2.1 pc = .ok (retI r, 1) →
    W p l e R s m args below meth c H locs cells slots Z (F0 m pc lsC ((r.map (cv B b)).toList))
def J (X : Option (Nat × (Nat → Int32))) (M : MD) (d mc ms pc : Nat) (ls : List (Nat × AV)) (st : List AV) (σ : AH) (Q : Option AV → AH → Prop) : Prop :=
  ∀ (p : Program) (l : Launch) (e : Env) (R : Room) (s : State) (m : MethodId) (args : Array Value) (below : List Frame) (meth : Method) (c : Code) (D : va_G) (B b : Nat) (dA : Nat → ClassId) (E : Nat → Nat) (C0 S0 : Nat) (Z : State → Prop),
    Cx X M p s m args meth c D B b dA E → (d ≤ R.frames ∧ 100 * d ≤ R.locals ∧ C0 ≤ R.cells ∧ S0 ≤ R.slots) → Hend M p l e R s m args below meth c D B b dA C0 S0 Q Z →
    ∀ (H : Heap) (locs : List Loc) (cells slots : Nat) (lsC : Array Slot), HR D B dA σ H → va_S (fun q => B ≤ q) s.heap H locs → cells + mc ≤ C0 → slots + ms ≤ S0 → lv_has lsC M.2.2.1 (ls.map (fun q => (q.1, cv B b q.2))) → (∀ q ∈ ls, okv q.2) → (∀ v ∈ st, okv v) →
      W p l e R s m args below meth c H locs cells slots Z (F0 m pc lsC (st.map (cv B b)))
section JJ
variable {X : Option (Nat × (Nat → Int32))} {M : MD} {d mc ms pc : Nat} {ls : List (Nat × AV)} {st : List AV} {σ : AH} {Q : Option AV → AH → Prop}
theorem J_q {pc' : Nat} {st' : List AV} (k : J X M d mc ms pc' ls st' σ Q)
    (h : ∀ {p : Program} {l : Launch} {e : Env} {R : Room} {s : State} {m : MethodId} {args : Array Value} {below : List Frame} {meth : Method} {c : Code} {H : Heap} {locs : List Loc} {cells slots : Nat} {Z : State → Prop} {lsC : Array Slot} (B b : Nat), p.tables.exec = Jvm.exec → c.code = M.2.1 → s.vm.findClass M.1.cls = some m.cls → (∀ w ∈ GT, w.before args s = true) → (∀ v ∈ st, okv v) → W p l e R s m args below meth c H locs cells slots Z (F0 m pc' lsC (st'.map (cv B b))) → W p l e R s m args below meth c H locs cells slots Z (F0 m pc lsC (st.map (cv B b))))
    (ho : (∀ v ∈ st, okv v) → ∀ v ∈ st', okv v) : J X M d mc ms pc ls st σ Q := by
  intro p l e R s m args below meth c D B b dA E C0 S0 Z cx hR he H locs cells slots lsC hH hS h1 h2 hl hol hos
  exact h B b cx.1 cx.2.1 cx.2.2.2.1 cx.2.2.2.2.1 hos (k p l e R s m args below meth c D B b dA E C0 S0 Z cx hR he H locs cells slots lsC hH hS h1 h2 hl hol (ho hos))
theorem ok_c {v : AV} {st : List AV} (hv : okv v) (h : ∀ w ∈ st, okv w) : ∀ w ∈ v :: st, okv w := List.forall_mem_cons.mpr ⟨hv, h⟩
theorem ok_t {v : AV} {st : List AV} (h : ∀ w ∈ v :: st, okv w) : ∀ w ∈ st, okv w := (List.forall_mem_cons.mp h).2
theorem ok_h {v : AV} {st : List AV} (h : ∀ w ∈ v :: st, okv w) : okv v := (List.forall_mem_cons.mp h).1
theorem ok_ci {x : Int} {st : List AV} (hv : ii x) (h : ∀ w ∈ st, okv w) : ∀ w ∈ vI x :: st, okv w := ok_c hv h
theorem ok_cl {x : Int} {st : List AV} (hv : ll x) (h : ∀ w ∈ st, okv w) : ∀ w ∈ vL x :: st, okv w := ok_c hv h
theorem J_iconst {n : Int} (hd : decode M.2.1 pc = .ok (.iconst n, 1)) (hn : ii n) (k : J X M d mc ms (pc + 1) ls (vI n :: st) σ Q) : J X M d mc ms pc ls st σ Q :=
  J_q k (fun B b hx hb _ _ _ kk => lv_iconst hx hb hd rfl kk) (fun h => ok_ci hn h)
theorem J_bipush {n : Int} (hd : decode M.2.1 pc = .ok (.bipush n, 2)) (hn : ii n) (he : (Int8.ofInt n).toInt32 = Int32.ofInt n) (k : J X M d mc ms (pc + 2) ls (vI n :: st) σ Q) : J X M d mc ms pc ls st σ Q :=
  J_q k (fun B b hx hb _ _ _ kk => lv_bipush hx hb hd he kk) (fun h => ok_ci hn h)
theorem J_sipush {n : Int} (hd : decode M.2.1 pc = .ok (.sipush n, 3)) (hn : ii n) (he : (Int16.ofInt n).toInt32 = Int32.ofInt n) (k : J X M d mc ms (pc + 3) ls (vI n :: st) σ Q) : J X M d mc ms pc ls st σ Q :=
  J_q k (fun B b hx hb _ _ _ kk => lv_sipush hx hb hd he kk) (fun h => ok_ci hn h)
theorem J_lconst {n : Fin 2} (z : Int) (hd : decode M.2.1 pc = .ok (.lconst n, 1)) (hz : ll z) (he : Int64.ofNat (n : Nat) = Int64.ofInt z) (k : J X M d mc ms (pc + 1) ls (vL z :: st) σ Q) : J X M d mc ms pc ls st σ Q :=
  J_q k (fun B b hx hb _ _ _ kk => lv_lconst hx hb hd he kk) (fun h => ok_cl hz h)
theorem J_ldc {i : Nat} (z : Int) (hd : decode M.2.1 pc = .ok (.ldc i, 2)) (hw : Cond.constant M.1.cls i (Int32.ofInt z) ∈ GT) (hz : ii z) (k : J X M d mc ms (pc + 2) ls (vI z :: st) σ Q) : J X M d mc ms pc ls st σ Q :=
  J_q k (fun B b hx hb ho ht _ kk => lv_ldc hx hb ho (ht _ hw) hd kk) (fun h => ok_ci hz h)
theorem J_ldcw {i : Nat} (z : Int) (hd : decode M.2.1 pc = .ok (.ldc_w i, 3)) (hw : Cond.constant M.1.cls i (Int32.ofInt z) ∈ GT) (hz : ii z) (k : J X M d mc ms (pc + 3) ls (vI z :: st) σ Q) : J X M d mc ms pc ls st σ Q :=
  J_q k (fun B b hx hb ho ht _ kk => lv_ldcw hx hb ho (ht _ hw) hd kk) (fun h => ok_ci hz h)
theorem J_ldc2 {i : Nat} (z : Int) (hd : decode M.2.1 pc = .ok (.ldc2_w i, 3)) (hw : Cond.constantLong M.1.cls i (Int64.ofInt z) ∈ GT) (hz : ll z) (k : J X M d mc ms (pc + 3) ls (vL z :: st) σ Q) : J X M d mc ms pc ls st σ Q :=
  J_q k (fun B b hx hb ho ht _ kk => lv_ldc2 hx hb ho (ht _ hw) hd kk) (fun h => ok_cl hz h)
theorem J_iadd {x y : Int} (hd : decode M.2.1 pc = .ok (.iadd, 1)) (k : J X M d mc ms (pc + 1) ls (vI (wr (x + y)) :: st) σ Q) : J X M d mc ms pc ls (vI y :: vI x :: st) σ Q :=
  J_q k (fun B b hx hb _ _ _ kk => lv_iadd hx hb hd (by simpa [cv, wr_of, Int32.ofInt_add] using kk)) (fun h => ok_ci (wr_ii _) (ok_t (ok_t h)))
theorem J_isub {x y : Int} (hd : decode M.2.1 pc = .ok (.isub, 1)) (k : J X M d mc ms (pc + 1) ls (vI (wr (x - y)) :: st) σ Q) : J X M d mc ms pc ls (vI y :: vI x :: st) σ Q :=
  J_q k (fun B b hx hb _ _ _ kk => lv_isub hx hb hd (by simpa [cv, wr_of, Int32.ofInt_sub] using kk)) (fun h => ok_ci (wr_ii _) (ok_t (ok_t h)))
theorem J_imul {x y : Int} (hd : decode M.2.1 pc = .ok (.imul, 1)) (k : J X M d mc ms (pc + 1) ls (vI (wr (x * y)) :: st) σ Q) : J X M d mc ms pc ls (vI y :: vI x :: st) σ Q :=
  J_q k (fun B b hx hb _ _ _ kk => lv_imul hx hb hd (by simpa [cv, wr_of, Int32.ofInt_mul] using kk)) (fun h => ok_ci (wr_ii _) (ok_t (ok_t h)))
theorem J_ladd {x y : Int} (hd : decode M.2.1 pc = .ok (.ladd, 1)) (k : J X M d mc ms (pc + 1) ls (vL (wl (x + y)) :: st) σ Q) : J X M d mc ms pc ls (vL y :: vL x :: st) σ Q :=
  J_q k (fun B b hx hb _ _ _ kk => lv_ladd hx hb hd (by simpa [cv, wl_of, Int64.ofInt_add] using kk)) (fun h => ok_cl (wl_ll _) (ok_t (ok_t h)))
theorem J_lsub {x y : Int} (hd : decode M.2.1 pc = .ok (.lsub, 1)) (k : J X M d mc ms (pc + 1) ls (vL (wl (x - y)) :: st) σ Q) : J X M d mc ms pc ls (vL y :: vL x :: st) σ Q :=
  J_q k (fun B b hx hb _ _ _ kk => lv_lsub hx hb hd (by simpa [cv, wl_of, Int64.ofInt_sub] using kk)) (fun h => ok_cl (wl_ll _) (ok_t (ok_t h)))
theorem J_lmul {x y : Int} (hd : decode M.2.1 pc = .ok (.lmul, 1)) (k : J X M d mc ms (pc + 1) ls (vL (wl (x * y)) :: st) σ Q) : J X M d mc ms pc ls (vL y :: vL x :: st) σ Q :=
  J_q k (fun B b hx hb _ _ _ kk => lv_lmul hx hb hd (by simpa [cv, wl_of, Int64.ofInt_mul] using kk)) (fun h => ok_cl (wl_ll _) (ok_t (ok_t h)))
def oA (x y : Int) : Int := (Int32.ofInt x &&& Int32.ofInt y).toInt
def oO (x y : Int) : Int := (Int32.ofInt x ||| Int32.ofInt y).toInt
def oX (x y : Int) : Int := (Int32.ofInt x ^^^ Int32.ofInt y).toInt
def oSl (x y : Int) : Int := (Int32.ofInt x <<< (Int32.ofInt y &&& 31)).toInt
def oSr (x y : Int) : Int := (Int32.ofInt x >>> (Int32.ofInt y &&& 31)).toInt
def oUr (x y : Int) : Int := ((Int32.ofInt x).toUInt32 >>> ((Int32.ofInt y).toUInt32 &&& Int32.toUInt32 31)).toInt32.toInt
def lA (x y : Int) : Int := (Int64.ofInt x &&& Int64.ofInt y).toInt
def lO (x y : Int) : Int := (Int64.ofInt x ||| Int64.ofInt y).toInt
def lX (x y : Int) : Int := (Int64.ofInt x ^^^ Int64.ofInt y).toInt
def lSl (x y : Int) : Int := (Int64.ofInt x <<< ((Int32.ofInt y).toInt64 &&& 63)).toInt
def lUr (x y : Int) : Int := ((Int64.ofInt x).toUInt64 >>> ((Int32.ofInt y).toInt64.toUInt64 &&& Int64.toUInt64 63)).toInt64.toInt
theorem J_iand {x y : Int} (hd : decode M.2.1 pc = .ok (.iand, 1)) (k : J X M d mc ms (pc + 1) ls (vI (oA x y) :: st) σ Q) : J X M d mc ms pc ls (vI y :: vI x :: st) σ Q :=
  J_q k (fun B b hx hb _ _ _ kk => lv_iand hx hb hd (by simpa [cv, oA, Int32.ofInt_toInt] using kk)) (fun h => ok_ci (ii_of _) (ok_t (ok_t h)))
theorem J_ior {x y : Int} (hd : decode M.2.1 pc = .ok (.ior, 1)) (k : J X M d mc ms (pc + 1) ls (vI (oO x y) :: st) σ Q) : J X M d mc ms pc ls (vI y :: vI x :: st) σ Q :=
  J_q k (fun B b hx hb _ _ _ kk => lv_ior hx hb hd (by simpa [cv, oO, Int32.ofInt_toInt] using kk)) (fun h => ok_ci (ii_of _) (ok_t (ok_t h)))
theorem J_ixor {x y : Int} (hd : decode M.2.1 pc = .ok (.ixor, 1)) (k : J X M d mc ms (pc + 1) ls (vI (oX x y) :: st) σ Q) : J X M d mc ms pc ls (vI y :: vI x :: st) σ Q :=
  J_q k (fun B b hx hb _ _ _ kk => lv_ixor hx hb hd (by simpa [cv, oX, Int32.ofInt_toInt] using kk)) (fun h => ok_ci (ii_of _) (ok_t (ok_t h)))
theorem J_ishl {x y : Int} (hd : decode M.2.1 pc = .ok (.ishl, 1)) (k : J X M d mc ms (pc + 1) ls (vI (oSl x y) :: st) σ Q) : J X M d mc ms pc ls (vI y :: vI x :: st) σ Q :=
  J_q k (fun B b hx hb _ _ _ kk => lv_ishl hx hb hd (by simpa [cv, oSl, Int32.ofInt_toInt] using kk)) (fun h => ok_ci (ii_of _) (ok_t (ok_t h)))
theorem J_ishr {x y : Int} (hd : decode M.2.1 pc = .ok (.ishr, 1)) (k : J X M d mc ms (pc + 1) ls (vI (oSr x y) :: st) σ Q) : J X M d mc ms pc ls (vI y :: vI x :: st) σ Q :=
  J_q k (fun B b hx hb _ _ _ kk => lv_ishr hx hb hd (by simpa [cv, oSr, Int32.ofInt_toInt] using kk)) (fun h => ok_ci (ii_of _) (ok_t (ok_t h)))
theorem J_iushr {x y : Int} (hd : decode M.2.1 pc = .ok (.iushr, 1)) (k : J X M d mc ms (pc + 1) ls (vI (oUr x y) :: st) σ Q) : J X M d mc ms pc ls (vI y :: vI x :: st) σ Q :=
  J_q k (fun B b hx hb _ _ _ kk => lv_iushr (v := _) hx hb hd (Int32.ofInt_toInt _).symm kk) (fun h => ok_ci (ii_of _) (ok_t (ok_t h)))
theorem J_land {x y : Int} (hd : decode M.2.1 pc = .ok (.land, 1)) (k : J X M d mc ms (pc + 1) ls (vL (lA x y) :: st) σ Q) : J X M d mc ms pc ls (vL y :: vL x :: st) σ Q :=
  J_q k (fun B b hx hb _ _ _ kk => lv_land hx hb hd (by simpa [cv, lA, Int64.ofInt_toInt] using kk)) (fun h => ok_cl (ll_of _) (ok_t (ok_t h)))
theorem J_lor {x y : Int} (hd : decode M.2.1 pc = .ok (.lor, 1)) (k : J X M d mc ms (pc + 1) ls (vL (lO x y) :: st) σ Q) : J X M d mc ms pc ls (vL y :: vL x :: st) σ Q :=
  J_q k (fun B b hx hb _ _ _ kk => lv_lor hx hb hd (by simpa [cv, lO, Int64.ofInt_toInt] using kk)) (fun h => ok_cl (ll_of _) (ok_t (ok_t h)))
theorem J_lxor {x y : Int} (hd : decode M.2.1 pc = .ok (.lxor, 1)) (k : J X M d mc ms (pc + 1) ls (vL (lX x y) :: st) σ Q) : J X M d mc ms pc ls (vL y :: vL x :: st) σ Q :=
  J_q k (fun B b hx hb _ _ _ kk => lv_lxor hx hb hd (by simpa [cv, lX, Int64.ofInt_toInt] using kk)) (fun h => ok_cl (ll_of _) (ok_t (ok_t h)))
theorem J_lshl {x y : Int} (hd : decode M.2.1 pc = .ok (.lshl, 1)) (k : J X M d mc ms (pc + 1) ls (vL (lSl x y) :: st) σ Q) : J X M d mc ms pc ls (vI y :: vL x :: st) σ Q :=
  J_q k (fun B b hx hb _ _ _ kk => lv_lshl hx hb hd (Int64.ofInt_toInt _).symm kk) (fun h => ok_cl (ll_of _) (ok_t (ok_t h)))
theorem J_lushr {x y : Int} (hd : decode M.2.1 pc = .ok (.lushr, 1)) (k : J X M d mc ms (pc + 1) ls (vL (lUr x y) :: st) σ Q) : J X M d mc ms pc ls (vI y :: vL x :: st) σ Q :=
  J_q k (fun B b hx hb _ _ _ kk => lv_lushr hx hb hd (Int64.ofInt_toInt _).symm kk) (fun h => ok_cl (ll_of _) (ok_t (ok_t h)))
end JJ
end
section
section JK
variable {X : Option (Nat × (Nat → Int32))} {M : MD} {d mc ms pc : Nat} {ls : List (Nat × AV)} {st : List AV} {σ : AH} {Q : Option AV → AH → Prop}
def oD (x y : Int) : Int := (Int32.ofInt x / Int32.ofInt y).toInt
def oM (x y : Int) : Int := (Int32.ofInt x - Int32.ofInt x / Int32.ofInt y * Int32.ofInt y).toInt
def lD (x y : Int) : Int := (Int64.ofInt x / Int64.ofInt y).toInt
def lM (x y : Int) : Int := (Int64.ofInt x - Int64.ofInt x / Int64.ofInt y * Int64.ofInt y).toInt
def lC (x y : Int) : Int := if y < x then 1 else if x = y then 0 else -1
def l2 (x : Int) : Int := (Int64.ofInt x).toInt32.toInt
theorem nz_i {y : Int} (hy : ii y) (h : y ≠ 0) : ¬ Int32.ofInt y = 0 := fun e => h ((io_eq hy ii_0).mp (e.trans io_0.symm))
theorem ll_0 : ll 0 := by unfold ll; omega
theorem jo_0 : Int64.ofInt 0 = 0 := by decide
theorem nz_l {y : Int} (hy : ll y) (h : y ≠ 0) : ¬ Int64.ofInt y = 0 := fun e => h ((jo_eq hy ll_0).mp (e.trans jo_0.symm))
theorem lC_ii (x y : Int) : ii (lC x y) := by
  unfold lC ii; split
  · omega
  · split <;> omega
theorem lC_of {x y : Int} (hx : ll x) (hy : ll y) : lg_cmp (Int64.ofInt x) (Int64.ofInt y) = Int32.ofInt (lC x y) := by
  unfold lg_cmp lC
  simp only [gt_iff_lt, jo_lt hy hx, jo_eq hx hy]
  split
  · rfl
  · split <;> rfl
theorem i2_of {x : Int} (hx : ii x) : (Int32.ofInt x).toInt64 = Int64.ofInt x := by
  apply Int64.toInt_inj.mp
  rw [Int32.toInt_toInt64, ii_ofI hx, ll_ofI]
  unfold ii at hx; unfold ll; omega
theorem ii_ll {x : Int} (hx : ii x) : ll x := by unfold ii at hx; unfold ll; omega
theorem J_idiv {x y : Int} (hd : decode M.2.1 pc = .ok (.idiv, 1)) (h0 : y ≠ 0) (k : J X M d mc ms (pc + 1) ls (vI (oD x y) :: st) σ Q) : J X M d mc ms pc ls (vI y :: vI x :: st) σ Q :=
  J_q k (fun B b hx hb _ _ ho kk => lv_idiv hx hb hd (nz_i (ok_h ho) h0) (by simpa only [cv, oD, Int32.ofInt_toInt, List.map] using kk)) (fun h => ok_ci (ii_of _) (ok_t (ok_t h)))
theorem J_irem {x y : Int} (hd : decode M.2.1 pc = .ok (.irem, 1)) (h0 : y ≠ 0) (k : J X M d mc ms (pc + 1) ls (vI (oM x y) :: st) σ Q) : J X M d mc ms pc ls (vI y :: vI x :: st) σ Q :=
  J_q k (fun B b hx hb _ _ ho kk => lv_irem hx hb hd (nz_i (ok_h ho) h0) (by simpa only [cv, oM, Int32.ofInt_toInt, List.map] using kk)) (fun h => ok_ci (ii_of _) (ok_t (ok_t h)))
theorem J_ldiv {x y : Int} (hd : decode M.2.1 pc = .ok (.ldiv, 1)) (h0 : y ≠ 0) (k : J X M d mc ms (pc + 1) ls (vL (lD x y) :: st) σ Q) : J X M d mc ms pc ls (vL y :: vL x :: st) σ Q :=
  J_q k (fun B b hx hb _ _ ho kk => lv_ldiv hx hb hd (nz_l (ok_h ho) h0) (by simpa only [cv, lD, Int64.ofInt_toInt, List.map] using kk)) (fun h => ok_cl (ll_of _) (ok_t (ok_t h)))
theorem J_lrem {x y : Int} (hd : decode M.2.1 pc = .ok (.lrem, 1)) (h0 : y ≠ 0) (k : J X M d mc ms (pc + 1) ls (vL (lM x y) :: st) σ Q) : J X M d mc ms pc ls (vL y :: vL x :: st) σ Q :=
  J_q k (fun B b hx hb _ _ ho kk => lv_lrem hx hb hd (nz_l (ok_h ho) h0) (by simpa only [cv, lM, Int64.ofInt_toInt, List.map] using kk)) (fun h => ok_cl (ll_of _) (ok_t (ok_t h)))
theorem J_lcmp {x y : Int} (hd : decode M.2.1 pc = .ok (.lcmp, 1)) (k : J X M d mc ms (pc + 1) ls (vI (lC x y) :: st) σ Q) : J X M d mc ms pc ls (vL y :: vL x :: st) σ Q :=
  J_q k (fun B b hx hb _ _ ho kk => W.lcmp hx hb hd (by rw [lC_of (ok_h (ok_t ho)) (ok_h ho)]; exact kk)) (fun h => ok_ci (lC_ii _ _) (ok_t (ok_t h)))
theorem J_i2l {x : Int} (hd : decode M.2.1 pc = .ok (.i2l, 1)) (k : J X M d mc ms (pc + 1) ls (vL x :: st) σ Q) : J X M d mc ms pc ls (vI x :: st) σ Q :=
  J_q k (fun B b hx hb _ _ ho kk => lv_i2l hx hb hd (i2_of (ok_h ho)) kk) (fun h => ok_cl (ii_ll (ok_h h)) (ok_t h))
theorem J_l2i {x : Int} (hd : decode M.2.1 pc = .ok (.l2i, 1)) (k : J X M d mc ms (pc + 1) ls (vI (l2 x) :: st) σ Q) : J X M d mc ms pc ls (vL x :: st) σ Q :=
  J_q k (fun B b hx hb _ _ ho kk => lv_l2i hx hb hd (Int32.ofInt_toInt _).symm kk) (fun h => ok_ci (ii_of _) (ok_t h))
theorem J_dup {v : AV} (hd : decode M.2.1 pc = .ok (.dup, 1)) (h1 : ct v = 1) (k : J X M d mc ms (pc + 1) ls (v :: v :: st) σ Q) : J X M d mc ms pc ls (v :: st) σ Q :=
  J_q k (fun B b hx hb _ _ ho kk => lv_dup hx hb hd ((cv_ct B b v).trans h1) kk) (fun h => ok_c (ok_h h) h)
theorem J_pop {v : AV} (hd : decode M.2.1 pc = .ok (.pop, 1)) (h1 : ct v = 1) (k : J X M d mc ms (pc + 1) ls st σ Q) : J X M d mc ms pc ls (v :: st) σ Q :=
  J_q k (fun B b hx hb _ _ ho kk => lv_pop hx hb hd ((cv_ct B b v).trans h1) kk) (fun h => ok_t h)
theorem J_dup_x1 {v w : AV} (hd : decode M.2.1 pc = .ok (.dup_x1, 1)) (h1 : ct v = 1) (h2 : ct w = 1) (k : J X M d mc ms (pc + 1) ls (v :: w :: v :: st) σ Q) : J X M d mc ms pc ls (v :: w :: st) σ Q :=
  J_q k (fun B b hx hb _ _ ho kk => lv_dup_x1 hx hb hd ((cv_ct B b v).trans h1) ((cv_ct B b w).trans h2) kk) (fun h => ok_c (ok_h h) (ok_c (ok_h (ok_t h)) (ok_c (ok_h h) (ok_t (ok_t h)))))
theorem J_dup_x2 {v w u : AV} (hd : decode M.2.1 pc = .ok (.dup_x2, 1)) (h1 : ct v = 1) (h2 : ct w = 1) (h3 : ct u = 1) (k : J X M d mc ms (pc + 1) ls (v :: w :: u :: v :: st) σ Q) : J X M d mc ms pc ls (v :: w :: u :: st) σ Q :=
  J_q k (fun B b hx hb _ _ ho kk => lv_dup_x2 hx hb hd ((cv_ct B b v).trans h1) ((cv_ct B b w).trans h2) ((cv_ct B b u).trans h3) kk) (fun h => ok_c (ok_h h) (ok_c (ok_h (ok_t h)) (ok_c (ok_h (ok_t (ok_t h))) (ok_c (ok_h h) (ok_t (ok_t (ok_t h)))))))
theorem J_dup2 {v w : AV} (hd : decode M.2.1 pc = .ok (.dup2, 1)) (h1 : ct v = 1) (h2 : ct w = 1) (k : J X M d mc ms (pc + 1) ls (v :: w :: v :: w :: st) σ Q) : J X M d mc ms pc ls (v :: w :: st) σ Q :=
  J_q k (fun B b hx hb _ _ ho kk => lv_dup2_11 hx hb hd ((cv_ct B b v).trans h1) ((cv_ct B b w).trans h2) kk) (fun h => ok_c (ok_h h) (ok_c (ok_h (ok_t h)) h))
theorem J_dup2_l {v : AV} (hd : decode M.2.1 pc = .ok (.dup2, 1)) (h1 : ct v = 2) (k : J X M d mc ms (pc + 1) ls (v :: v :: st) σ Q) : J X M d mc ms pc ls (v :: st) σ Q :=
  J_q k (fun B b hx hb _ _ ho kk => lv_dup2_2 hx hb hd ((cv_ct B b v).trans h1) kk) (fun h => ok_c (ok_h h) h)
theorem J_goto {off : Int} {tgt : Nat} (hd : decode M.2.1 pc = .ok (.goto off, 3)) (ht : (pc : Int) + off = (tgt : Int)) (k : J X M d mc ms tgt ls st σ Q) : J X M d mc ms pc ls st σ Q :=
  J_q k (fun B b hx hb _ _ ho kk => lv_goto hx hb hd ht kk) (fun h => h)
theorem J_if_eq {x : Int} {off : Int} {tgt : Nat} (hd : decode M.2.1 pc = .ok (.ifCond .eq off, 3)) (ht : (pc : Int) + off = (tgt : Int)) (kt : x = 0 → J X M d mc ms tgt ls st σ Q) (kf : ¬ (x = 0) → J X M d mc ms (pc + 3) ls st σ Q) : J X M d mc ms pc ls (vI x :: st) σ Q := by
  intro p l e R s m args below meth c D B b dA E C0 S0 Z cx hR he H locs cells slots lsC hH hS h1 h2 hl hol hos
  have hxx : ii x := ok_h hos
  exact lv_if_eq cx.1 cx.2.1 hd ht (fun z => kt ((io_eq hxx ii_0).mp (by rw [io_0]; exact z)) p l e R s m args below meth c D B b dA E C0 S0 Z cx hR he H locs cells slots lsC hH hS h1 h2 hl hol (ok_t hos)) (fun z => kf (fun w => z (by have w2 := (io_eq hxx ii_0).mpr w; rwa [io_0] at w2)) p l e R s m args below meth c D B b dA E C0 S0 Z cx hR he H locs cells slots lsC hH hS h1 h2 hl hol (ok_t hos))
theorem J_if_ne {x : Int} {off : Int} {tgt : Nat} (hd : decode M.2.1 pc = .ok (.ifCond .ne off, 3)) (ht : (pc : Int) + off = (tgt : Int)) (kt : x ≠ 0 → J X M d mc ms tgt ls st σ Q) (kf : x = 0 → J X M d mc ms (pc + 3) ls st σ Q) : J X M d mc ms pc ls (vI x :: st) σ Q := by
  intro p l e R s m args below meth c D B b dA E C0 S0 Z cx hR he H locs cells slots lsC hH hS h1 h2 hl hol hos
  have hxx : ii x := ok_h hos
  exact lv_if_ne cx.1 cx.2.1 hd ht (fun z => kt (fun w => z (by rw [w]; exact io_0)) p l e R s m args below meth c D B b dA E C0 S0 Z cx hR he H locs cells slots lsC hH hS h1 h2 hl hol (ok_t hos)) (fun z => kf ((io_eq hxx ii_0).mp (z.trans io_0.symm)) p l e R s m args below meth c D B b dA E C0 S0 Z cx hR he H locs cells slots lsC hH hS h1 h2 hl hol (ok_t hos))
theorem J_if_lt {x : Int} {off : Int} {tgt : Nat} (hd : decode M.2.1 pc = .ok (.ifCond .lt off, 3)) (ht : (pc : Int) + off = (tgt : Int)) (kt : x < 0 → J X M d mc ms tgt ls st σ Q) (kf : ¬ (x < 0) → J X M d mc ms (pc + 3) ls st σ Q) : J X M d mc ms pc ls (vI x :: st) σ Q := by
  intro p l e R s m args below meth c D B b dA E C0 S0 Z cx hR he H locs cells slots lsC hH hS h1 h2 hl hol hos
  have hxx : ii x := ok_h hos
  exact lv_if_lt cx.1 cx.2.1 hd ht (fun z => kt ((io_lt hxx ii_0).mp (by rw [io_0]; exact z)) p l e R s m args below meth c D B b dA E C0 S0 Z cx hR he H locs cells slots lsC hH hS h1 h2 hl hol (ok_t hos)) (fun z => kf (fun w => z (by have w2 := (io_lt hxx ii_0).mpr w; rwa [io_0] at w2)) p l e R s m args below meth c D B b dA E C0 S0 Z cx hR he H locs cells slots lsC hH hS h1 h2 hl hol (ok_t hos))
theorem J_if_ge {x : Int} {off : Int} {tgt : Nat} (hd : decode M.2.1 pc = .ok (.ifCond .ge off, 3)) (ht : (pc : Int) + off = (tgt : Int)) (kt : 0 ≤ x → J X M d mc ms tgt ls st σ Q) (kf : ¬ (0 ≤ x) → J X M d mc ms (pc + 3) ls st σ Q) : J X M d mc ms pc ls (vI x :: st) σ Q := by
  intro p l e R s m args below meth c D B b dA E C0 S0 Z cx hR he H locs cells slots lsC hH hS h1 h2 hl hol hos
  have hxx : ii x := ok_h hos
  exact lv_if_ge cx.1 cx.2.1 hd ht (fun z => kt ((io_le ii_0 hxx).mp (by rw [io_0]; exact z)) p l e R s m args below meth c D B b dA E C0 S0 Z cx hR he H locs cells slots lsC hH hS h1 h2 hl hol (ok_t hos)) (fun z => kf (fun w => z (by have w2 := (io_le ii_0 hxx).mpr w; rwa [io_0] at w2)) p l e R s m args below meth c D B b dA E C0 S0 Z cx hR he H locs cells slots lsC hH hS h1 h2 hl hol (ok_t hos))
theorem J_if_gt {x : Int} {off : Int} {tgt : Nat} (hd : decode M.2.1 pc = .ok (.ifCond .gt off, 3)) (ht : (pc : Int) + off = (tgt : Int)) (kt : 0 < x → J X M d mc ms tgt ls st σ Q) (kf : ¬ (0 < x) → J X M d mc ms (pc + 3) ls st σ Q) : J X M d mc ms pc ls (vI x :: st) σ Q := by
  intro p l e R s m args below meth c D B b dA E C0 S0 Z cx hR he H locs cells slots lsC hH hS h1 h2 hl hol hos
  have hxx : ii x := ok_h hos
  exact lv_if_gt cx.1 cx.2.1 hd ht (fun z => kt ((io_lt ii_0 hxx).mp (by rw [io_0]; exact z)) p l e R s m args below meth c D B b dA E C0 S0 Z cx hR he H locs cells slots lsC hH hS h1 h2 hl hol (ok_t hos)) (fun z => kf (fun w => z (by have w2 := (io_lt ii_0 hxx).mpr w; rwa [io_0] at w2)) p l e R s m args below meth c D B b dA E C0 S0 Z cx hR he H locs cells slots lsC hH hS h1 h2 hl hol (ok_t hos))
theorem J_if_le {x : Int} {off : Int} {tgt : Nat} (hd : decode M.2.1 pc = .ok (.ifCond .le off, 3)) (ht : (pc : Int) + off = (tgt : Int)) (kt : x ≤ 0 → J X M d mc ms tgt ls st σ Q) (kf : ¬ (x ≤ 0) → J X M d mc ms (pc + 3) ls st σ Q) : J X M d mc ms pc ls (vI x :: st) σ Q := by
  intro p l e R s m args below meth c D B b dA E C0 S0 Z cx hR he H locs cells slots lsC hH hS h1 h2 hl hol hos
  have hxx : ii x := ok_h hos
  exact lv_if_le cx.1 cx.2.1 hd ht (fun z => kt ((io_le hxx ii_0).mp (by rw [io_0]; exact z)) p l e R s m args below meth c D B b dA E C0 S0 Z cx hR he H locs cells slots lsC hH hS h1 h2 hl hol (ok_t hos)) (fun z => kf (fun w => z (by have w2 := (io_le hxx ii_0).mpr w; rwa [io_0] at w2)) p l e R s m args below meth c D B b dA E C0 S0 Z cx hR he H locs cells slots lsC hH hS h1 h2 hl hol (ok_t hos))
theorem J_ic_eq {x y : Int} {off : Int} {tgt : Nat} (hd : decode M.2.1 pc = .ok (.if_icmp .eq off, 3)) (ht : (pc : Int) + off = (tgt : Int)) (kt : x = y → J X M d mc ms tgt ls st σ Q) (kf : ¬ (x = y) → J X M d mc ms (pc + 3) ls st σ Q) : J X M d mc ms pc ls (vI y :: vI x :: st) σ Q := by
  intro p l e R s m args below meth c D B b dA E C0 S0 Z cx hR he H locs cells slots lsC hH hS h1 h2 hl hol hos
  have hyy : ii y := ok_h hos
  have hxx : ii x := ok_h (ok_t hos)
  exact lv_icmp_eq cx.1 cx.2.1 hd ht (fun z => kt ((io_eq hxx hyy).mp z) p l e R s m args below meth c D B b dA E C0 S0 Z cx hR he H locs cells slots lsC hH hS h1 h2 hl hol (ok_t (ok_t hos))) (fun z => kf (fun w => z ((io_eq hxx hyy).mpr w)) p l e R s m args below meth c D B b dA E C0 S0 Z cx hR he H locs cells slots lsC hH hS h1 h2 hl hol (ok_t (ok_t hos)))
theorem J_ic_ne {x y : Int} {off : Int} {tgt : Nat} (hd : decode M.2.1 pc = .ok (.if_icmp .ne off, 3)) (ht : (pc : Int) + off = (tgt : Int)) (kt : x ≠ y → J X M d mc ms tgt ls st σ Q) (kf : x = y → J X M d mc ms (pc + 3) ls st σ Q) : J X M d mc ms pc ls (vI y :: vI x :: st) σ Q := by
  intro p l e R s m args below meth c D B b dA E C0 S0 Z cx hR he H locs cells slots lsC hH hS h1 h2 hl hol hos
  have hyy : ii y := ok_h hos
  have hxx : ii x := ok_h (ok_t hos)
  exact lv_icmp_ne cx.1 cx.2.1 hd ht (fun z => kt (fun w => z (by rw [w])) p l e R s m args below meth c D B b dA E C0 S0 Z cx hR he H locs cells slots lsC hH hS h1 h2 hl hol (ok_t (ok_t hos))) (fun z => kf ((io_eq hxx hyy).mp z) p l e R s m args below meth c D B b dA E C0 S0 Z cx hR he H locs cells slots lsC hH hS h1 h2 hl hol (ok_t (ok_t hos)))
theorem J_ic_lt {x y : Int} {off : Int} {tgt : Nat} (hd : decode M.2.1 pc = .ok (.if_icmp .lt off, 3)) (ht : (pc : Int) + off = (tgt : Int)) (kt : x < y → J X M d mc ms tgt ls st σ Q) (kf : ¬ (x < y) → J X M d mc ms (pc + 3) ls st σ Q) : J X M d mc ms pc ls (vI y :: vI x :: st) σ Q := by
  intro p l e R s m args below meth c D B b dA E C0 S0 Z cx hR he H locs cells slots lsC hH hS h1 h2 hl hol hos
  have hyy : ii y := ok_h hos
  have hxx : ii x := ok_h (ok_t hos)
  exact lv_icmp_lt cx.1 cx.2.1 hd ht (fun z => kt ((io_lt hxx hyy).mp z) p l e R s m args below meth c D B b dA E C0 S0 Z cx hR he H locs cells slots lsC hH hS h1 h2 hl hol (ok_t (ok_t hos))) (fun z => kf (fun w => z ((io_lt hxx hyy).mpr w)) p l e R s m args below meth c D B b dA E C0 S0 Z cx hR he H locs cells slots lsC hH hS h1 h2 hl hol (ok_t (ok_t hos)))
theorem J_ic_ge {x y : Int} {off : Int} {tgt : Nat} (hd : decode M.2.1 pc = .ok (.if_icmp .ge off, 3)) (ht : (pc : Int) + off = (tgt : Int)) (kt : y ≤ x → J X M d mc ms tgt ls st σ Q) (kf : ¬ (y ≤ x) → J X M d mc ms (pc + 3) ls st σ Q) : J X M d mc ms pc ls (vI y :: vI x :: st) σ Q := by
  intro p l e R s m args below meth c D B b dA E C0 S0 Z cx hR he H locs cells slots lsC hH hS h1 h2 hl hol hos
  have hyy : ii y := ok_h hos
  have hxx : ii x := ok_h (ok_t hos)
  exact lv_icmp_ge cx.1 cx.2.1 hd ht (fun z => kt ((io_le hyy hxx).mp z) p l e R s m args below meth c D B b dA E C0 S0 Z cx hR he H locs cells slots lsC hH hS h1 h2 hl hol (ok_t (ok_t hos))) (fun z => kf (fun w => z ((io_le hyy hxx).mpr w)) p l e R s m args below meth c D B b dA E C0 S0 Z cx hR he H locs cells slots lsC hH hS h1 h2 hl hol (ok_t (ok_t hos)))
theorem J_ic_gt {x y : Int} {off : Int} {tgt : Nat} (hd : decode M.2.1 pc = .ok (.if_icmp .gt off, 3)) (ht : (pc : Int) + off = (tgt : Int)) (kt : y < x → J X M d mc ms tgt ls st σ Q) (kf : ¬ (y < x) → J X M d mc ms (pc + 3) ls st σ Q) : J X M d mc ms pc ls (vI y :: vI x :: st) σ Q := by
  intro p l e R s m args below meth c D B b dA E C0 S0 Z cx hR he H locs cells slots lsC hH hS h1 h2 hl hol hos
  have hyy : ii y := ok_h hos
  have hxx : ii x := ok_h (ok_t hos)
  exact lv_icmp_gt cx.1 cx.2.1 hd ht (fun z => kt ((io_lt hyy hxx).mp z) p l e R s m args below meth c D B b dA E C0 S0 Z cx hR he H locs cells slots lsC hH hS h1 h2 hl hol (ok_t (ok_t hos))) (fun z => kf (fun w => z ((io_lt hyy hxx).mpr w)) p l e R s m args below meth c D B b dA E C0 S0 Z cx hR he H locs cells slots lsC hH hS h1 h2 hl hol (ok_t (ok_t hos)))
theorem J_ic_le {x y : Int} {off : Int} {tgt : Nat} (hd : decode M.2.1 pc = .ok (.if_icmp .le off, 3)) (ht : (pc : Int) + off = (tgt : Int)) (kt : x ≤ y → J X M d mc ms tgt ls st σ Q) (kf : ¬ (x ≤ y) → J X M d mc ms (pc + 3) ls st σ Q) : J X M d mc ms pc ls (vI y :: vI x :: st) σ Q := by
  intro p l e R s m args below meth c D B b dA E C0 S0 Z cx hR he H locs cells slots lsC hH hS h1 h2 hl hol hos
  have hyy : ii y := ok_h hos
  have hxx : ii x := ok_h (ok_t hos)
  exact lv_icmp_le cx.1 cx.2.1 hd ht (fun z => kt ((io_le hxx hyy).mp z) p l e R s m args below meth c D B b dA E C0 S0 Z cx hR he H locs cells slots lsC hH hS h1 h2 hl hol (ok_t (ok_t hos))) (fun z => kf (fun w => z ((io_le hxx hyy).mpr w)) p l e R s m args below meth c D B b dA E C0 S0 Z cx hR he H locs cells slots lsC hH hS h1 h2 hl hol (ok_t (ok_t hos)))
def lget : List (Nat × AV) → Nat → Option AV
  | [], _ => none
  | (j, v) :: t, i => bif j == i then some v else lget t i
theorem lget_mem : ∀ {ls : List (Nat × AV)} {i : Nat} {v : AV}, lget ls i = some v → (i, v) ∈ ls
  | [], _, _, h => by cases h
  | (j, w) :: t, i, v, h => by
    unfold lget at h
    cases hj : j == i with
    | true =>
      rw [hj] at h
      have e : j = i := by simpa using hj
      cases h; subst e; exact List.mem_cons_self
    | false =>
      rw [hj] at h
      exact List.mem_cons_of_mem _ (lget_mem h)
def lkeep (i : Nat) (n : Nat) (q : Nat × AV) : Bool := !(q.1 == i) && (!(n == 2 && q.1 == i + 1) && !(q.1 + 1 == i && ct q.2 == 2))
def lins (i : Nat) (v : AV) : List (Nat × AV) → List (Nat × AV)
  | [] => [(i, v)]
  | q :: t => bif Nat.ble i q.1 then (i, v) :: q :: t else q :: lins i v t
def lset (ls : List (Nat × AV)) (i : Nat) (v : AV) : List (Nat × AV) := lins i v (ls.filter (lkeep i (ct v)))
theorem lins_mem {i : Nat} {v : AV} : ∀ {ls : List (Nat × AV)} {q : Nat × AV}, q ∈ lins i v ls → q = (i, v) ∨ q ∈ ls
  | [], q, h => by
    simp only [lins, List.mem_singleton] at h
    exact Or.inl h
  | a :: t, q, h => by
    unfold lins at h
    cases hb : Nat.ble i a.1 with
    | true =>
      rw [hb] at h
      rcases List.mem_cons.mp h with h | h
      · exact Or.inl h
      · exact Or.inr h
    | false =>
      rw [hb] at h
      rcases List.mem_cons.mp h with h | h
      · exact Or.inr (by rw [h]; exact List.mem_cons_self)
      · rcases lins_mem h with h | h
        · exact Or.inl h
        · exact Or.inr (List.mem_cons_of_mem _ h)
theorem lset_ok {i : Nat} {v : AV} (hv : okv v) (h : ∀ q ∈ ls, okv q.2) : ∀ q ∈ lset ls i v, okv q.2 := by
  intro q hq
  rcases lins_mem hq with e | e
  · rw [e]; exact hv
  · exact h q (List.mem_filter.mp e).1
theorem lv_mem {lsC : Array Slot} {n : Nat} {l l' : List (Nat × Value)} (h : lv_has lsC n l) (hs : ∀ q ∈ l', q ∈ l) : lv_has lsC n l' := ⟨h.1, h.2.1, fun q hq => h.2.2 q (hs q hq)⟩
theorem lset_1 {B b i : Nat} {v : AV} (h1 : ct v = 1) : ∀ q ∈ (lset ls i v).map (fun q => (q.1, cv B b q.2)), q ∈ (i, cv B b v) :: (ls.map (fun q => (q.1, cv B b q.2))).filter (fun q => !(q.1 == i) && !(q.1 + 1 == i && q.2.category == 2)) := by
  intro q hq
  obtain ⟨a, ha, rfl⟩ := List.mem_map.mp hq
  rcases lins_mem ha with e | e
  · rw [e]; exact List.mem_cons_self
  · obtain ⟨e1, e2⟩ := List.mem_filter.mp e
    refine List.mem_cons_of_mem _ (List.mem_filter.mpr ⟨List.mem_map.mpr ⟨a, e1, rfl⟩, ?_⟩)
    simp only [lkeep, h1, Bool.and_eq_true] at e2
    simp only [cv_ct, Bool.and_eq_true]
    exact ⟨e2.1, e2.2.2⟩
theorem lset_2 {B b i : Nat} {v : AV} (h1 : ct v = 2) : ∀ q ∈ (lset ls i v).map (fun q => (q.1, cv B b q.2)), q ∈ (i, cv B b v) :: (ls.map (fun q => (q.1, cv B b q.2))).filter (fun q => !(q.1 == i) && (!(q.1 == i + 1) && !(q.1 + 1 == i && q.2.category == 2))) := by
  intro q hq
  obtain ⟨a, ha, rfl⟩ := List.mem_map.mp hq
  rcases lins_mem ha with e | e
  · rw [e]; exact List.mem_cons_self
  · obtain ⟨e1, e2⟩ := List.mem_filter.mp e
    refine List.mem_cons_of_mem _ (List.mem_filter.mpr ⟨List.mem_map.mpr ⟨a, e1, rfl⟩, ?_⟩)
    simp only [lkeep, h1, Bool.and_eq_true, beq_self_eq_true, Bool.true_and] at e2
    simp only [cv_ct, Bool.and_eq_true]
    exact e2
theorem J_loc {ls' : List (Nat × AV)} (h : ∀ q ∈ ls', q ∈ ls) (k : J X M d mc ms pc ls' st σ Q) : J X M d mc ms pc ls st σ Q := by
  intro p l e R s m args below meth c D B b dA E C0 S0 Z cx hR he H locs cells slots lsC hH hS h1 h2 hl hol hos
  refine k p l e R s m args below meth c D B b dA E C0 S0 Z cx hR he H locs cells slots lsC hH hS h1 h2 (lv_mem hl ?_) (fun q hq => hol q (h q hq)) hos
  intro q hq
  obtain ⟨a, ha, rfl⟩ := List.mem_map.mp hq
  exact List.mem_map.mpr ⟨a, h a ha, rfl⟩
theorem lat {lsC : Array Slot} {n B b i : Nat} {v : AV} (hl : lv_has lsC n (ls.map (fun q => (q.1, cv B b q.2)))) (hg : lget ls i = some v) : lsC[i]? = some (.val (cv B b v)) := hl.2.2 (i, cv B b v) (List.mem_map.mpr ⟨(i, v), lget_mem hg, rfl⟩)
theorem J_iload_n {x : Int} {i : Nat} {n : Fin 4} (hd : decode M.2.1 pc = .ok (.iload_n n, 1)) (hi : (n : Nat) = i) (hg : lget ls i = some (vI x)) (k : J X M d mc ms (pc + 1) ls (vI x :: st) σ Q) : J X M d mc ms pc ls st σ Q := by
  intro p l e R s m args below meth c D B b dA E C0 S0 Z cx hR he H locs cells slots lsC hH hS h1 h2 hl hol hos
  exact lv_iload_n cx.1 cx.2.1 hd hi (lat hl hg) (k p l e R s m args below meth c D B b dA E C0 S0 Z cx hR he H locs cells slots lsC hH hS h1 h2 hl hol (ok_c (hol _ (lget_mem hg)) hos))
theorem J_iload {x : Int} {i : Nat} (hd : decode M.2.1 pc = .ok (.iload i, 2)) (hg : lget ls i = some (vI x)) (k : J X M d mc ms (pc + 2) ls (vI x :: st) σ Q) : J X M d mc ms pc ls st σ Q := by
  intro p l e R s m args below meth c D B b dA E C0 S0 Z cx hR he H locs cells slots lsC hH hS h1 h2 hl hol hos
  exact lv_iload cx.1 cx.2.1 hd (lat hl hg) (k p l e R s m args below meth c D B b dA E C0 S0 Z cx hR he H locs cells slots lsC hH hS h1 h2 hl hol (ok_c (hol _ (lget_mem hg)) hos))
theorem J_lload_n {x : Int} {i : Nat} {n : Fin 4} (hd : decode M.2.1 pc = .ok (.lload_n n, 1)) (hi : (n : Nat) = i) (hg : lget ls i = some (vL x)) (k : J X M d mc ms (pc + 1) ls (vL x :: st) σ Q) : J X M d mc ms pc ls st σ Q := by
  intro p l e R s m args below meth c D B b dA E C0 S0 Z cx hR he H locs cells slots lsC hH hS h1 h2 hl hol hos
  exact lv_lload_n cx.1 cx.2.1 hd hi (lat hl hg) (k p l e R s m args below meth c D B b dA E C0 S0 Z cx hR he H locs cells slots lsC hH hS h1 h2 hl hol (ok_c (hol _ (lget_mem hg)) hos))
theorem J_lload {x : Int} {i : Nat} (hd : decode M.2.1 pc = .ok (.lload i, 2)) (hg : lget ls i = some (vL x)) (k : J X M d mc ms (pc + 2) ls (vL x :: st) σ Q) : J X M d mc ms pc ls st σ Q := by
  intro p l e R s m args below meth c D B b dA E C0 S0 Z cx hR he H locs cells slots lsC hH hS h1 h2 hl hol hos
  exact lv_lload cx.1 cx.2.1 hd (lat hl hg) (k p l e R s m args below meth c D B b dA E C0 S0 Z cx hR he H locs cells slots lsC hH hS h1 h2 hl hol (ok_c (hol _ (lget_mem hg)) hos))
theorem J_aload_n {x : Nat} {i : Nat} {n : Fin 4} (hd : decode M.2.1 pc = .ok (.aload_n n, 1)) (hi : (n : Nat) = i) (hg : lget ls i = some (vR x)) (k : J X M d mc ms (pc + 1) ls (vR x :: st) σ Q) : J X M d mc ms pc ls st σ Q := by
  intro p l e R s m args below meth c D B b dA E C0 S0 Z cx hR he H locs cells slots lsC hH hS h1 h2 hl hol hos
  exact lv_aload_n cx.1 cx.2.1 hd hi (lat hl hg) (k p l e R s m args below meth c D B b dA E C0 S0 Z cx hR he H locs cells slots lsC hH hS h1 h2 hl hol (ok_c (hol _ (lget_mem hg)) hos))
theorem J_aload {x : Nat} {i : Nat} (hd : decode M.2.1 pc = .ok (.aload i, 2)) (hg : lget ls i = some (vR x)) (k : J X M d mc ms (pc + 2) ls (vR x :: st) σ Q) : J X M d mc ms pc ls st σ Q := by
  intro p l e R s m args below meth c D B b dA E C0 S0 Z cx hR he H locs cells slots lsC hH hS h1 h2 hl hol hos
  exact lv_aload cx.1 cx.2.1 hd (lat hl hg) (k p l e R s m args below meth c D B b dA E C0 S0 Z cx hR he H locs cells slots lsC hH hS h1 h2 hl hol (ok_c (hol _ (lget_mem hg)) hos))
theorem J_xload_n {i : Nat} {n : Fin 4} (hd : decode M.2.1 pc = .ok (.aload_n n, 1)) (hi : (n : Nat) = i) (hg : lget ls i = some vX) (k : J X M d mc ms (pc + 1) ls (vX :: st) σ Q) : J X M d mc ms pc ls st σ Q := by
  intro p l e R s m args below meth c D B b dA E C0 S0 Z cx hR he H locs cells slots lsC hH hS h1 h2 hl hol hos
  exact lv_aload_n cx.1 cx.2.1 hd hi (lat hl hg) (k p l e R s m args below meth c D B b dA E C0 S0 Z cx hR he H locs cells slots lsC hH hS h1 h2 hl hol (ok_c (hol _ (lget_mem hg)) hos))
theorem J_istore_n {x : Int} {i : Nat} {n : Fin 4} (hd : decode M.2.1 pc = .ok (.istore_n n, 1)) (hi : (n : Nat) = i) (hn : i < M.2.2.1) (k : J X M d mc ms (pc + 1) (lset ls i (vI x)) st σ Q) : J X M d mc ms pc ls (vI x :: st) σ Q := by
  intro p l e R s m args below meth c D B b dA E C0 S0 Z cx hR he H locs cells slots lsC hH hS h1 h2 hl hol hos
  exact lv_istore_n cx.1 cx.2.1 hd hi hl hn rfl (fun ls' hl' => k p l e R s m args below meth c D B b dA E C0 S0 Z cx hR he H locs cells slots ls' hH hS h1 h2 (lv_mem hl' (lset_1 rfl)) (lset_ok (ok_h hos) hol) (ok_t hos))
theorem J_istore {x : Int} {i : Nat} (hd : decode M.2.1 pc = .ok (.istore i, 2)) (hn : i < M.2.2.1) (k : J X M d mc ms (pc + 2) (lset ls i (vI x)) st σ Q) : J X M d mc ms pc ls (vI x :: st) σ Q := by
  intro p l e R s m args below meth c D B b dA E C0 S0 Z cx hR he H locs cells slots lsC hH hS h1 h2 hl hol hos
  exact lv_istore cx.1 cx.2.1 hd hl hn rfl (fun ls' hl' => k p l e R s m args below meth c D B b dA E C0 S0 Z cx hR he H locs cells slots ls' hH hS h1 h2 (lv_mem hl' (lset_1 rfl)) (lset_ok (ok_h hos) hol) (ok_t hos))
theorem J_lstore_n {x : Int} {i : Nat} {n : Fin 4} (hd : decode M.2.1 pc = .ok (.lstore_n n, 1)) (hi : (n : Nat) = i) (hn : i + 1 < M.2.2.1) (k : J X M d mc ms (pc + 1) (lset ls i (vL x)) st σ Q) : J X M d mc ms pc ls (vL x :: st) σ Q := by
  intro p l e R s m args below meth c D B b dA E C0 S0 Z cx hR he H locs cells slots lsC hH hS h1 h2 hl hol hos
  exact lv_lstore_n cx.1 cx.2.1 hd hi hl hn rfl (fun ls' hl' => k p l e R s m args below meth c D B b dA E C0 S0 Z cx hR he H locs cells slots ls' hH hS h1 h2 (lv_mem hl' (lset_2 rfl)) (lset_ok (ok_h hos) hol) (ok_t hos))
theorem J_lstore {x : Int} {i : Nat} (hd : decode M.2.1 pc = .ok (.lstore i, 2)) (hn : i + 1 < M.2.2.1) (k : J X M d mc ms (pc + 2) (lset ls i (vL x)) st σ Q) : J X M d mc ms pc ls (vL x :: st) σ Q := by
  intro p l e R s m args below meth c D B b dA E C0 S0 Z cx hR he H locs cells slots lsC hH hS h1 h2 hl hol hos
  exact lv_lstore cx.1 cx.2.1 hd hl hn rfl (fun ls' hl' => k p l e R s m args below meth c D B b dA E C0 S0 Z cx hR he H locs cells slots ls' hH hS h1 h2 (lv_mem hl' (lset_2 rfl)) (lset_ok (ok_h hos) hol) (ok_t hos))
theorem J_astore_n {x : Nat} {i : Nat} {n : Fin 4} (hd : decode M.2.1 pc = .ok (.astore_n n, 1)) (hi : (n : Nat) = i) (hn : i < M.2.2.1) (k : J X M d mc ms (pc + 1) (lset ls i (vR x)) st σ Q) : J X M d mc ms pc ls (vR x :: st) σ Q := by
  intro p l e R s m args below meth c D B b dA E C0 S0 Z cx hR he H locs cells slots lsC hH hS h1 h2 hl hol hos
  exact lv_astore_n cx.1 cx.2.1 hd hi hl hn rfl (fun ls' hl' => k p l e R s m args below meth c D B b dA E C0 S0 Z cx hR he H locs cells slots ls' hH hS h1 h2 (lv_mem hl' (lset_1 rfl)) (lset_ok (ok_h hos) hol) (ok_t hos))
theorem J_astore {x : Nat} {i : Nat} (hd : decode M.2.1 pc = .ok (.astore i, 2)) (hn : i < M.2.2.1) (k : J X M d mc ms (pc + 2) (lset ls i (vR x)) st σ Q) : J X M d mc ms pc ls (vR x :: st) σ Q := by
  intro p l e R s m args below meth c D B b dA E C0 S0 Z cx hR he H locs cells slots lsC hH hS h1 h2 hl hol hos
  exact lv_astore cx.1 cx.2.1 hd hl hn rfl (fun ls' hl' => k p l e R s m args below meth c D B b dA E C0 S0 Z cx hR he H locs cells slots ls' hH hS h1 h2 (lv_mem hl' (lset_1 rfl)) (lset_ok (ok_h hos) hol) (ok_t hos))
theorem J_iinc {x n : Int} {i : Nat} (hd : decode M.2.1 pc = .ok (.iinc i n, 3)) (hg : lget ls i = some (vI x)) (hn : i < M.2.2.1) (k : J X M d mc ms (pc + 3) (lset ls i (vI (wr (x + n)))) st σ Q) : J X M d mc ms pc ls st σ Q := by
  intro p l e R s m args below meth c D B b dA E C0 S0 Z cx hR he H locs cells slots lsC hH hS h1 h2 hl hol hos
  obtain ⟨kk, hk⟩ := List.getElem?_of_mem (List.mem_map.mpr ⟨(i, vI x), lget_mem hg, rfl⟩ : ((i, cv B b (vI x)) ∈ ls.map (fun q => (q.1, cv B b q.2))))
  exact lv_iinc (v := Int32.ofInt (wr (x + n))) cx.1 cx.2.1 hd hl hk (by rw [wr_of, Int32.ofInt_add]) hn rfl (fun ls' hl' => k p l e R s m args below meth c D B b dA E C0 S0 Z cx hR he H locs cells slots ls' hH hS h1 h2 (lv_mem hl' (lset_1 (v := vI (wr (x + n))) rfl)) (lset_ok (v := vI (wr (x + n))) (wr_ii _) hol) hos)
theorem J_iincW {x n : Int} {i : Nat} (hd : decode M.2.1 pc = .ok (.iinc i n, 6)) (hg : lget ls i = some (vI x)) (hn : i < M.2.2.1) (k : J X M d mc ms (pc + 6) (lset ls i (vI (wr (x + n)))) st σ Q) : J X M d mc ms pc ls st σ Q := by
  intro p l e R s m args below meth c D B b dA E C0 S0 Z cx hR he H locs cells slots lsC hH hS h1 h2 hl hol hos
  obtain ⟨kk, hk⟩ := List.getElem?_of_mem (List.mem_map.mpr ⟨(i, vI x), lget_mem hg, rfl⟩ : ((i, cv B b (vI x)) ∈ ls.map (fun q => (q.1, cv B b q.2))))
  exact lv_iincW (v := Int32.ofInt (wr (x + n))) cx.1 cx.2.1 hd hl hk (by rw [wr_of, Int32.ofInt_add]) hn rfl (fun ls' hl' => k p l e R s m args below meth c D B b dA E C0 S0 Z cx hR he H locs cells slots ls' hH hS h1 h2 (lv_mem hl' (lset_1 (v := vI (wr (x + n))) rfl)) (lset_ok (v := vI (wr (x + n))) (wr_ii _) hol) hos)
end JK
end
section
theorem va_P1 {D : va_G} {q : Nat × va_E} {H : Heap} (h : va_at D vwCl q H) : va_P D vwCl [q] H := by
  intro k x hx
  match k, hx with
  | 0, hx => cases hx; exact h
  | k + 1, hx => simp at hx
theorem va_P2 {D : va_G} {q q' : Nat × va_E} {H : Heap} (h : va_at D vwCl q H) (h' : va_at D vwCl q' H) : va_P D vwCl [q, q'] H := by
  intro k x hx
  match k, hx with
  | 0, hx => cases hx; exact h
  | 1, hx => cases hx; exact h'
  | k + 2, hx => simp at hx
theorem fvs_at {B : Nat} {R : Nat → Nat → Option Nat} {I : Nat → Nat → Int} {k ci j : Nat} {r : Bool} (h : (fl ci)[j]? = some r) : (fvs B R I k ci)[j]? = some (fV B R I k j r) := by
  simp [fvs, List.getElem?_mapIdx, h]
theorem fvs_len {B : Nat} {R : Nat → Nat → Option Nat} {I : Nat → Nat → Int} {k ci : Nat} : (fvs B R I k ci).length = (fl ci).length := by
  simp [fvs]
def CK (ci : Nat) (C : String) (T : u_T) (N : Nat) (ty : Nat → FieldType) : Prop :=
  vwCl[ci]? = some (C, T, N) ∧ (fl ci).length = N ∧ (∀ w ∈ u_ws C T N, w ∈ GT) ∧ (∀ k, k < N → parseFieldDescriptor (T k).2.2.1 = some (ty k)) ∧ (∀ a, a < N → ∀ b, b < N → a ≠ b → (T a).2.1 ≠ (T b).2.1) ∧ (∀ k, k < N → (T k).1 = C)
theorem fl_get {ci j N : Nat} {r : Bool} (hn : (fl ci).length = N) (h : (fl ci)[j]? = some r) : j < N := hn ▸ (List.getElem?_eq_some_iff.mp h).1
def up (I : Nat → Nat → Int) (k j : Nat) (x : Int) : Nat → Nat → Int := fun a b => if a = k ∧ b = j then x else I a b
def upR (R : Nat → Nat → Option Nat) (k j : Nat) (x : Option Nat) : Nat → Nat → Option Nat := fun a b => if a = k ∧ b = j then x else R a b
theorem enc_cong {B : Nat} {dA : Nat → ClassId} {R R' : Nat → Nat → Option Nat} {I I' : Nat → Nat → Int} {k : Nat} {sh : SH} (h1 : ∀ j, R' k j = R k j) (h2 : ∀ j, I' k j = I k j) : enc B dA R' I' k sh = enc B dA R I k sh := by
  have e1 : R' k = R k := funext h1
  have e2 : I' k = I k := funext h2
  have e3 : ∀ ci, fvs B R' I' k ci = fvs B R I k ci := by
    intro ci
    unfold fvs fV
    simp only [e1, e2]
  unfold enc
  simp only [e1, e2, e3]
theorem HR_set {D : va_G} {B : Nat} {dA : Nat → ClassId} {σ σ' : AH} {H H1 : Heap} {k : Nat} {sh0 : SH} (hH : HR D B dA σ H) (h1 : σ'.1 = σ.1) (hs : σ.1[k]? = some sh0) (hz : H1.size = H.size) (ho : ∀ q : Nat, q ≠ B + k → H1[q]? = H[q]?)
    (hk : va_at D vwCl (B + k, enc B dA σ'.2.1 σ'.2.2 k sh0) H1) (hR : ∀ k', k' ≠ k → ∀ j, σ'.2.1 k' j = σ.2.1 k' j) (hI : ∀ k', k' ≠ k → ∀ j, σ'.2.2 k' j = σ.2.2 k' j) (hw : ∀ j, shr sh0 (σ'.2.2 k j)) : HR D B dA σ' H1 := by
  obtain ⟨a1, a2, a3⟩ := hH
  refine ⟨fun q sh hq => ?_, by rw [hz, a2, h1], fun q sh hq => ?_⟩
  · rw [h1] at hq
    by_cases e : q = k
    · subst e
      cases hs.symm.trans hq
      exact hk
    · rw [enc_cong (hR q e) (hI q e)]
      exact (a1 q sh hq).kept (ho (B + q) (by omega))
  · rw [h1] at hq
    by_cases e : q = k
    · subst e
      cases hs.symm.trans hq
      exact hw
    · intro j
      rw [hI q e j]
      exact a3 q sh hq j
theorem S_put {B k i : Nat} {H0 H H1 : Heap} {locs : List Loc} (h : va_S (fun q => B ≤ q) H0 H locs) (z : H1.size = H.size) (ho : ∀ q : Nat, q ≠ B + k → H1[q]? = H[q]?) : va_S (fun q => B ≤ q) H0 H1 (locs ++ [⟨B + k, i⟩]) :=
  va_S.put h z ho (Nat.le_add_right B k)
theorem up_s {I : Nat → Nat → Int} {k j : Nat} {x : Int} : up I k j x k j = x := by simp [up]
theorem up_n {I : Nat → Nat → Int} {k j k' j' : Nat} {x : Int} (h : ¬ (k' = k ∧ j' = j)) : up I k j x k' j' = I k' j' := by simp [up, h]
section JH
variable {X : Option (Nat × (Nat → Int32))} {M : MD} {d mc ms pc : Nat} {ls : List (Nat × AV)} {st : List AV} {σ : AH} {Q : Option AV → AH → Prop}
theorem J_getI {idx j ci k : Nat} {C : String} {T : u_T} {N : Nat} {ty : Nat → FieldType} (hd : decode M.2.1 pc = .ok (.getfield idx, 3)) (ck : CK ci C T N ty) (hw : Cond.fieldLink M.1.cls idx C (T j).2.1 (T j).2.2.1 ∈ GT) (hf : (fl ci)[j]? = some false) (hs : σ.1[k]? = some (.inl ci)) (kk : J X M d mc ms (pc + 3) ls (vI (σ.2.2 k j) :: st) σ Q) : J X M d mc ms pc ls (vR k :: st) σ Q := by
  intro p l e R s m args below meth c D B b dA E C0 S0 Z cx hR he H locs cells slots lsC hH hS h1 h2 hl hol hos
  have hj := fl_get ck.2.1 hf
  have hP := va_P1 (hH.1 k _ hs)
  have hok : ii (σ.2.2 k j) := hH.2.2 k _ hs j
  exact va_get (C := C) (T := T) (N := N) cx.1 cx.2.1 cx.2.2.2.2.1 ck.2.2.1 cx.2.2.2.1 cx.2.2.2.2.2.1 hP 0 rfl ck.1 j hj (cx.2.2.2.2.1 _ hw) (fun x hx => by rw [ck.2.2.2.2.2 j hj] at hx; exact hx) (fvs_at hf) hd (kk p l e R s m args below meth c D B b dA E C0 S0 Z cx hR he H locs cells slots lsC hH hS h1 h2 hl hol (ok_ci hok (ok_t hos)))
theorem J_getR {idx j ci k : Nat} {v : Nat} {C : String} {T : u_T} {N : Nat} {ty : Nat → FieldType} (hd : decode M.2.1 pc = .ok (.getfield idx, 3)) (ck : CK ci C T N ty) (hw : Cond.fieldLink M.1.cls idx C (T j).2.1 (T j).2.2.1 ∈ GT) (hf : (fl ci)[j]? = some true) (hs : σ.1[k]? = some (.inl ci)) (hv : σ.2.1 k j = some v) (kk : J X M d mc ms (pc + 3) ls (vR v :: st) σ Q) : J X M d mc ms pc ls (vR k :: st) σ Q := by
  intro p l e R s m args below meth c D B b dA E C0 S0 Z cx hR he H locs cells slots lsC hH hS h1 h2 hl hol hos
  have hj := fl_get ck.2.1 hf
  have hP := va_P1 (hH.1 k _ hs)
  exact va_get (C := C) (T := T) (N := N) (v := .ref (B + v)) cx.1 cx.2.1 cx.2.2.2.2.1 ck.2.2.1 cx.2.2.2.1 cx.2.2.2.2.2.1 hP 0 rfl ck.1 j hj (cx.2.2.2.2.1 _ hw) (fun x hx => by rw [ck.2.2.2.2.2 j hj] at hx; exact hx) ((fvs_at hf).trans (by simp [fV, hv, rfv])) hd (kk p l e R s m args below meth c D B b dA E C0 S0 Z cx hR he H locs cells slots lsC hH hS h1 h2 hl hol (ok_c trivial (ok_t hos)))
theorem fvs_set {B : Nat} {R : Nat → Nat → Option Nat} {I : Nat → Nat → Int} {k ci j : Nat} {x : Int} (hf : (fl ci)[j]? = some false) : (fvs B R I k ci).set j (.int (Int32.ofInt x)) = fvs B R (up I k j x) k ci := by
  apply List.ext_getElem?
  intro i
  rw [List.getElem?_set]
  have hl : j < (fvs B R I k ci).length := by rw [fvs_len]; exact (List.getElem?_eq_some_iff.mp hf).1
  by_cases e : j = i
  · subst e
    rw [if_pos rfl, if_pos hl, fvs_at hf]
    simp [fV, up]
  · rw [if_neg e]
    simp only [fvs, List.getElem?_mapIdx]
    congr 1
    funext r
    have e' : ¬ i = j := fun q => e q.symm
    simp [fV, up, e']
theorem fvs_setR {B : Nat} {R : Nat → Nat → Option Nat} {I : Nat → Nat → Int} {k ci j v : Nat} (hf : (fl ci)[j]? = some true) : (fvs B R I k ci).set j (.ref (B + v)) = fvs B (upR R k j (some v)) I k ci := by
  apply List.ext_getElem?
  intro i
  rw [List.getElem?_set]
  have hl : j < (fvs B R I k ci).length := by rw [fvs_len]; exact (List.getElem?_eq_some_iff.mp hf).1
  by_cases e : j = i
  · subst e
    rw [if_pos rfl, if_pos hl, fvs_at hf]
    simp [fV, upR, rfv]
  · rw [if_neg e]
    simp only [fvs, List.getElem?_mapIdx]
    congr 1
    funext r
    have e' : ¬ i = j := fun q => e q.symm
    simp [fV, upR, e']
def okf (t : FieldType) (x : Int) : Prop := t = .int ∨ (t = .boolean ∧ (x = 0 ∨ x = 1))
theorem okf_n {t : FieldType} {x : Int} (h : okf t x) : narrow t (.int (Int32.ofInt x)) = .int (Int32.ofInt x) ∧ fits t (.int (Int32.ofInt x)) = true := by
  rcases h with rfl | ⟨rfl, rfl | rfl⟩ <;> exact ⟨rfl, rfl⟩
theorem J_putI {idx j ci k : Nat} {x : Int} {C : String} {T : u_T} {N : Nat} {ty : Nat → FieldType} (hd : decode M.2.1 pc = .ok (.putfield idx, 3)) (ck : CK ci C T N ty) (hw : Cond.fieldLink M.1.cls idx C (T j).2.1 (T j).2.2.1 ∈ GT) (hf : (fl ci)[j]? = some false) (hfin : (T j).2.2.2 = false) (ho : okf (ty j) x) (hs : σ.1[k]? = some (.inl ci)) (kk : J X M d mc ms (pc + 3) ls st (σ.1, σ.2.1, up σ.2.2 k j x) Q) : J X M d mc ms pc ls (vI x :: vR k :: st) σ Q := by
  intro p l e R s m args below meth c D B b dA E C0 S0 Z cx hR he H locs cells slots lsC hH hS h1 h2 hl hol hos
  have hj := fl_get ck.2.1 hf
  have hK := cx.2.2.2.2.2.1
  have hts := cx.2.2.2.2.1
  obtain ⟨hC, hN, hin, hty, hnm, hown1⟩ := ck
  have hap := va_apart (own := M.1.cls) hts hin ty hty hnm hK hC
  obtain ⟨r, g1, cell, q1, q2, q3, q4⟩ := hH.1 k _ hs
  have hr : r = (C, T, N) := Option.some.inj (g1.symm.trans hC)
  subst hr
  obtain ⟨hSl, hfc, kC, hkC, hkind⟩ := hK.1 ci _ hC
  obtain ⟨cf, kf, fi, f, hi, hsl⟩ := hSl j hj
  have hlay := hts _ (hin _ (u_in_lay hj))
  unfold u_lay at hlay
  rw [if_neg (by rw [hfin]; decide)] at hlay
  have hst := (u_facts hfc hkC (u_lays hts hin hj) hi).1
  have h6 := u_store hfc hkC hkind hlay hi (hty j hj) (okf_n ho).1 (okf_n ho).2
  refine W.putK cx.1 cx.2.1 (f := f) ⟨cx.2.2.2.1, hts _ hw, ⟨_, _, _, by rw [hown1 j hj] at hi; exact hi⟩, hst⟩ (by rw [q2]; exact h6) q1 q3 (by rw [hsl]; exact k2_hasslot (q4 j hj)) rfl rfl hd fun H' e1 e2 e3 => ?_
  rw [hsl] at e1 ⊢
  have hl5 : j < (fvs B σ.2.1 σ.2.2 k ci).length := by rw [fvs_len, hN]; exact hj
  refine kk p l e R s m args below meth c D B b dA E C0 S0 Z cx hR he H' _ cells slots lsC (HR_set (σ' := (σ.1, σ.2.1, up σ.2.2 k j x)) hH rfl hs e2 e3 ?_ (fun _ _ _ => rfl) (fun k' hk' j' => up_n (fun q => hk' q.1)) ?_) (S_put hS e2 e3) h1 h2 hl hol (ok_t (ok_t hos))
  · refine ⟨_, hC, ?_⟩
    have h7 := t_OB.to (V := updV (vp_V (fvs B σ.2.1 σ.2.2 k ci)) j (.int (Int32.ofInt x))) ⟨_, e1, q2, q3, t_set q4 hap hj (.int (Int32.ofInt x))⟩ (fun i _ => vp_updV_set hl5 (.int (Int32.ofInt x)) i)
    rw [fvs_set hf] at h7
    exact h7
  · intro j'
    by_cases e : j' = j
    · subst e
      show ii (up σ.2.2 k j' x k j')
      rw [up_s]; exact ok_h hos
    · show ii (up σ.2.2 k j x k j')
      rw [up_n (fun q => e q.2)]; exact hH.2.2 k _ hs j'
theorem J_iald {i : Int} {k n : Nat} (hd : decode M.2.1 pc = .ok (.iaload, 1)) (hs : σ.1[k]? = some (.inr (0, n))) (h0 : 0 ≤ i) (hn : i < n) (kk : J X M d mc ms (pc + 1) ls (vI (σ.2.2 k i.toNat) :: st) σ Q) : J X M d mc ms pc ls (vI i :: vR k :: st) σ Q := by
  intro p l e R s m args below meth c D B b dA E C0 S0 Z cx hR he H locs cells slots lsC hH hS h1 h2 hl hol hos
  have hP := va_P1 (hH.1 k _ hs)
  have hok : ii (σ.2.2 k i.toNat) := hH.2.2 k _ hs _
  have hi : ii i := ok_h hos
  refine va_iald cx.1 cx.2.1 cx.2.2.2.2.2.1 hP 0 0 rfl rfl (io_in hi h0 hn) hd ?_
  rw [io_cl hi]
  exact kk p l e R s m args below meth c D B b dA E C0 S0 Z cx hR he H locs cells slots lsC hH hS h1 h2 hl hol (ok_ci hok (ok_t (ok_t hos)))
theorem J_lald {i : Int} {k n : Nat} (hd : decode M.2.1 pc = .ok (.laload, 1)) (hs : σ.1[k]? = some (.inr (1, n))) (h0 : 0 ≤ i) (hn : i < n) (kk : J X M d mc ms (pc + 1) ls (vL (σ.2.2 k i.toNat) :: st) σ Q) : J X M d mc ms pc ls (vI i :: vR k :: st) σ Q := by
  intro p l e R s m args below meth c D B b dA E C0 S0 Z cx hR he H locs cells slots lsC hH hS h1 h2 hl hol hos
  have hP := va_P1 (hH.1 k _ hs)
  have hok : ll (σ.2.2 k i.toNat) := hH.2.2 k _ hs _
  have hi : ii i := ok_h hos
  refine va_lald cx.1 cx.2.1 cx.2.2.2.2.2.1 hP 0 1 rfl rfl (io_in hi h0 hn) hd ?_
  rw [io_cl hi]
  exact kk p l e R s m args below meth c D B b dA E C0 S0 Z cx hR he H locs cells slots lsC hH hS h1 h2 hl hol (ok_cl hok (ok_t (ok_t hos)))
theorem J_zald {i : Int} {k n : Nat} (hd : decode M.2.1 pc = .ok (.baload, 1)) (hs : σ.1[k]? = some (.inr (2, n))) (h0 : 0 ≤ i) (hn : i < n) (kk : J X M d mc ms (pc + 1) ls (vI (σ.2.2 k i.toNat) :: st) σ Q) : J X M d mc ms pc ls (vI i :: vR k :: st) σ Q := by
  intro p l e R s m args below meth c D B b dA E C0 S0 Z cx hR he H locs cells slots lsC hH hS h1 h2 hl hol hos
  have hP := va_P1 (hH.1 k _ hs)
  have hok : ii (σ.2.2 k i.toNat) := hH.2.2 k _ hs _
  have hi : ii i := ok_h hos
  refine va_zald cx.1 cx.2.1 cx.2.2.2.2.2.1 hP 0 2 rfl rfl (io_in hi h0 hn) hd ?_
  rw [io_cl hi]
  exact kk p l e R s m args below meth c D B b dA E C0 S0 Z cx hR he H locs cells slots lsC hH hS h1 h2 hl hol (ok_ci hok (ok_t (ok_t hos)))
theorem J_cald {i : Int} {k n : Nat} (hd : decode M.2.1 pc = .ok (.caload, 1)) (hs : σ.1[k]? = some (.inr (3, n))) (h0 : 0 ≤ i) (hn : i < n) (kk : J X M d mc ms (pc + 1) ls (vI (σ.2.2 k i.toNat) :: st) σ Q) : J X M d mc ms pc ls (vI i :: vR k :: st) σ Q := by
  intro p l e R s m args below meth c D B b dA E C0 S0 Z cx hR he H locs cells slots lsC hH hS h1 h2 hl hol hos
  have hP := va_P1 (hH.1 k _ hs)
  have hok : ii (σ.2.2 k i.toNat) := hH.2.2 k _ hs _
  have hi : ii i := ok_h hos
  refine va_cald cx.1 cx.2.1 cx.2.2.2.2.2.1 hP 0 3 rfl rfl (io_in hi h0 hn) hd ?_
  rw [io_cl hi]
  exact kk p l e R s m args below meth c D B b dA E C0 S0 Z cx hR he H locs cells slots lsC hH hS h1 h2 hl hol (ok_ci hok (ok_t (ok_t hos)))
theorem J_aald {i : Int} {k n v : Nat} (hd : decode M.2.1 pc = .ok (.aaload, 1)) (hs : σ.1[k]? = some (.inr (4, n))) (h0 : 0 ≤ i) (hn : i < n) (hv : σ.2.1 k i.toNat = some v) (kk : J X M d mc ms (pc + 1) ls (vR v :: st) σ Q) : J X M d mc ms pc ls (vI i :: vR k :: st) σ Q := by
  intro p l e R s m args below meth c D B b dA E C0 S0 Z cx hR he H locs cells slots lsC hH hS h1 h2 hl hol hos
  have hP := va_P1 (hH.1 k _ hs)
  have hi : ii i := ok_h hos
  refine va_aldq (C := RX8) cx.1 cx.2.1 cx.2.2.2.2.2.1 hP 0 4 rfl rfl (io_in hi h0 hn) hd ?_
  rw [io_cl hi, hv]
  exact kk p l e R s m args below meth c D B b dA E C0 S0 Z cx hR he H locs cells slots lsC hH hS h1 h2 hl hol (ok_c trivial (ok_t (ok_t hos)))
end JH
end
section
section JS
variable {X : Option (Nat × (Nat → Int32))} {M : MD} {d mc ms pc : Nat} {ls : List (Nat × AV)} {st : List AV} {σ : AH} {Q : Option AV → AH → Prop}
theorem arr_up {f : Nat → Int32} {j : Nat} {x : Int32} (cA : ClassId) (n : Nat) : (arrV cA n (fun i => Value.int (f i))).setSlot j (.int x) = arrV cA n (fun i => Value.int (if i = j then x else f i)) := by
  rw [arrV_store]
  congr 1
  funext q
  by_cases hq : q = j
  · subst hq; simp [updV]
  · simp [updV, hq]
theorem arr_upL {f : Nat → Int64} {j : Nat} {x : Int64} (cA : ClassId) (n : Nat) : (arrV cA n (fun i => Value.long (f i))).setSlot j (.long x) = arrV cA n (fun i => Value.long (if i = j then x else f i)) := by
  rw [arrV_store]
  congr 1
  funext q
  by_cases hq : q = j
  · subst hq; simp [updV]
  · simp [updV, hq]
theorem up_f {I : Nat → Nat → Int} {k j : Nat} {x : Int} : (fun i => Int32.ofInt (up I k j x k i)) = (fun i => if i = j then Int32.ofInt x else Int32.ofInt (I k i)) := by
  funext i
  by_cases h : i = j
  · subst h; simp [up]
  · simp [up, h]
theorem up_fL {I : Nat → Nat → Int} {k j : Nat} {x : Int} : (fun i => Int64.ofInt (up I k j x k i)) = (fun i => if i = j then Int64.ofInt x else Int64.ofInt (I k i)) := by
  funext i
  by_cases h : i = j
  · subst h; simp [up]
  · simp [up, h]
theorem in_sz {cA : ClassId} {n : Nat} {f : Nat → Value} {i : Int32} (h : vp_in i n) : ¬ (i < 0 ∨ (arrV cA n f).slots.size ≤ i.toNatClampNeg) := by rw [arrV_size]; exact h
theorem J_iast {i x : Int} {k n : Nat} (hd : decode M.2.1 pc = .ok (.iastore, 1)) (hs : σ.1[k]? = some (.inr (0, n))) (h0 : 0 ≤ i) (hn : i < n) (kk : J X M d mc ms (pc + 1) ls st (σ.1, σ.2.1, up σ.2.2 k i.toNat x) Q) : J X M d mc ms pc ls (vI x :: vI i :: vR k :: st) σ Q := by
  intro p l e R s m args below meth c D B b dA E C0 S0 Z cx hR he H locs cells slots lsC hH hS h1 h2 hl hol hos
  have hi : ii i := ok_h (ok_t hos)
  have hc : H[B + k]? = some (arrV (dA 0) n (fun j => .int (Int32.ofInt (σ.2.2 k j)))) := hH.1 k _ hs
  refine W.iast cx.1 cx.2.1 hc ((cx.2.2.2.2.2.1.2 0 _ rfl).1 n _) (fun q => by cases q) (in_sz (io_in hi h0 hn)) rfl rfl hd fun H' e1 e2 e3 => ?_
  rw [io_cl hi] at e1 ⊢
  refine kk p l e R s m args below meth c D B b dA E C0 S0 Z cx hR he H' _ cells slots lsC (HR_set (σ' := (σ.1, σ.2.1, up σ.2.2 k i.toNat x)) hH rfl hs e2 e3 ?_ (fun _ _ _ => rfl) (fun k' hk' j' => up_n (fun q => hk' q.1)) ?_) (S_put hS e2 e3) h1 h2 hl hol (ok_t (ok_t (ok_t hos)))
  · show H'[B + k]? = some (arrV (dA 0) n (fun j => .int (Int32.ofInt (up σ.2.2 k i.toNat x k j))))
    skip
    rw [e1, arr_up]
    exact congrArg (fun g => some (arrV (dA 0) n (fun j => Value.int (g j)))) up_f.symm
  · intro j'
    show ii (up σ.2.2 k i.toNat x k j')
    by_cases e : j' = i.toNat
    · rw [e, up_s]; exact ok_h hos
    · rw [up_n (fun q => e q.2)]; exact hH.2.2 k _ hs j'
theorem J_last {i x : Int} {k n : Nat} (hd : decode M.2.1 pc = .ok (.lastore, 1)) (hs : σ.1[k]? = some (.inr (1, n))) (h0 : 0 ≤ i) (hn : i < n) (kk : J X M d mc ms (pc + 1) ls st (σ.1, σ.2.1, up σ.2.2 k i.toNat x) Q) : J X M d mc ms pc ls (vL x :: vI i :: vR k :: st) σ Q := by
  intro p l e R s m args below meth c D B b dA E C0 S0 Z cx hR he H locs cells slots lsC hH hS h1 h2 hl hol hos
  have hi : ii i := ok_h (ok_t hos)
  have hc : H[B + k]? = some (arrV (dA 1) n (fun j => .long (Int64.ofInt (σ.2.2 k j)))) := hH.1 k _ hs
  refine W.last cx.1 cx.2.1 hc ((cx.2.2.2.2.2.1.2 1 _ rfl).1 n _) (fun q => by cases q) (in_sz (io_in hi h0 hn)) rfl rfl hd fun H' e1 e2 e3 => ?_
  rw [io_cl hi] at e1 ⊢
  refine kk p l e R s m args below meth c D B b dA E C0 S0 Z cx hR he H' _ cells slots lsC (HR_set (σ' := (σ.1, σ.2.1, up σ.2.2 k i.toNat x)) hH rfl hs e2 e3 ?_ (fun _ _ _ => rfl) (fun k' hk' j' => up_n (fun q => hk' q.1)) ?_) (S_put hS e2 e3) h1 h2 hl hol (ok_t (ok_t (ok_t hos)))
  · show H'[B + k]? = some (arrV (dA 1) n (fun j => .long (Int64.ofInt (up σ.2.2 k i.toNat x k j))))
    skip
    rw [e1, arr_upL]
    exact congrArg (fun g => some (arrV (dA 1) n (fun j => Value.long (g j)))) up_fL.symm
  · intro j'
    show ll (up σ.2.2 k i.toNat x k j')
    by_cases e : j' = i.toNat
    · rw [e, up_s]; exact ok_h hos
    · rw [up_n (fun q => e q.2)]; exact hH.2.2 k _ hs j'
theorem J_zast {i x : Int} {k n : Nat} (hd : decode M.2.1 pc = .ok (.bastore, 1)) (hs : σ.1[k]? = some (.inr (2, n))) (h0 : 0 ≤ i) (hn : i < n) (hx : x = 0 ∨ x = 1) (kk : J X M d mc ms (pc + 1) ls st (σ.1, σ.2.1, up σ.2.2 k i.toNat x) Q) : J X M d mc ms pc ls (vI x :: vI i :: vR k :: st) σ Q := by
  intro p l e R s m args below meth c D B b dA E C0 S0 Z cx hR he H locs cells slots lsC hH hS h1 h2 hl hol hos
  have hi : ii i := ok_h (ok_t hos)
  have hc : H[B + k]? = some (arrV (dA 2) n (fun j => .int (Int32.ofInt (σ.2.2 k j)))) := hH.1 k _ hs
  refine W.zast cx.1 cx.2.1 hc ((cx.2.2.2.2.2.1.2 2 _ rfl).1 n _) (fun q => by cases q) (in_sz (io_in hi h0 hn)) rfl rfl hd fun H' e1 e2 e3 => ?_
  rw [io_cl hi] at e1 ⊢
  refine kk p l e R s m args below meth c D B b dA E C0 S0 Z cx hR he H' _ cells slots lsC (HR_set (σ' := (σ.1, σ.2.1, up σ.2.2 k i.toNat x)) hH rfl hs e2 e3 ?_ (fun _ _ _ => rfl) (fun k' hk' j' => up_n (fun q => hk' q.1)) ?_) (S_put hS e2 e3) h1 h2 hl hol (ok_t (ok_t (ok_t hos)))
  · show H'[B + k]? = some (arrV (dA 2) n (fun j => .int (Int32.ofInt (up σ.2.2 k i.toNat x k j))))
    rw [(okf_n (t := .boolean) (Or.inr ⟨rfl, hx⟩)).1] at e1
    rw [e1, arr_up]
    exact congrArg (fun g => some (arrV (dA 2) n (fun j => Value.int (g j)))) up_f.symm
  · intro j'
    show ii (up σ.2.2 k i.toNat x k j')
    by_cases e : j' = i.toNat
    · rw [e, up_s]; exact ok_h hos
    · rw [up_n (fun q => e q.2)]; exact hH.2.2 k _ hs j'
theorem nar_c {x : Int} (h0 : 0 ≤ x) (h1 : x ≤ 65535) : narrow .char (.int (Int32.ofInt x)) = .int (Int32.ofInt x) := by
  obtain ⟨n, rfl⟩ : ∃ n : Nat, x = (n : Int) := ⟨x.toNat, by omega⟩
  have e : Int32.ofInt (n : Int) = nI n := by
    apply Int32.toInt_inj.mp
    rw [nI_toInt (by omega), ii_ofI]
    unfold ii; omega
  rw [e]
  exact (pk_charN (by omega)).1
theorem J_cast {i x : Int} {k n : Nat} (hd : decode M.2.1 pc = .ok (.castore, 1)) (hs : σ.1[k]? = some (.inr (3, n))) (h0 : 0 ≤ i) (hn : i < n) (hx : 0 ≤ x) (hx2 : x ≤ 65535) (kk : J X M d mc ms (pc + 1) ls st (σ.1, σ.2.1, up σ.2.2 k i.toNat x) Q) : J X M d mc ms pc ls (vI x :: vI i :: vR k :: st) σ Q := by
  intro p l e R s m args below meth c D B b dA E C0 S0 Z cx hR he H locs cells slots lsC hH hS h1 h2 hl hol hos
  have hi : ii i := ok_h (ok_t hos)
  have hc : H[B + k]? = some (arrV (dA 3) n (fun j => .int (Int32.ofInt (σ.2.2 k j)))) := hH.1 k _ hs
  refine W.cast cx.1 cx.2.1 hc ((cx.2.2.2.2.2.1.2 3 _ rfl).1 n _) (fun q => by cases q) (in_sz (io_in hi h0 hn)) rfl rfl hd fun H' e1 e2 e3 => ?_
  rw [io_cl hi] at e1 ⊢
  refine kk p l e R s m args below meth c D B b dA E C0 S0 Z cx hR he H' _ cells slots lsC (HR_set (σ' := (σ.1, σ.2.1, up σ.2.2 k i.toNat x)) hH rfl hs e2 e3 ?_ (fun _ _ _ => rfl) (fun k' hk' j' => up_n (fun q => hk' q.1)) ?_) (S_put hS e2 e3) h1 h2 hl hol (ok_t (ok_t (ok_t hos)))
  · show H'[B + k]? = some (arrV (dA 3) n (fun j => .int (Int32.ofInt (up σ.2.2 k i.toNat x k j))))
    skip
    rw [nar_c hx hx2] at e1
    rw [e1, arr_up]
    exact congrArg (fun g => some (arrV (dA 3) n (fun j => Value.int (g j)))) up_f.symm
  · intro j'
    show ii (up σ.2.2 k i.toNat x k j')
    by_cases e : j' = i.toNat
    · rw [e, up_s]; exact ok_h hos
    · rw [up_n (fun q => e q.2)]; exact hH.2.2 k _ hs j'
theorem J_alen {k t n : Nat} (hd : decode M.2.1 pc = .ok (.arraylength, 1)) (hs : σ.1[k]? = some (.inr (t, n))) (ht : t < 5) (hn : (n : Int) ≤ 2147483647) (kk : J X M d mc ms (pc + 1) ls (vI n :: st) σ Q) : J X M d mc ms pc ls (vR k :: st) σ Q := by
  intro p l e R s m args below meth c D B b dA E C0 S0 Z cx hR he H locs cells slots lsC hH hS h1 h2 hl hol hos
  have hP := va_P1 (hH.1 k _ hs)
  have hok : ii (n : Int) := by unfold ii; omega
  have hv : Int32.ofNat n = Int32.ofInt (n : Int) := by
    apply Int32.toInt_inj.mp
    rw [ii_ofI hok]
    exact nI_toInt (by omega)
  have kk' := kk p l e R s m args below meth c D B b dA E C0 S0 Z cx hR he H locs cells slots lsC hH hS h1 h2 hl hol (ok_ci hok (ok_t hos))
  match t, ht with
  | 0, _ => exact va_alen cx.1 cx.2.1 cx.2.2.2.2.2.1 hP 0 0 rfl rfl hv hd kk'
  | 1, _ => exact va_alen cx.1 cx.2.1 cx.2.2.2.2.2.1 hP 0 1 rfl rfl hv hd kk'
  | 2, _ => exact va_alen cx.1 cx.2.1 cx.2.2.2.2.2.1 hP 0 2 rfl rfl hv hd kk'
  | 3, _ => exact va_alen cx.1 cx.2.1 cx.2.2.2.2.2.1 hP 0 3 rfl rfl hv hd kk'
  | 4, _ => exact va_alen cx.1 cx.2.1 cx.2.2.2.2.2.1 hP 0 4 rfl rfl hv hd kk'
theorem J_ret {r : Option AV} (hd : decode M.2.1 pc = .ok (retI r, 1)) (ho : okr M.2.2.2 r) (hst : st = r.toList) (hq : Q r σ) : J X M d mc ms pc ls st σ Q := by
  intro p l e R s m args below meth c D B b dA E C0 S0 Z cx hR he H locs cells slots lsC hH hS h1 h2 hl hol hos
  subst hst
  have h := he H locs cells slots pc lsC r σ hH hS (by omega) (by omega) ho hq hd
  have e : (r.map (cv B b)).toList = r.toList.map (cv B b) := by cases r <;> rfl
  rwa [e] at h
theorem J_sld {L : Nat} {xs : Nat → Int32} {i : Int} (hX : X = some (L, xs)) (hd : decode M.2.1 pc = .ok (.iaload, 1)) (h0 : 0 ≤ i) (hn : i < L) (kk : J X M d mc ms (pc + 1) ls (vI (xs i.toNat).toInt :: st) σ Q) : J X M d mc ms pc ls (vI i :: vX :: st) σ Q := by
  intro p l e R s m args below meth c D B b dA E C0 S0 Z cx hR he H locs cells slots lsC hH hS h1 h2 hl hol hos
  have hi : ii i := ok_h hos
  subst hX
  obtain ⟨hXX, hbs, hbB⟩ := cx.2.2.2.2.2.2.2.2.2
  refine va_sld (A := fun q => B ≤ q) cx.1 cx.2.1 hXX hbs (Nat.not_le.mpr hbB) hS (io_in hi h0 hn) hd ?_
  rw [io_cl hi]
  have k2 := kk p l e R s m args below meth c D B b dA E C0 S0 Z cx hR he H locs cells slots lsC hH hS h1 h2 hl hol (ok_ci (ii_of _) (ok_t (ok_t hos)))
  simp only [List.map, cv, Int32.ofInt_toInt] at k2
  exact k2
theorem J_slen {L : Nat} {xs : Nat → Int32} (hX : X = some (L, xs)) (hd : decode M.2.1 pc = .ok (.arraylength, 1)) (hn : (L : Int) ≤ 2147483647) (kk : J X M d mc ms (pc + 1) ls (vI L :: st) σ Q) : J X M d mc ms pc ls (vX :: st) σ Q := by
  intro p l e R s m args below meth c D B b dA E C0 S0 Z cx hR he H locs cells slots lsC hH hS h1 h2 hl hol hos
  subst hX
  obtain ⟨hXX, hbs, hbB⟩ := cx.2.2.2.2.2.2.2.2.2
  have hok : ii (L : Int) := by unfold ii; omega
  have hv : Int32.ofNat L = Int32.ofInt (L : Int) := by
    apply Int32.toInt_inj.mp
    rw [ii_ofI hok]
    exact nI_toInt (by omega)
  refine va_slen (A := fun q => B ≤ q) cx.1 cx.2.1 hXX hbs (Nat.not_le.mpr hbB) hS hd ?_
  rw [hv]
  exact kk p l e R s m args below meth c D B b dA E C0 S0 Z cx hR he H locs cells slots lsC hH hS h1 h2 hl hol (ok_ci hok (ok_t hos))
theorem J_tabOut {x dflt lo hi : Int} {offs : Array Int} {len tgt : Nat} (hd : decode M.2.1 pc = .ok (.tableswitch dflt lo hi offs, len)) (h : x < lo ∨ hi < x) (ht : (pc : Int) + dflt = (tgt : Int)) (k : J X M d mc ms tgt ls st σ Q) : J X M d mc ms pc ls (vI x :: st) σ Q :=
  J_q k (fun B b hx hb _ _ ho kk => lv_tableOut hx hb hd (by rw [ii_ofI (ok_h ho)]; exact h) ht kk) (fun h => ok_t h)
theorem J_tabIn {x dflt lo hi : Int} {offs : Array Int} {len tgt : Nat} {off : Int} (hd : decode M.2.1 pc = .ok (.tableswitch dflt lo hi offs, len)) (h1 : ¬ x < lo) (h2 : ¬ hi < x) (hf : offs[(x - lo).toNat]? = some off) (ht : (pc : Int) + off = (tgt : Int)) (k : J X M d mc ms tgt ls st σ Q) : J X M d mc ms pc ls (vI x :: st) σ Q :=
  J_q k (fun B b hx hb _ _ ho kk => lv_tableIn hx hb hd (by rw [ii_ofI (ok_h ho)]; exact h1) (by rw [ii_ofI (ok_h ho)]; exact h2) (by rw [ii_ofI (ok_h ho)]; exact hf) ht kk) (fun h => ok_t h)
theorem J_look {x dflt : Int} {ps : Array (Int × Int)} {len tgt : Nat} {off : Int} (hd : decode M.2.1 pc = .ok (.lookupswitch dflt ps, len)) (hp : (ps.toList.zip (ps.toList.drop 1)).all (fun (a, next) => a.1 < next.1) = true) (hf : Op.lookupswitch.offset ps.toList dflt x = off) (ht : (pc : Int) + off = (tgt : Int)) (k : J X M d mc ms tgt ls st σ Q) : J X M d mc ms pc ls (vI x :: st) σ Q :=
  J_q k (fun B b hx hb _ _ ho kk => lv_lookup hx hb hd hp (by rw [ii_ofI (ok_h ho)]; exact hf) ht kk) (fun h => ok_t h)
end JS
end
section
theorem KS_eq {B : Nat} {E : Nat → Nat} {s U : State} (hv : U.vm = s.vm) (hh : U.heap = s.heap) (h : KS B E s) : KS B E U := by
  obtain ⟨a1, a2, a3, a4, a5, a6, a7⟩ := h
  have hal : s.vm.Alike U.vm := by rw [hv]; exact Vm.Alike.refl _
  refine ⟨vk_R.same hv a1, ?_, ?_, va_AO.moved hal a4, va_Nw.same rfl hv.symm a5, va_Nw.same rfl hv.symm a6, va_Nw.same rfl hv.symm a7⟩
  · rw [hh]; exact vk_S.moved hal a2
  · rw [hh]; exact va_Z.moved hal a3
theorem KS_mv {B : Nat} {E : Nat → Nat} {s U : State} {H : Heap} {locs : List Loc} (hW : s.WarmedH U.vm) (hU : U.heap = H) (hS : va_S (fun q => B ≤ q) s.heap H locs) (h : KS B E s) : KS B E U := by
  obtain ⟨a1, a2, a3, a4, a5, a6, a7⟩ := h
  refine ⟨vk_R.warm hW a1, ?_, ?_, va_AO.moved hW.alike a4, va_Nw.warmM hW a5, va_Nw.warmM hW a6, va_Nw.warmM hW a7⟩
  · rw [hU]; exact vk_S.moved hW.alike (a2.kept (fun a ha hA => hS.2.1 a ha hA))
  · rw [hU]; exact va_Z.moved hW.alike (a3.kept (fun a ha hA => hS.2.1 a ha hA))
def ent : Nat → List AV → List (Nat × AV)
  | _, [] => []
  | i, v :: vs => (i, v) :: ent (i + ct v) vs
theorem ct_12 (v : AV) : ct v = 1 ∨ ct v = 2 := by rcases v with x | x | _ | _ <;> simp [ct]
theorem ent_args (B b : Nat) : ∀ (vs : List AV) (i : Nat), (ent i vs).map (fun q => (q.1, cv B b q.2)) = lv_args i (vs.map (cv B b))
  | [], _ => rfl
  | v :: vs, i => by
    show (i, cv B b v) :: (ent (i + ct v) vs).map _ = (i, cv B b v) :: lv_args (if (cv B b v).category = 2 then i + 2 else i + 1) (vs.map (cv B b))
    rw [ent_args B b vs, cv_ct]
    rcases ct_12 v with h | h <;> simp [h]
theorem lg_len (B b : Nat) : ∀ (vs : List AV), (lg_sl (vs.map (cv B b))).length = (vs.map ct).sum
  | [] => rfl
  | v :: vs => by
    have ih := lg_len B b vs
    show ((if (cv B b v).category = 2 then [Slot.val (cv B b v), Slot.second] else [Slot.val (cv B b v)]) ++ lg_sl (vs.map (cv B b))).length = ct v + (vs.map ct).sum
    rw [List.length_append, ih, cv_ct]
    rcases ct_12 v with h | h <;> simp [h]
theorem ent_ok : ∀ (vs : List AV) (i : Nat), (∀ v ∈ vs, okv v) → ∀ q ∈ ent i vs, okv q.2
  | [], _, _, q, hq => by cases hq
  | v :: vs, i, h, q, hq => by
    rcases List.mem_cons.mp hq with e | e
    · rw [e]; exact ok_h h
    · exact ent_ok vs _ (ok_t h) q e
theorem cat_sum (B b : Nat) : ∀ (vs : List AV), ((vs.map (cv B b)).map fun v => v.category).sum = (vs.map ct).sum
  | [] => rfl
  | v :: vs => by
    simp only [List.map_cons, List.sum_cons, cv_ct, cat_sum B b vs]
def QJ (D : va_G) (B b : Nat) (dA : Nat → ClassId) (M : MD) (Q : Option AV → AH → Prop) : Array Value → State → Outcome → State → Prop := fun _ st oc t =>
  ∃ (r : Option AV) (σ : AH), oc = .returned (r.map (cv B b)) ∧ Q r σ ∧ okr M.2.2.2 r ∧ HR D B dA σ t.heap ∧ va_F (fun q => B ≤ q) st t
theorem okr_ok {t : Option FieldType} {r : Option AV} (h : okr t r) : ∀ v ∈ r.toList, okv v := by
  intro v hv
  cases r with
  | none => cases hv
  | some w =>
    have e : v = w := by simpa using hv
    subst e
    rcases v with x | x | _ | _
    · unfold okr at h
      split at h <;> simp_all [okv, ii]
      · rcases h with rfl | rfl <;> omega
      · omega
    · unfold okr at h
      split at h <;> simp_all [okv]
    · trivial
    · trivial
set_option maxHeartbeats 1000000 in
theorem Met_of_J {M : MD} {d mc ms : Nat} {as : List AV} {σ : AH} {Q : Option AV → AH → Prop} (l : Launch) (D : va_G) (B b : Nat) (dA : Nat → ClassId) (E : Nat → Nat) (hp : plainName M.1.cls = true) (hn : (as.map ct).sum ≤ M.2.2.1) (hok : ∀ v ∈ as, okv v) (hJ : J none M d mc ms 0 (ent 0 as) [] σ Q) :
    Met l M.1 (Cond.code M.1 M.2.1 M.2.2.1 M.2.2.2 :: GT) ({ frames := d, cells := mc, slots := ms, locals := 100 * d }) (va_Pc (as.map (cv B b)) (fun U => HR D B dA σ U.heap ∧ va_K D vwCl (tyl dA) U ∧ B ≤ U.heap.size ∧ KS B E U)) (QJ D B b dA M Q) mc ms (fun q => B ≤ q) := by
  refine Met.ofW (cc := M.2.1) (maxL := M.2.2.1) (ret := M.2.2.2) hp rfl ?_
  intro p e s m args below meth c s₁ Bd hml hv
  obtain ⟨rfl, hH, hK, hB, hks⟩ := hv
  have hts := atoms_spec (ws := Cond.code M.1 M.2.1 M.2.2.1 M.2.2.2 :: GT) Bd.pre
  have hown : s.vm.findClass M.1.cls = some m.cls := findClass_of_methodNamed Bd.named
  have hnm : meth.name = M.1.name := (name_of_methodNamed Bd.named Bd.method).1
  have hlocks : meth.locks = false := Bd.notSynchronized
  have hr := Bd.returns
  rw [lg_entry_eq]
  have hl := lv_entry (as.map (cv B b)) (n := M.2.2.1) (by rw [lg_len]; exact hn)
  rw [← ent_args B b as 0] at hl
  refine hJ p l e _ s m _ below meth c D B b dA E mc ms _ ⟨Bd.exec, Bd.bytes, hml, hown, fun w hw => hts w (List.mem_cons_of_mem _ hw), hK, hB, hnm, hks, trivial⟩ ⟨Nat.le_refl _, Nat.le_refl _, Nat.le_refl _, Nat.le_refl _⟩ ?_ s.heap [] 0 0 _ hH va_S.rf (by omega) (by omega) hl (ent_ok as 0 hok) (fun v hv => by cases hv)
  intro H locs cells slots pc lsC r σ' hH' hS' h1 h2 hor hq hd
  refine W.widen (k := mc) (n := ms) h1 h2 ?_
  have hfin : ∀ t : State, t.heap = H → s.WarmedH t.vm → QJ D B b dA M Q (as.map (cv B b)).toArray s (.returned (r.map (cv B b))) t := fun t ht _ => ⟨r, σ', rfl, hq, hor, by rw [ht]; exact hH', hS'.F ht⟩
  obtain ⟨my, mcode, mn, mret⟩ := M
  dsimp only at *
  rcases r with _ | x | x | (_ | k) | _
  · cases mret with
    | none => exact W.vret Bd.exec Bd.bytes hr hfin hS'.2.2 hd
    | some t => cases t <;> exact hor.elim
  · cases mret with
    | none => exact hor.elim
    | some t =>
      cases t with
      | int => exact W.iret Bd.exec Bd.bytes hr hfin hS'.2.2 hd
      | boolean => exact W.zret Bd.exec Bd.bytes hr (okf_n (t := .boolean) (Or.inr ⟨rfl, hor⟩)).1 hfin hS'.2.2 hd
      | char => exact W.zret Bd.exec Bd.bytes hr (nar_c hor.1 hor.2) hfin hS'.2.2 hd
      | _ => exact hor.elim
  · cases mret with
    | none => exact hor.elim
    | some t =>
      cases t with
      | long => exact W.lret Bd.exec Bd.bytes hr hfin hS'.2.2 hd
      | _ => exact hor.elim
  · cases mret with
    | none => exact hor.elim
    | some t => cases t <;> exact hor.elim
  · cases mret with
    | none => exact hor.elim
    | some t =>
      cases t with
      | object C => exact W.aret (v := .ref (B + k)) Bd.exec Bd.bytes hr (Or.inl ⟨_, rfl⟩) (Or.inr ⟨_, rfl⟩) hfin hS'.2.2 hd
      | _ => exact hor.elim
  · cases mret with
    | none => exact hor.elim
    | some t => cases t <;> exact hor.elim
def MOK (M : MD) (n : Nat) : Prop := Cond.code M.1 M.2.1 M.2.2.1 M.2.2.2 ∈ GT ∧ Cond.initialized M.1.cls ∈ GT ∧ plainName M.1.cls = true ∧ (M.1.cls ≠ "java/lang/invoke/MethodHandle" ∧ M.1.cls ≠ "java/lang/invoke/VarHandle" ∧ (parseMethodDescriptor M.1.desc).map (fun d => d.parameters.length) = some n) ∧ M.2.2.1 ≤ 60
theorem gt_gin {M : MD} {n : Nat} (h : MOK M n) : GoodIn GT (Cond.code M.1 M.2.1 M.2.2.1 M.2.2.2 :: GT) := by
  intro w hw
  rcases List.mem_cons.mp hw with e | e
  · rw [e]; exact ⟨h.1, gt_good h.1⟩
  · exact ⟨e, gt_good e⟩
theorem PcBlind {as : List Value} {D : va_G} {B : Nat} {dA : Nat → ClassId} {E : Nat → Nat} {σ : AH} : FrameBlind (va_Pc as (fun U => HR D B dA σ U.heap ∧ va_K D vwCl (tyl dA) U ∧ B ≤ U.heap.size ∧ KS B E U)) := by
  intro a U g mk q
  obtain ⟨q0, q1, q2, q3, q4⟩ := q
  exact ⟨q0, q1, va_K.moved (u := U) (U := U.calling g mk a) (Vm.Alike.refl U.vm) q2, q3, KS_eq (s := U) (U := U.calling g mk a) rfl rfl q4⟩
section JC
variable {X : Option (Nat × (Nat → Int32))} {M M' : MD} {d mc ms pc : Nat} {ls : List (Nat × AV)} {st : List AV} {σ : AH} {Q Q1 : Option AV → AH → Prop}
theorem J_run {p : Program} {l : Launch} {e : Env} {R : Room} {s : State} {m : MethodId} {args : Array Value} {below : List Frame} {meth : Method} {c : Code} {D : va_G} {B b : Nat} {dA : Nat → ClassId} {E : Nat → Nat} {C0 S0 : Nat} {Z : State → Prop} {H : Heap} {locs : List Loc} {cells slots mc1 ms1 : Nat} {lsC : Array Slot} {st0 : List Value} {a : Array Value}
    (hr : va_Run p l e R s m args below meth c H locs cells slots mc1 ms1 (F0 m pc lsC st0) (st.map (cv B b)) (QJ D B b dA M' Q1 a) (fun q => B ≤ q))
    (cx : Cx X M p s m args meth c D B b dA E) (hR : d ≤ R.frames ∧ 100 * d ≤ R.locals ∧ C0 ≤ R.cells ∧ S0 ≤ R.slots) (he : Hend M p l e R s m args below meth c D B b dA C0 S0 Q Z) (hS : va_S (fun q => B ≤ q) s.heap H locs) (h1 : cells + (mc1 + mc) ≤ C0) (h2 : slots + (ms1 + ms) ≤ S0) (hl : lv_has lsC M.2.2.1 (ls.map (fun q => (q.1, cv B b q.2)))) (hol : ∀ q ∈ ls, okv q.2) (hos : ∀ v ∈ st, okv v)
    (kk : ∀ (r : Option AV) (σ' : AH), Q1 r σ' → okr M'.2.2.2 r → J X M d mc ms (pc + 3) ls (r.toList ++ st) σ' Q) : W p l e R s m args below meth c H locs cells slots Z (F0 m pc lsC st0) := by
  intro T hT XX
  obtain ⟨v, st₀, t, T', L, h0, X', hL, e1, e2, ⟨r, σ', hv, hq, hor, hH', hz, hk⟩, stp⟩ := hr T hT XX
  have hv' : v = r.map (cv B b) := by cases hv; rfl
  subst hv'
  rw [h0] at hz hk
  have hS' : va_S (fun q => B ≤ q) s.heap T'.heap (locs ++ L) := by
    refine ⟨Nat.le_trans hS.1 (by rw [e1]; exact hz), fun q g1 g2 => ?_, fun q hq => ?_⟩
    · rw [e1, hk q (Nat.lt_of_lt_of_le g1 hS.1) g2]; exact hS.2.1 q g1 g2
    · rcases List.mem_append.mp hq with h | h
      · exact hS.2.2 q h
      · exact hL q h
  have hosn : ∀ v ∈ r.toList ++ st, okv v := by
    intro v hv
    rcases List.mem_append.mp hv with h | h
    · exact okr_ok hor v h
    · exact hos v h
  have hw := kk r σ' hq hor p l e R s m args below meth c D B b dA E C0 S0 Z cx hR he T'.heap (locs ++ L) (cells + mc1) (slots + ms1) lsC (by rw [e1]; exact hH') hS' (by omega) (by omega) hl hol hosn
  have est : (r.toList ++ st).map (cv B b) = (r.map (cv B b)).toList ++ st.map (cv B b) := by cases r <;> simp
  rw [est] at hw
  obtain ⟨t2, a1, b1⟩ := hw T' rfl X'
  exact ⟨t2, stp t2 a1, b1⟩
theorem rev_map (B b : Nat) (as : List AV) (rest : List AV) : (as.reverse ++ rest).map (cv B b) = (as.map (cv B b)).reverse ++ rest.map (cv B b) := by simp
def MV (M : MD) (n ci : Nat) : Prop := MOK M n ∧ Cond.instanceMethod M.1 ∈ GT ∧ Cond.selects M.1.cls M.1 M.1 ∈ GT ∧ ∃ q : vw_C, vwCl[ci]? = some q ∧ q.1 = M.1.cls
def MS (M : MD) (n : Nat) : Prop := MOK M n ∧ Cond.static M.1 ∈ GT
def MI (M : MD) (n : Nat) : Prop := MOK M n ∧ Cond.instanceMethod M.1 ∈ GT ∧ M.1.name = "<init>" ∧ M.2.2.2 = none
set_option maxHeartbeats 1000000 in
theorem J_callV {idx n ci k mc1 ms1 : Nat} {as : List AV} (hd : decode M.2.1 pc = .ok (.invokevirtual idx, 3)) (hm : MV M' n ci) (hlink : Cond.methodLink M.1.cls idx M'.1 ∈ GT) (hs : σ.1[k]? = some (.inl ci)) (hlen : as.length = n) (hct : ((vR k :: as).map ct).sum ≤ M'.2.2.1) (hrest : (st.map ct).sum ≤ 8)
    (hJ : J none M' d mc1 ms1 0 (ent 0 (vR k :: as)) [] σ Q1) (kk : ∀ (r : Option AV) (σ' : AH), Q1 r σ' → okr M'.2.2.2 r → J X M (d + 1) mc ms (pc + 3) ls (r.toList ++ st) σ' Q) : J X M (d + 1) (mc1 + mc) (ms1 + ms) pc ls (as.reverse ++ vR k :: st) σ Q := by
  intro p l e R s m args below meth c D B b dA E C0 S0 Z cx hR he H locs cells slots lsC hH hS h1 h2 hl hol hos
  obtain ⟨hmk, hin, hsel, q, hq1, hq2⟩ := hm
  have hos1 : ∀ v ∈ vR k :: as, okv v := by
    refine ok_c trivial (fun v hv => hos v (List.mem_append.mpr (Or.inl (List.mem_reverse.mpr hv))))
  have hos2 : ∀ v ∈ st, okv v := fun v hv => hos v (List.mem_append.mpr (Or.inr (List.mem_cons_of_mem _ hv)))
  have hM := Met_of_J l D B b dA E hmk.2.2.1 hct hos1 hJ
  have hts := cx.2.2.2.2.1
  have hK := cx.2.2.2.2.2.1
  have hrc := va_recv (q0 := 0) hK (va_P1 (hH.1 k _ hs)) hq1 rfl
  rw [hq2] at hrc
  have hrun := va_runV (cells := cells) (slots := slots) (As := as.map (cv B b)) (rest := st.map (cv B b)) (n := n) (g := F0 m pc lsC ((as.reverse ++ vR k :: st).map (cv B b))) ⟨cx.1, cx.2.1, cx.2.2.1, cx.2.2.2.1, hts⟩ hM
    ⟨callB_of n hts (gt_gin hmk) rfl rfl rfl (hts _ hmk.2.1) (hts _ hlink) hmk.2.2.2.1 ⟨hR.1, by have := hR.2.1; have := hmk.2.2.2.2; show 8 + (M'.2.2.1 + 11) + 100 * d ≤ R.locals; omega⟩, hts _ hin, hts _ hsel⟩
    (H := H) ⟨PcBlind, hrc, fun U hU hW => ⟨rfl, by rw [hU]; exact hH, va_K.moved hW.alike hK, by rw [hU]; exact Nat.le_trans cx.2.2.2.2.2.2.1 hS.1, KS_mv hW hU hS cx.2.2.2.2.2.2.2.2.1⟩⟩ rfl (by rw [List.length_map]; exact hlen) hl.1 (by show (as.reverse ++ vR k :: st).map (cv B b) = _; rw [rev_map]; rfl) (lv_room (by rw [cat_sum]; exact hrest)) hd (locs := locs) (below := below) (meth := meth) (e := e) ⟨by have := hR.2.2.1; omega, by have := hR.2.2.2; omega⟩
  exact J_run hrun cx hR he hS h1 h2 hl hol hos2 kk
end JC
end
section
section JD
variable {X : Option (Nat × (Nat → Int32))} {M M' : MD} {d mc ms pc : Nat} {ls : List (Nat × AV)} {st : List AV} {σ : AH} {Q Q1 : Option AV → AH → Prop}
set_option maxHeartbeats 1000000 in
theorem J_callS {idx n mc1 ms1 : Nat} {as : List AV} (hd : decode M.2.1 pc = .ok (.invokestatic idx, 3)) (hm : MS M' n) (hlink : Cond.methodLink M.1.cls idx M'.1 ∈ GT) (hlen : as.length = n) (hct : (as.map ct).sum ≤ M'.2.2.1) (hrest : (st.map ct).sum ≤ 8)
    (hJ : J none M' d mc1 ms1 0 (ent 0 as) [] σ Q1) (kk : ∀ (r : Option AV) (σ' : AH), Q1 r σ' → okr M'.2.2.2 r → J X M (d + 1) mc ms (pc + 3) ls (r.toList ++ st) σ' Q) : J X M (d + 1) (mc1 + mc) (ms1 + ms) pc ls (as.reverse ++ st) σ Q := by
  intro p l e R s m args below meth c D B b dA E C0 S0 Z cx hR he H locs cells slots lsC hH hS h1 h2 hl hol hos
  obtain ⟨hmk, hstt⟩ := hm
  have hos1 : ∀ v ∈ as, okv v := fun v hv => hos v (List.mem_append.mpr (Or.inl (List.mem_reverse.mpr hv)))
  have hos2 : ∀ v ∈ st, okv v := fun v hv => hos v (List.mem_append.mpr (Or.inr hv))
  have hM := Met_of_J l D B b dA E hmk.2.2.1 hct hos1 hJ
  have hts := cx.2.2.2.2.1
  have hK := cx.2.2.2.2.2.1
  have hrun := va_runS (cells := cells) (slots := slots) (As := as.map (cv B b)) (rest := st.map (cv B b)) (n := n) (g := F0 m pc lsC ((as.reverse ++ st).map (cv B b))) ⟨cx.1, cx.2.1, cx.2.2.1, cx.2.2.2.1, hts⟩ hM
    ⟨callB_of n hts (gt_gin hmk) rfl rfl rfl (hts _ hmk.2.1) (hts _ hlink) hmk.2.2.2.1 ⟨hR.1, by have := hR.2.1; have := hmk.2.2.2.2; show 8 + (M'.2.2.1 + 11) + 100 * d ≤ R.locals; omega⟩, hts _ hstt⟩
    (H := H) ⟨PcBlind, fun U hU hW => ⟨rfl, by rw [hU]; exact hH, va_K.moved hW.alike hK, by rw [hU]; exact Nat.le_trans cx.2.2.2.2.2.2.1 hS.1, KS_mv hW hU hS cx.2.2.2.2.2.2.2.2.1⟩⟩ rfl (by rw [List.length_map]; exact hlen) hl.1 (by show (as.reverse ++ st).map (cv B b) = _; rw [rev_map]) (lv_room (by rw [cat_sum]; exact hrest)) hd (locs := locs) (below := below) (meth := meth) (e := e) ⟨by have := hR.2.2.1; omega, by have := hR.2.2.2; omega⟩
  exact J_run hrun cx hR he hS h1 h2 hl hol hos2 kk
set_option maxHeartbeats 1000000 in
theorem J_callI {idx n k mc1 ms1 : Nat} {as : List AV} (hd : decode M.2.1 pc = .ok (.invokespecial idx, 3)) (hm : MI M' n) (hlink : Cond.methodLink M.1.cls idx M'.1 ∈ GT) (hlen : as.length = n) (hct : ((vR k :: as).map ct).sum ≤ M'.2.2.1) (hrest : (st.map ct).sum ≤ 8)
    (hJ : J none M' d mc1 ms1 0 (ent 0 (vR k :: as)) [] σ Q1) (kk : ∀ (r : Option AV) (σ' : AH), Q1 r σ' → okr M'.2.2.2 r → J X M (d + 1) mc ms (pc + 3) ls (r.toList ++ st) σ' Q) : J X M (d + 1) (mc1 + mc) (ms1 + ms) pc ls (as.reverse ++ vR k :: st) σ Q := by
  intro p l e R s m args below meth c D B b dA E C0 S0 Z cx hR he H locs cells slots lsC hH hS h1 h2 hl hol hos
  obtain ⟨hmk, hin, hnm, hrt⟩ := hm
  have hos1 : ∀ v ∈ vR k :: as, okv v := by
    refine ok_c trivial (fun v hv => hos v (List.mem_append.mpr (Or.inl (List.mem_reverse.mpr hv))))
  have hos2 : ∀ v ∈ st, okv v := fun v hv => hos v (List.mem_append.mpr (Or.inr (List.mem_cons_of_mem _ hv)))
  have hM := Met_of_J l D B b dA E hmk.2.2.1 hct hos1 hJ
  have hts := cx.2.2.2.2.1
  have hK := cx.2.2.2.2.2.1
  have hG := gt_gin hmk
  rw [hrt] at hM hG
  have hrun := va_runI (cells := cells) (slots := slots) (b := B + k) (As := as.map (cv B b)) (rest := st.map (cv B b)) (n := n) (g := F0 m pc lsC ((as.reverse ++ vR k :: st).map (cv B b))) ⟨cx.1, cx.2.1, cx.2.2.1, cx.2.2.2.1, hts⟩ hM
    ⟨callB_of n hts hG rfl rfl rfl (hts _ hmk.2.1) (hts _ hlink) hmk.2.2.2.1 ⟨hR.1, by have := hR.2.1; have := hmk.2.2.2.2; show 8 + (M'.2.2.1 + 11) + 100 * d ≤ R.locals; omega⟩, hnm, hts _ hin⟩
    (H := H) ⟨PcBlind, fun U hU hW => ⟨rfl, by rw [hU]; exact hH, va_K.moved hW.alike hK, by rw [hU]; exact Nat.le_trans cx.2.2.2.2.2.2.1 hS.1, KS_mv hW hU hS cx.2.2.2.2.2.2.2.2.1⟩⟩ rfl (by rw [List.length_map]; exact hlen) hl.1 (by show (as.reverse ++ vR k :: st).map (cv B b) = _; rw [rev_map]; rfl) (lv_room (by rw [cat_sum]; exact hrest)) hd (locs := locs) (below := below) (meth := meth) (e := e) ⟨by have := hR.2.2.1; omega, by have := hR.2.2.2; omega⟩
  exact J_run hrun cx hR he hS h1 h2 hl hol hos2 kk
set_option maxHeartbeats 1000000 in
theorem J_callSN {idx n mc1 ms1 : Nat} {as : List AV} {host : String} (hd : decode M.2.1 pc = .ok (.invokestatic idx, 3)) (hm : MS M' n) (hlink : ∀ (B : Nat) (E : Nat → Nat) (U : State), KS B E U → va_Nw (.methodLinkNest M.1.cls idx M'.1 host) U) (hlen : as.length = n) (hct : (as.map ct).sum ≤ M'.2.2.1) (hrest : (st.map ct).sum ≤ 8)
    (hJ : J none M' d mc1 ms1 0 (ent 0 as) [] σ Q1) (kk : ∀ (r : Option AV) (σ' : AH), Q1 r σ' → okr M'.2.2.2 r → J X M (d + 1) mc ms (pc + 3) ls (r.toList ++ st) σ' Q) : J X M (d + 1) (mc1 + mc) (ms1 + ms) pc ls (as.reverse ++ st) σ Q := by
  intro p l e R s m args below meth c D B b dA E C0 S0 Z cx hR he H locs cells slots lsC hH hS h1 h2 hl hol hos
  obtain ⟨hmk, hstt⟩ := hm
  have hos1 : ∀ v ∈ as, okv v := fun v hv => hos v (List.mem_append.mpr (Or.inl (List.mem_reverse.mpr hv)))
  have hos2 : ∀ v ∈ st, okv v := fun v hv => hos v (List.mem_append.mpr (Or.inr hv))
  have hM := Met_of_J l D B b dA E hmk.2.2.1 hct hos1 hJ
  have hts := cx.2.2.2.2.1
  have hK := cx.2.2.2.2.2.1
  have hks := cx.2.2.2.2.2.2.2.2.1
  have hrun := va_runSN (cells := cells) (slots := slots) (host := host) (As := as.map (cv B b)) (rest := st.map (cv B b)) (n := n) (g := F0 m pc lsC ((as.reverse ++ st).map (cv B b))) ⟨cx.1, cx.2.1, cx.2.2.1, cx.2.2.2.1, hts⟩ hM
    ⟨va_cnB n hts (gt_gin hmk) rfl rfl rfl (hlink B E s hks) (hts _ hmk.2.1) hmk.2.2.2.1 ⟨hR.1, by have := hR.2.1; have := hmk.2.2.2.2; show 8 + (M'.2.2.1 + 11) + 100 * d ≤ R.locals; omega⟩, hts _ hstt, trivial⟩
    (H := H) ⟨PcBlind, fun U hU hW => ⟨rfl, by rw [hU]; exact hH, va_K.moved hW.alike hK, by rw [hU]; exact Nat.le_trans cx.2.2.2.2.2.2.1 hS.1, KS_mv hW hU hS hks⟩⟩ rfl (by rw [List.length_map]; exact hlen) hl.1 (by show (as.reverse ++ st).map (cv B b) = _; rw [rev_map]) (lv_room (by rw [cat_sum]; exact hrest)) hd (locs := locs) (below := below) (meth := meth) (e := e) ⟨by have := hR.2.2.1; omega, by have := hR.2.2.2; omega⟩
  exact J_run hrun cx hR he hS h1 h2 hl hol hos2 kk
set_option maxHeartbeats 1000000 in
theorem J_callIN {idx n k mc1 ms1 : Nat} {as : List AV} {host : String} (hd : decode M.2.1 pc = .ok (.invokespecial idx, 3)) (hm : MI M' n) (hlink : ∀ (B : Nat) (E : Nat → Nat) (U : State), KS B E U → va_Nw (.methodLinkNest M.1.cls idx M'.1 host) U) (hlen : as.length = n) (hct : ((vR k :: as).map ct).sum ≤ M'.2.2.1) (hrest : (st.map ct).sum ≤ 8)
    (hJ : J none M' d mc1 ms1 0 (ent 0 (vR k :: as)) [] σ Q1) (kk : ∀ (r : Option AV) (σ' : AH), Q1 r σ' → okr M'.2.2.2 r → J X M (d + 1) mc ms (pc + 3) ls (r.toList ++ st) σ' Q) : J X M (d + 1) (mc1 + mc) (ms1 + ms) pc ls (as.reverse ++ vR k :: st) σ Q := by
  intro p l e R s m args below meth c D B b dA E C0 S0 Z cx hR he H locs cells slots lsC hH hS h1 h2 hl hol hos
  obtain ⟨hmk, hin, hnm, hrt⟩ := hm
  have hos1 : ∀ v ∈ vR k :: as, okv v := by
    refine ok_c trivial (fun v hv => hos v (List.mem_append.mpr (Or.inl (List.mem_reverse.mpr hv))))
  have hos2 : ∀ v ∈ st, okv v := fun v hv => hos v (List.mem_append.mpr (Or.inr (List.mem_cons_of_mem _ hv)))
  have hM := Met_of_J l D B b dA E hmk.2.2.1 hct hos1 hJ
  have hts := cx.2.2.2.2.1
  have hK := cx.2.2.2.2.2.1
  have hks := cx.2.2.2.2.2.2.2.2.1
  have hG := gt_gin hmk
  rw [hrt] at hM hG
  have hrun := va_runIN (cells := cells) (slots := slots) (host := host) (b := B + k) (As := as.map (cv B b)) (rest := st.map (cv B b)) (n := n) (g := F0 m pc lsC ((as.reverse ++ vR k :: st).map (cv B b))) ⟨cx.1, cx.2.1, cx.2.2.1, cx.2.2.2.1, hts⟩ hM
    ⟨va_cnB n hts hG rfl rfl rfl (hlink B E s hks) (hts _ hmk.2.1) hmk.2.2.2.1 ⟨hR.1, by have := hR.2.1; have := hmk.2.2.2.2; show 8 + (M'.2.2.1 + 11) + 100 * d ≤ R.locals; omega⟩, hnm, hts _ hin⟩
    (H := H) ⟨PcBlind, fun U hU hW => ⟨rfl, by rw [hU]; exact hH, va_K.moved hW.alike hK, by rw [hU]; exact Nat.le_trans cx.2.2.2.2.2.2.1 hS.1, KS_mv hW hU hS hks⟩⟩ rfl (by rw [List.length_map]; exact hlen) hl.1 (by show (as.reverse ++ vR k :: st).map (cv B b) = _; rw [rev_map]; rfl) (lv_room (by rw [cat_sum]; exact hrest)) hd (locs := locs) (below := below) (meth := meth) (e := e) ⟨by have := hR.2.2.1; omega, by have := hR.2.2.2; omega⟩
  exact J_run hrun cx hR he hS h1 h2 hl hol hos2 kk
theorem J_obj {idx k : Nat} (hd : decode M.2.1 pc = .ok (.invokespecial idx, 3)) (hw1 : Cond.methodLink M.1.cls idx Lib.objectInit ∈ GT) (hw2 : Cond.instanceMethod Lib.objectInit ∈ GT) (hw3 : Cond.code Lib.objectInit ⟨#[0xb1]⟩ 1 none ∈ GT) (hrest : (st.map ct).sum ≤ 8) (kk : J X M (d + 1) mc ms (pc + 3) ls st σ Q) : J X M (d + 1) mc ms pc ls (vR k :: st) σ Q := by
  intro p l e R s m args below meth c D B b dA E C0 S0 Z cx hR he H locs cells slots lsC hH hS h1 h2 hl hol hos
  have hts := cx.2.2.2.2.1
  refine W.objInit cx.1 cx.2.1 cx.2.2.2.1 (hts _ hw1) (hts _ hw2) (hts _ hw3) rfl (by rw [cx.2.2.1]; exact hl.1) rfl hd (by have := hR.1; omega) ?_ ?_
  · show 2 * 0 + ((st.map (cv B b)).map fun v => v.category).sum + 12 ≤ R.locals
    rw [cat_sum]
    have := hR.2.1
    omega
  · exact kk p l e R s m args below meth c D B b dA E C0 S0 Z cx hR he H locs cells slots lsC hH hS h1 h2 hl hol (ok_t hos)
end JD
end
section
def clI (I : Nat → Nat → Int) (n : Nat) : Nat → Nat → Int := fun a b => if a = n then 0 else I a b
def clR (R : Nat → Nat → Option Nat) (n : Nat) : Nat → Nat → Option Nat := fun a b => if a = n then none else R a b
theorem HR_new {D : va_G} {B : Nat} {dA : Nat → ClassId} {σ : AH} {H H1 : Heap} {sh : SH} (hH : HR D B dA σ H) (hz : H1.size = H.size + 1) (ho : ∀ q : Nat, q < H.size → H1[q]? = H[q]?)
    (hk : va_at D vwCl (B + σ.1.length, enc B dA (clR σ.2.1 σ.1.length) (clI σ.2.2 σ.1.length) σ.1.length sh) H1) : HR D B dA (σ.1 ++ [sh], clR σ.2.1 σ.1.length, clI σ.2.2 σ.1.length) H1 := by
  obtain ⟨a1, a2, a3⟩ := hH
  have hcase : ∀ (q : Nat) (s1 : SH), (σ.1 ++ [sh])[q]? = some s1 → (q < σ.1.length ∧ σ.1[q]? = some s1) ∨ (q = σ.1.length ∧ s1 = sh) := by
    intro q s1 hq
    rcases Nat.lt_or_ge q σ.1.length with hlt | hge
    · rw [List.getElem?_append_left hlt] at hq
      exact Or.inl ⟨hlt, hq⟩
    · rw [List.getElem?_append_right hge] at hq
      have h0 : q - σ.1.length < 1 := (List.getElem?_eq_some_iff.mp hq).1
      have e : q = σ.1.length := by omega
      subst e
      rw [Nat.sub_self] at hq
      exact Or.inr ⟨rfl, (Option.some.inj hq).symm⟩
  refine ⟨fun q s1 hq => ?_, by rw [hz, a2]; simp; omega, fun q s1 hq => ?_⟩
  · rcases hcase q s1 hq with ⟨hlt, hq⟩ | ⟨rfl, rfl⟩
    · have hne : q ≠ σ.1.length := Nat.ne_of_lt hlt
      show va_at D vwCl (B + q, enc B dA (clR σ.2.1 σ.1.length) (clI σ.2.2 σ.1.length) q s1) H1
      rw [enc_cong (R := σ.2.1) (I := σ.2.2) (fun j => by simp [clR, hne]) (fun j => by simp [clI, hne])]
      exact (a1 q s1 hq).kept (ho (B + q) (by rw [a2]; omega))
    · exact hk
  · rcases hcase q s1 hq with ⟨hlt, hq⟩ | ⟨rfl, rfl⟩
    · intro j
      show shr s1 (clI σ.2.2 σ.1.length q j)
      have hne : q ≠ σ.1.length := Nat.ne_of_lt hlt
      simp only [clI, hne, if_false]
      exact a3 q s1 hq j
    · intro j
      show shr s1 (clI σ.2.2 σ.1.length σ.1.length j)
      simp only [clI, if_true]
      unfold shr
      split
      · exact ll_0
      · exact ii_0
theorem S_new {B : Nat} {H0 H H1 : Heap} {locs : List Loc} (h : va_S (fun q => B ≤ q) H0 H locs) (z : H1.size = H.size + 1) (ho : ∀ q : Nat, q < H.size → H1[q]? = H[q]?) : va_S (fun q => B ≤ q) H0 H1 locs :=
  ⟨by have := h.1; omega, fun q g1 g2 => (ho q (Nat.lt_of_lt_of_le g1 h.1)).trans (h.2.1 q g1 g2), h.2.2⟩
section JN
variable {X : Option (Nat × (Nat → Int32))} {M M' : MD} {d mc ms pc : Nat} {ls : List (Nat × AV)} {st : List AV} {σ : AH} {Q Q1 : Option AV → AH → Prop}
theorem J_new {idx ci N : Nat} {C : String} {T : u_T} {ty : Nat → FieldType} (hd : decode M.2.1 pc = .ok (.new idx, 3)) (ck : CK ci C T N ty) (hw1 : Cond.classLink M.1.cls idx C ∈ GT) (hw2 : Cond.instantiable C N ∈ GT) (hw3 : Cond.initialized C ∈ GT) (hdf : ∀ j, j < N → ∀ r, (fl ci)[j]? = some r → defaultValue (ty j) = if r then .null else .int 0)
    (kk : J X M d mc ms (pc + 3) ls (vR σ.1.length :: st) (σ.1 ++ [.inl ci], clR σ.2.1 σ.1.length, clI σ.2.2 σ.1.length) Q) : J X M d (mc + 1) (ms + N) pc ls st σ Q := by
  intro p l e R s m args below meth c D B b dA E C0 S0 Z cx hR he H locs cells slots lsC hH hS h1 h2 hl hol hos
  have hts := cx.2.2.2.2.1
  have hK := cx.2.2.2.2.2.1
  obtain ⟨hC, hN, hin, hty, hnm, hown1⟩ := ck
  have hKn := hK.1 ci _ hC
  have hz0 : H.size = B + σ.1.length := hH.2.1
  refine W.newcK cx.1 cx.2.1 cx.2.2.2.1 (hts _ hw1) (hts _ hw2) (hts _ hw3) rfl hd (by have := hR.2.2.1; omega) (by have := hR.2.2.2; omega) hKn.2.1 hz0 fun H1 kC hkC e1 z1 o1 => ?_
  have z2 : H1.size = H.size + 1 := by rw [z1, hz0]
  have o2 : ∀ q : Nat, q < H.size → H1[q]? = H[q]? := fun q hq => o1 q (by rw [← hz0]; exact hq)
  refine kk p l e R s m args below meth c D B b dA E C0 S0 Z cx hR he H1 locs (cells + 1) (slots + N) lsC (HR_new hH z2 o2 ?_) (S_new hS z2 o2) (by omega) (by omega) hl hol (ok_c trivial hos)
  refine ⟨_, hC, (u_born ty hts hin hKn hkC e1 hty).to fun j hj => ?_⟩
  have hj' : j < (fl ci).length := by rw [hN]; exact hj
  obtain ⟨r, hr⟩ : ∃ r, (fl ci)[j]? = some r := ⟨(fl ci)[j], List.getElem?_eq_getElem hj'⟩
  rw [hdf j hj r hr]
  show _ = (fvs B (clR σ.2.1 σ.1.length) (clI σ.2.2 σ.1.length) σ.1.length ci).getD j .null
  rw [List.getD_eq_getElem?_getD, fvs_at hr]
  cases r <;> simp [fV, clR, clI, rfv, io_0]
theorem arrV_cong {cA cB : ClassId} {n : Nat} {f g : Nat → Value} (h1 : cA = cB) (h2 : f = g) : arrV cA n f = arrV cB n g := by rw [h1, h2]
theorem J_newa {t : Nat} {a : ArrayType} {n : Int} (hd : decode M.2.1 pc = .ok (.newarray a, 2)) (ht : (t = 0 ∧ a = .int) ∨ (t = 1 ∧ a = .long) ∨ (t = 2 ∧ a = .boolean) ∨ (t = 3 ∧ a = .char)) (hw : Cond.arrayClass (newarray.typeOf a) ∈ GT) (h0 : 0 ≤ n) (hn : n ≤ 1000000)
    (kk : J X M d mc ms (pc + 2) ls (vR σ.1.length :: st) (σ.1 ++ [.inr (t, n.toNat)], clR σ.2.1 σ.1.length, clI σ.2.2 σ.1.length) Q) : J X M d (mc + 1) (ms + n.toNat) pc ls (vI n :: st) σ Q := by
  intro p l e R s m args below meth c D B b dA E C0 S0 Z cx hR he H locs cells slots lsC hH hS h1 h2 hl hol hos
  have hts := cx.2.2.2.2.1
  have hK := cx.2.2.2.2.2.1
  have hi : ii n := ok_h hos
  have hz0 : H.size = B + σ.1.length := hH.2.1
  refine va_newaK cx.1 cx.2.1 (hts _ hw) rfl hd rfl (n := Int32.ofInt n) (N := n.toNat) (by rw [← io_0, io_lt hi ii_0]; omega) (io_cl hi) ?_ (by have := hR.2.2.1; omega) (by have := hR.2.2.2; omega) hz0 fun H1 cA e1 z1 o1 _ hNm => ?_
  · rcases ht with ⟨-, rfl⟩ | ⟨-, rfl⟩ | ⟨-, rfl⟩ | ⟨-, rfl⟩ <;> simp [newarray.typeOf, componentBytes] <;> omega
  have z2 : H1.size = H.size + 1 := by rw [z1, hz0]
  have o2 : ∀ q : Nat, q < H.size → H1[q]? = H[q]? := fun q hq => o1 q (by rw [← hz0]; exact hq)
  refine kk p l e R s m args below meth c D B b dA E C0 S0 Z cx hR he H1 locs (cells + 1) (slots + n.toNat) lsC (HR_new hH z2 o2 ?_) (S_new hS z2 o2) (by omega) (by omega) hl hol (ok_c trivial (ok_t hos))
  rcases ht with ⟨rfl, rfl⟩ | ⟨rfl, rfl⟩ | ⟨rfl, rfl⟩ | ⟨rfl, rfl⟩
  · have hc : cA = dA 0 := Option.some.inj (hNm.symm.trans (hK.2 0 _ rfl).2)
    show H1[B + σ.1.length]? = some (arrV (dA 0) n.toNat (fun j => .int (Int32.ofInt (clI σ.2.2 σ.1.length σ.1.length j))))
    refine e1.trans (congrArg some (arrV_cong hc (funext fun j => ?_)))
    simp [clI, newarray.typeOf, defaultValue]
  · have hc : cA = dA 1 := Option.some.inj (hNm.symm.trans (hK.2 1 _ rfl).2)
    show H1[B + σ.1.length]? = some (arrV (dA 1) n.toNat (fun j => .long (Int64.ofInt (clI σ.2.2 σ.1.length σ.1.length j))))
    refine e1.trans (congrArg some (arrV_cong hc (funext fun j => ?_)))
    simp [clI, newarray.typeOf, defaultValue]
  · have hc : cA = dA 2 := Option.some.inj (hNm.symm.trans (hK.2 2 _ rfl).2)
    show H1[B + σ.1.length]? = some (arrV (dA 2) n.toNat (fun j => .int (Int32.ofInt (clI σ.2.2 σ.1.length σ.1.length j))))
    refine e1.trans (congrArg some (arrV_cong hc (funext fun j => ?_)))
    simp [clI, newarray.typeOf, defaultValue]
  · have hc : cA = dA 3 := Option.some.inj (hNm.symm.trans (hK.2 3 _ rfl).2)
    show H1[B + σ.1.length]? = some (arrV (dA 3) n.toNat (fun j => .int (Int32.ofInt (clI σ.2.2 σ.1.length σ.1.length j))))
    refine e1.trans (congrArg some (arrV_cong hc (funext fun j => ?_)))
    simp [clI, newarray.typeOf, defaultValue]
theorem J_anew {idx : Nat} {n : Int} (hd : decode M.2.1 pc = .ok (.anewarray idx, 3)) (hw : Cond.classLink M.1.cls idx RX8 ∈ GT) (h0 : 0 ≤ n) (hn : n ≤ 1000000)
    (kk : J X M d mc ms (pc + 3) ls (vR σ.1.length :: st) (σ.1 ++ [.inr (4, n.toNat)], clR σ.2.1 σ.1.length, clI σ.2.2 σ.1.length) Q) : J X M d (mc + 1) (ms + n.toNat) pc ls (vI n :: st) σ Q := by
  intro p l e R s m args below meth c D B b dA E C0 S0 Z cx hR he H locs cells slots lsC hH hS h1 h2 hl hol hos
  have hts := cx.2.2.2.2.1
  have hK := cx.2.2.2.2.2.1
  have hks := cx.2.2.2.2.2.2.2.2.1
  have hi : ii n := ok_h hos
  have hz0 : H.size = B + σ.1.length := hH.2.1
  have hcl := io_cl hi
  refine W.anew cx.1 cx.2.1 cx.2.2.2.1 (hts _ hw) (va_AO.use hks.2.2.2.1) rfl hd rfl (n := Int32.ofInt n) (by rw [← io_0, io_lt hi ii_0]; omega) (by rw [hcl]; omega) (by have := hR.2.2.1; omega) (by have := hR.2.2.2; rw [hcl]; omega) fun cA kA comp f1 f2 f3 f4 => ?_
  rw [hcl]
  generalize hH1 : H.push ({ cls := cA, slots := Array.replicate n.toNat .null, vm := .none } : Cell) = H1
  have z2 : H1.size = H.size + 1 := by rw [← hH1, Array.size_push]
  have e1 : H1[B + σ.1.length]? = some (arrV cA n.toNat (fun _ => .null)) := by rw [← hH1, ← hz0, Array.getElem?_push_size, ← arrV_new]
  have o2 : ∀ q : Nat, q < H.size → H1[q]? = H[q]? := fun q hq => by rw [← hH1, Array.getElem?_push, if_neg (Nat.ne_of_lt hq)]
  rw [hz0]
  refine kk p l e R s m args below meth c D B b dA E C0 S0 Z cx hR he H1 locs (cells + 1) (slots + n.toNat) lsC (HR_new hH z2 o2 ?_) (S_new hS z2 o2) (by omega) (by omega) hl hol (ok_c trivial (ok_t hos))
  obtain ⟨kA', comp', k1, k2, k3, k4⟩ := (hK.2 4 _ rfl).2
  have hc : cA = dA 4 := Option.some.inj (f1.symm.trans k4)
  show H1[B + σ.1.length]? = some (arrV (dA 4) n.toNat (fun j => va_rf ((clR σ.2.1 σ.1.length σ.1.length j).map (fun q => B + q))))
  refine e1.trans (congrArg some (arrV_cong hc (funext fun j => ?_)))
  simp [clR, va_rf]
theorem J_putR {idx j ci k v : Nat} {C : String} {T : u_T} {N : Nat} {ty : Nat → FieldType} (hd : decode M.2.1 pc = .ok (.putfield idx, 3)) (ck : CK ci C T N ty) (hw : Cond.fieldLink M.1.cls idx C (T j).2.1 (T j).2.2.1 ∈ GT) (hf : (fl ci)[j]? = some true) (hfin : (T j).2.2.2 = true) (hC0 : C = M.1.cls) (hnm0 : M.1.name = "<init>") (ht : (∃ n, ty j = .object n) ∨ ∃ t, ty j = .array t) (hs : σ.1[k]? = some (.inl ci)) (kk : J X M d mc ms (pc + 3) ls st (σ.1, upR σ.2.1 k j (some v), σ.2.2) Q) : J X M d mc ms pc ls (vR v :: vR k :: st) σ Q := by
  intro p l e R s m args below meth c D B b dA E C0 S0 Z cx hR he H locs cells slots lsC hH hS h1 h2 hl hol hos
  have hj := fl_get ck.2.1 hf
  have hK := cx.2.2.2.2.2.1
  have hts := cx.2.2.2.2.1
  obtain ⟨hC, hN, hin, hty, hnm, hown1⟩ := ck
  have hap := va_apart (own := M.1.cls) hts hin ty hty hnm hK hC
  obtain ⟨r, g1, cell, q1, q2, q3, q4⟩ := hH.1 k _ hs
  have hr : r = (C, T, N) := Option.some.inj (g1.symm.trans hC)
  subst hr
  obtain ⟨hSl, hfc, kC, hkC, hkind⟩ := hK.1 ci _ hC
  obtain ⟨cf, kf, fi, f, hi, hsl⟩ := hSl j hj
  have hlay := hts _ (hin _ (u_in_lay hj))
  unfold u_lay at hlay
  rw [if_pos hfin] at hlay
  have hst := (u_facts hfc hkC (u_lays hts hin hj) hi).1
  have hcf : m.cls = cf := by
    obtain ⟨_, _, c', _, _, _, -, -, hf', -, -, -, hown2, -⟩ := Cond.laysFinal_spec hlay
    have e1 : c' = cf := by have := hi.symm.trans hf'; simp at this; exact this.1.symm
    rw [hown1 j hj, hC0] at hown2
    rw [← e1]; exact Option.some.inj (cx.2.2.2.1.symm.trans hown2)
  have hnf : narrow (ty j) (.ref (B + v)) = .ref (B + v) ∧ fits (ty j) (.ref (B + v)) = true := by
    rcases ht with ⟨n, e⟩ | ⟨t, e⟩ <;> rw [e] <;> exact ⟨rfl, rfl⟩
  have h6 := u_fits hfc hkC hkind (Or.inr hlay) hi (hty j hj) hnf.1 hnf.2
  refine W.putFinK cx.1 cx.2.1 cx.2.2.2.1 (hts _ hw) (by rw [hown1 j hj] at hi; exact hi) hst hcf (by rw [cx.2.2.2.2.2.2.2.1]; exact hnm0) (by rw [q2]; exact h6) q1 q3 (by rw [hsl]; exact k2_hasslot (q4 j hj)) rfl rfl hd fun H' e1 e2 e3 => ?_
  rw [hsl] at e1 ⊢
  have hl5 : j < (fvs B σ.2.1 σ.2.2 k ci).length := by rw [fvs_len, hN]; exact hj
  refine kk p l e R s m args below meth c D B b dA E C0 S0 Z cx hR he H' _ cells slots lsC (HR_set (σ' := (σ.1, upR σ.2.1 k j (some v), σ.2.2)) hH rfl hs e2 e3 ?_ (fun k' hk' j' => by simp [upR, hk']) (fun _ _ _ => rfl) (hH.2.2 k _ hs)) (S_put hS e2 e3) h1 h2 hl hol (ok_t (ok_t hos))
  refine ⟨_, hC, ?_⟩
  have h7 := t_OB.to (V := updV (vp_V (fvs B σ.2.1 σ.2.2 k ci)) j (.ref (B + v))) ⟨_, e1, q2, q3, t_set q4 hap hj (.ref (B + v))⟩ (fun i _ => vp_updV_set hl5 (.ref (B + v)) i)
  rw [fvs_setR hf] at h7
  exact h7
theorem J_aast {i : Int} {k n v : Nat} (hd : decode M.2.1 pc = .ok (.aastore, 1)) (hs : σ.1[k]? = some (.inr (4, n))) (hsv : σ.1[v]? = some (.inl 8)) (h0 : 0 ≤ i) (hn : i < n) (kk : J X M d mc ms (pc + 1) ls st (σ.1, upR σ.2.1 k i.toNat (some v), σ.2.2) Q) : J X M d mc ms pc ls (vR v :: vI i :: vR k :: st) σ Q := by
  intro p l e R s m args below meth c D B b dA E C0 S0 Z cx hR he H locs cells slots lsC hH hS h1 h2 hl hol hos
  have hK := cx.2.2.2.2.2.1
  have hi : ii i := ok_h (ok_t hos)
  have hc : H[B + k]? = some (arrV (dA 4) n (fun j => va_rf ((σ.2.1 k j).map (fun q => B + q)))) := hH.1 k _ hs
  obtain ⟨r', hr', cellV, g1, g2, g3, -⟩ := hH.1 v _ hsv
  have hcls := (hK.1 8 (RX8, TX8, 8) rfl).2
  obtain ⟨kA, comp, k1, k2, k3, -⟩ := (hK.2 4 _ rfl).2
  have hcomp : comp = D.1 8 := Option.some.inj (k3.symm.trans hcls.1)
  subst hcomp
  obtain ⟨kC, hkC, -⟩ := hcls.2
  have hin := io_in hi h0 hn
  refine W.aast cx.1 cx.2.1 hc (fun q h => by cases h) (fun h => by cases h) k1 k2 rfl hkC ⟨fun q => hin (Or.inl q), by rw [arrV_size]; exact Nat.not_le.mp fun q => hin (Or.inr q)⟩ g1 (fun q h => by rw [g3] at h; cases h) (by rw [g2]; exact hkC) (by rw [g2]; exact va_assign hcls) rfl rfl hd fun H' e1 e2 e3 => ?_
  rw [io_cl hi] at e1 ⊢
  refine kk p l e R s m args below meth c D B b dA E C0 S0 Z cx hR he H' _ cells slots lsC (HR_set (σ' := (σ.1, upR σ.2.1 k i.toNat (some v), σ.2.2)) hH rfl hs e2 e3 ?_ (fun k' hk' j' => by simp [upR, hk']) (fun _ _ _ => rfl) (hH.2.2 k _ hs)) (S_put hS e2 e3) h1 h2 hl hol (ok_t (ok_t (ok_t hos)))
  show H'[B + k]? = some (arrV (dA 4) n (fun j => va_rf ((upR σ.2.1 k i.toNat (some v) k j).map (fun q => B + q))))
  rw [e1, arrV_store]
  refine congrArg some (arrV_cong rfl (funext fun j => ?_))
  by_cases hq : j = i.toNat
  · subst hq; simp [updV, upR, va_rf]
  · simp [updV, upR, hq]
def cpI (I : Nat → Nat → Int) (k0 sp k1 dp n : Nat) : Nat → Nat → Int := fun a j => if a = k1 ∧ dp ≤ j ∧ j < dp + n then I k0 (sp + (j - dp)) else I a j
theorem J_copy {idx k0 k1 n0 n1 : Nat} {sp dp n : Int} (hd : decode M.2.1 pc = .ok (.invokestatic idx, 3)) (hw1 : Cond.methodLink M.1.cls idx arraycopyName ∈ GT) (hw2 : Cond.native arraycopyName ∈ GT) (hw3 : Cond.static arraycopyName ∈ GT) (hw4 : Cond.initialized "java/lang/System" ∈ GT) (hs0 : σ.1[k0]? = some (.inr (0, n0))) (hs1 : σ.1[k1]? = some (.inr (0, n1))) (g1 : 0 ≤ sp) (g2 : 0 ≤ dp) (g3 : 0 ≤ n) (g4 : sp + n ≤ n0) (g5 : dp + n ≤ n1) (hrest : (st.map ct).sum ≤ 8)
    (kk : J X M (d + 1) mc ms (pc + 3) ls st (σ.1, σ.2.1, cpI σ.2.2 k0 sp.toNat k1 dp.toNat n.toNat) Q) : J X M (d + 1) mc ms pc ls (vI n :: vI dp :: vR k1 :: vI sp :: vR k0 :: st) σ Q := by
  intro p l e R s m args below meth c D B b dA E C0 S0 Z cx hR he H locs cells slots lsC hH hS h1 h2 hl hol hos
  have hts := cx.2.2.2.2.1
  have hK := cx.2.2.2.2.2.1
  have hin : ii n := ok_h hos
  have hidp : ii dp := ok_h (ok_t hos)
  have hisp : ii sp := ok_h (ok_t (ok_t (ok_t hos)))
  have cn := io_cl hin
  have cdp := io_cl hidp
  have csp := io_cl hisp
  have nn : ∀ z : Int, ii z → 0 ≤ z → ¬ Int32.ofInt z < 0 := fun z hz h0 q => by rw [← io_0, io_lt hz ii_0] at q; omega
  intro T hT XX
  have hc0 : H[B + k0]? = some (vp_cell (dA 0) (n0, .inl (fun i => Int32.ofInt (σ.2.2 k0 i)))) := hH.1 k0 _ hs0
  have hc1 : H[B + k1]? = some (vp_cell (dA 0) (n1, .inl (fun i => Int32.ofInt (σ.2.2 k1 i)))) := hH.1 k1 _ hs1
  obtain ⟨-, kc0, hk0, cm0, hkk0⟩ := (hK.2 0 _ rfl).1 n0 (fun j => .int (Int32.ofInt (σ.2.2 k0 j)))
  obtain ⟨-, kc1, hk1, cm1, hkk1⟩ := (hK.2 0 _ rfl).1 n1 (fun j => .int (Int32.ofInt (σ.2.2 k1 j)))
  obtain ⟨vm', X', step⟩ := XX.arraycopy cx.1 cx.2.2.2.1 (hts _ hw1) (hts _ hw2) (hts _ hw3) (hts _ hw4) (src := B + k0) (dst := B + k1) (cs := vp_cell (dA 0) (n0, .inl (fun i => Int32.ofInt (σ.2.2 k0 i)))) (cd := vp_cell (dA 0) (n1, .inl (fun i => Int32.ofInt (σ.2.2 k1 i)))) (srcPos := Int32.ofInt sp) (destPos := Int32.ofInt dp) (n := Int32.ofInt n) (by rw [hT]; exact hc0) (by rw [hT]; exact hc1)
    (fun _ h => by cases h) (fun _ h => by cases h) (fun h => by cases h) (fun h => by cases h) hk0 hk1 hkk0 hkk1 (by simp [refKind]) (nn sp hisp g1) (nn dp hidp g2) (nn n hin g3)
    (by rw [ii_ofI hisp, ii_ofI hin]; show ¬ _ > ((arrV (dA 0) n0 (fun j => .int (Int32.ofInt (σ.2.2 k0 j)))).slots.size : Int); rw [arrV_size]; omega)
    (by rw [ii_ofI hidp, ii_ofI hin]; show ¬ _ > ((arrV (dA 0) n1 (fun j => .int (Int32.ofInt (σ.2.2 k1 j)))).slots.size : Int); rw [arrV_size]; omega)
    (fun vm₁ _ i hi => by
      rw [cn] at hi
      have ev : (vp_cell (dA 0) (n0, .inl (fun i => Int32.ofInt (σ.2.2 k0 i)))).slots.getD ((Int32.ofInt sp).toNatClampNeg + i) .null = .int (Int32.ofInt (σ.2.2 k0 ((Int32.ofInt sp).toNatClampNeg + i))) := by
        show (arrV (dA 0) n0 (fun j => .int (Int32.ofInt (σ.2.2 k0 j)))).slots.getD _ _ = _
        rw [Array.getD_eq_getD_getElem?, arrV_read _ _ (by rw [csp]; omega)]
        rfl
      refine ⟨?_, ?_⟩
      · rw [ev]
        rfl
      · rw [ev]
        exact trivial)
    (g := F0 m pc lsC (.int (Int32.ofInt n) :: .int (Int32.ofInt dp) :: .ref (B + k1) :: .int (Int32.ofInt sp) :: .ref (B + k0) :: st.map (cv B b))) rfl (by rw [cx.2.2.1]; exact hl.1) (rest := st.map (cv B b)) rfl (by rw [cx.2.1]; exact hd) (by have := hR.1; omega) (by
      show 2 * 0 + ((st.map (cv B b)).map fun v => v.category).sum + (nativeFrameWords "java/lang/System" "arraycopy" 5 + 11) ≤ _
      rw [cat_sum]
      have h9 : nativeFrameWords "java/lang/System" "arraycopy" 5 ≤ 60 := by decide +kernel
      have := hR.2.1
      omega)
  have h4' : (Int32.ofInt sp).toNatClampNeg + (Int32.ofInt n).toNatClampNeg ≤ n0 := by rw [csp, cn]; omega
  have e1 : copied (vp_cell (dA 0) (n0, .inl (fun i => Int32.ofInt (σ.2.2 k0 i)))) (vp_cell (dA 0) (n1, .inl (fun i => Int32.ofInt (σ.2.2 k1 i)))) (Int32.ofInt sp) (Int32.ofInt dp) (Int32.ofInt n) = vp_cell (dA 0) (n1, .inl (va_cpy (fun i => Int32.ofInt (σ.2.2 k0 i)) (fun i => Int32.ofInt (σ.2.2 k1 i)) (Int32.ofInt sp).toNatClampNeg (Int32.ofInt dp).toNatClampNeg (Int32.ofInt n).toNatClampNeg)) := va_copied (fun z => .int z) (dA 0) (dA 0) (fun i => Int32.ofInt (σ.2.2 k0 i)) (fun i => Int32.ofInt (σ.2.2 k1 i)) h4'
  rw [e1] at X' step
  have hlt : B + k1 < H.size := (Array.getElem?_eq_some_iff.mp hc1).1
  have oq : ∀ (cell : Cell) (q : Nat), q ≠ B + k1 → (H.setIfInBounds (B + k1) cell)[q]? = H[q]? := fun cell q hq => by simp [Array.getElem?_setIfInBounds, Ne.symm hq]
  have hHn : HR D B dA (σ.1, σ.2.1, cpI σ.2.2 k0 sp.toNat k1 dp.toNat n.toNat) (H.setIfInBounds (B + k1) (vp_cell (dA 0) (n1, .inl (va_cpy (fun i => Int32.ofInt (σ.2.2 k0 i)) (fun i => Int32.ofInt (σ.2.2 k1 i)) (Int32.ofInt sp).toNatClampNeg (Int32.ofInt dp).toNatClampNeg (Int32.ofInt n).toNatClampNeg)))) := by
    refine HR_set (σ' := (σ.1, σ.2.1, cpI σ.2.2 k0 sp.toNat k1 dp.toNat n.toNat)) hH rfl hs1 (by simp) (oq _) ?_ (fun _ _ _ => rfl) (fun k' hk' j' => by simp [cpI, hk']) ?_
    · show (H.setIfInBounds (B + k1) _)[B + k1]? = some (arrV (dA 0) n1 (fun j => .int (Int32.ofInt (cpI σ.2.2 k0 sp.toNat k1 dp.toNat n.toNat k1 j))))
      rw [csp, cdp, cn]
      have e9 : (H.setIfInBounds (B + k1) (vp_cell (dA 0) (n1, .inl (va_cpy (fun i => Int32.ofInt (σ.2.2 k0 i)) (fun i => Int32.ofInt (σ.2.2 k1 i)) sp.toNat dp.toNat n.toNat))))[B + k1]? = some (arrV (dA 0) n1 (fun j => .int (va_cpy (fun i => Int32.ofInt (σ.2.2 k0 i)) (fun i => Int32.ofInt (σ.2.2 k1 i)) sp.toNat dp.toNat n.toNat j))) := by
        simp [Array.getElem?_setIfInBounds, hlt, vp_cell_i]
      rw [e9]
      refine congrArg some (arrV_cong rfl (funext fun j => ?_))
      unfold va_cpy cpI
      by_cases hj : dp.toNat ≤ j ∧ j < dp.toNat + n.toNat
      · rw [if_pos hj, if_pos ⟨rfl, hj⟩]
      · rw [if_neg hj, if_neg (fun q => hj q.2)]
    · intro j
      show ii (cpI σ.2.2 k0 sp.toNat k1 dp.toNat n.toNat k1 j)
      unfold cpI
      split
      · exact hH.2.2 k0 _ hs0 _
      · exact hH.2.2 k1 _ hs1 _
  obtain ⟨t, a1, b1⟩ := kk p l e R s m args below meth c D B b dA E C0 S0 Z cx hR he _ _ cells slots lsC hHn ⟨by simp; exact hS.1, fun q a1 a2 => by
      rw [oq _ q (fun e => a2 (by rw [e]; exact Nat.le_add_right _ _))]
      exact hS.2.1 q a1 a2, fun q hq => by
      rcases List.mem_append.mp hq with h | h
      · exact hS.2.2 q h
      · obtain ⟨z, -, hz⟩ := List.mem_map.mp h
        rw [← hz]
        exact Nat.le_add_right B k1⟩ h1 h2 hl hol (ok_t (ok_t (ok_t (ok_t (ok_t hos))))) _ (by rw [← hT]; rfl) X'
  exact ⟨t, step t a1, b1⟩
end JN
end
