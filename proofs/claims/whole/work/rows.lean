section
-- ===== PART A: goes FIRST, ahead of the names: the tables' words, and 'selects' of the private methods out of them =====
/-- a private method of a class that the tables say can be made, by its rows of tables_1 -/
def lw_okq (q : MethodName × Nat) : Prop := (q.1.cls ≠ "java/lang/invoke/MethodHandle" ∧ q.1.cls ≠ "java/lang/invoke/VarHandle") ∧ Cond.instantiable q.1.cls q.2 ∈ tables_1 ∧ Cond.privateMethod q.1 ∈ tables_1 ∧ Cond.instanceMethod q.1 ∈ tables_1
theorem lw_p0 : lw_okq (⟨"MeetingNets$Reader", "scan", "(LMeetingNets$Tape;I)V"⟩, 9) := ⟨⟨by decide +kernel, by decide +kernel⟩, List.mem_of_getElem? (i := 54) (by decide +kernel), List.mem_of_getElem? (i := 288) (by decide +kernel), List.mem_of_getElem? (i := 289) (by decide +kernel)⟩
theorem lw_p1 : lw_okq (⟨"MeetingNets$Reader", "take", "()I"⟩, 9) := ⟨⟨by decide +kernel, by decide +kernel⟩, List.mem_of_getElem? (i := 54) (by decide +kernel), List.mem_of_getElem? (i := 303) (by decide +kernel), List.mem_of_getElem? (i := 304) (by decide +kernel)⟩
theorem lw_p2 : lw_okq (⟨"MeetingNets$Reader", "takeSign", "()I"⟩, 9) := ⟨⟨by decide +kernel, by decide +kernel⟩, List.mem_of_getElem? (i := 54) (by decide +kernel), List.mem_of_getElem? (i := 307) (by decide +kernel), List.mem_of_getElem? (i := 308) (by decide +kernel)⟩
theorem lw_p3 : lw_okq (⟨"MeetingNets$Reader", "takeRowWord", "()I"⟩, 9) := ⟨⟨by decide +kernel, by decide +kernel⟩, List.mem_of_getElem? (i := 54) (by decide +kernel), List.mem_of_getElem? (i := 311) (by decide +kernel), List.mem_of_getElem? (i := 312) (by decide +kernel)⟩
theorem lw_p4 : lw_okq (⟨"MeetingNets$Reader", "takeName", "()I"⟩, 9) := ⟨⟨by decide +kernel, by decide +kernel⟩, List.mem_of_getElem? (i := 54) (by decide +kernel), List.mem_of_getElem? (i := 321) (by decide +kernel), List.mem_of_getElem? (i := 322) (by decide +kernel)⟩
theorem lw_p5 : lw_okq (⟨"MeetingNets$Reader", "toldAs", "()I"⟩, 9) := ⟨⟨by decide +kernel, by decide +kernel⟩, List.mem_of_getElem? (i := 54) (by decide +kernel), List.mem_of_getElem? (i := 325) (by decide +kernel), List.mem_of_getElem? (i := 326) (by decide +kernel)⟩
theorem lw_p6 : lw_okq (⟨"MeetingNets$Reader", "takePoint", "()I"⟩, 9) := ⟨⟨by decide +kernel, by decide +kernel⟩, List.mem_of_getElem? (i := 54) (by decide +kernel), List.mem_of_getElem? (i := 345) (by decide +kernel), List.mem_of_getElem? (i := 346) (by decide +kernel)⟩
theorem lw_p7 : lw_okq (⟨"MeetingNets$Net", "reach", "(I)I"⟩, 2) := ⟨⟨by decide +kernel, by decide +kernel⟩, List.mem_of_getElem? (i := 27) (by decide +kernel), List.mem_of_getElem? (i := 397) (by decide +kernel), List.mem_of_getElem? (i := 398) (by decide +kernel)⟩
theorem lw_p8 : lw_okq (⟨"MeetingNets$Net", "oddTips", "(III)I"⟩, 2) := ⟨⟨by decide +kernel, by decide +kernel⟩, List.mem_of_getElem? (i := 27) (by decide +kernel), List.mem_of_getElem? (i := 413) (by decide +kernel), List.mem_of_getElem? (i := 414) (by decide +kernel)⟩
theorem lw_p9 : lw_okq (⟨"MeetingNets$Net", "clawEnds", "(III)I"⟩, 2) := ⟨⟨by decide +kernel, by decide +kernel⟩, List.mem_of_getElem? (i := 27) (by decide +kernel), List.mem_of_getElem? (i := 424) (by decide +kernel), List.mem_of_getElem? (i := 425) (by decide +kernel)⟩
theorem lw_p10 : lw_okq (⟨"MeetingNets", "change", "(IIZ)I"⟩, 13) := ⟨⟨by decide +kernel, by decide +kernel⟩, List.mem_of_getElem? (i := 19) (by decide +kernel), List.mem_of_getElem? (i := 453) (by decide +kernel), List.mem_of_getElem? (i := 454) (by decide +kernel)⟩
theorem lw_p11 : lw_okq (⟨"MeetingNets$Cover", "firstOpen", "()I"⟩, 7) := ⟨⟨by decide +kernel, by decide +kernel⟩, List.mem_of_getElem? (i := 91) (by decide +kernel), List.mem_of_getElem? (i := 530) (by decide +kernel), List.mem_of_getElem? (i := 531) (by decide +kernel)⟩
theorem lw_p12 : lw_okq (⟨"MeetingNets$Cover", "keepRow", "(I)V"⟩, 7) := ⟨⟨by decide +kernel, by decide +kernel⟩, List.mem_of_getElem? (i := 91) (by decide +kernel), List.mem_of_getElem? (i := 535) (by decide +kernel), List.mem_of_getElem? (i := 536) (by decide +kernel)⟩
theorem lw_p13 : lw_okq (⟨"MeetingNets$Cover", "fits", "(I)Z"⟩, 7) := ⟨⟨by decide +kernel, by decide +kernel⟩, List.mem_of_getElem? (i := 91) (by decide +kernel), List.mem_of_getElem? (i := 544) (by decide +kernel), List.mem_of_getElem? (i := 545) (by decide +kernel)⟩
theorem lw_p14 : lw_okq (⟨"MeetingNets$Cover", "seat", "(II)V"⟩, 7) := ⟨⟨by decide +kernel, by decide +kernel⟩, List.mem_of_getElem? (i := 91) (by decide +kernel), List.mem_of_getElem? (i := 553) (by decide +kernel), List.mem_of_getElem? (i := 554) (by decide +kernel)⟩
theorem lw_p15 : lw_okq (⟨"MeetingNets$Cover", "numberAhead", "(I)I"⟩, 7) := ⟨⟨by decide +kernel, by decide +kernel⟩, List.mem_of_getElem? (i := 91) (by decide +kernel), List.mem_of_getElem? (i := 565) (by decide +kernel), List.mem_of_getElem? (i := 566) (by decide +kernel)⟩
def lw_privs_1 : List (MethodName × Nat) := [(⟨"MeetingNets$Reader", "scan", "(LMeetingNets$Tape;I)V"⟩, 9), (⟨"MeetingNets$Reader", "take", "()I"⟩, 9), (⟨"MeetingNets$Reader", "takeSign", "()I"⟩, 9), (⟨"MeetingNets$Reader", "takeRowWord", "()I"⟩, 9), (⟨"MeetingNets$Reader", "takeName", "()I"⟩, 9), (⟨"MeetingNets$Reader", "toldAs", "()I"⟩, 9), (⟨"MeetingNets$Reader", "takePoint", "()I"⟩, 9), (⟨"MeetingNets$Net", "reach", "(I)I"⟩, 2), (⟨"MeetingNets$Net", "oddTips", "(III)I"⟩, 2), (⟨"MeetingNets$Net", "clawEnds", "(III)I"⟩, 2), (⟨"MeetingNets", "change", "(IIZ)I"⟩, 13), (⟨"MeetingNets$Cover", "firstOpen", "()I"⟩, 7), (⟨"MeetingNets$Cover", "keepRow", "(I)V"⟩, 7), (⟨"MeetingNets$Cover", "fits", "(I)Z"⟩, 7), (⟨"MeetingNets$Cover", "seat", "(II)V"⟩, 7), (⟨"MeetingNets$Cover", "numberAhead", "(I)I"⟩, 7)]
theorem lw_r1 : ∀ q ∈ lw_privs_1, lw_okq q := List.forall_mem_cons.mpr ⟨lw_p0, List.forall_mem_cons.mpr ⟨lw_p1, List.forall_mem_cons.mpr ⟨lw_p2, List.forall_mem_cons.mpr ⟨lw_p3, List.forall_mem_cons.mpr ⟨lw_p4, List.forall_mem_cons.mpr ⟨lw_p5, List.forall_mem_cons.mpr ⟨lw_p6, List.forall_mem_cons.mpr ⟨lw_p7, List.forall_mem_cons.mpr ⟨lw_p8, List.forall_mem_cons.mpr ⟨lw_p9, List.forall_mem_cons.mpr ⟨lw_p10, List.forall_mem_cons.mpr ⟨lw_p11, List.forall_mem_cons.mpr ⟨lw_p12, List.forall_mem_cons.mpr ⟨lw_p13, List.forall_mem_cons.mpr ⟨lw_p14, List.forall_mem_cons.mpr ⟨lw_p15, fun _ h => absurd h List.not_mem_nil⟩⟩⟩⟩⟩⟩⟩⟩⟩⟩⟩⟩⟩⟩⟩⟩
theorem lw_p16 : lw_okq (⟨"MeetingNets$Cover", "cliquesOf", "(I)I"⟩, 7) := ⟨⟨by decide +kernel, by decide +kernel⟩, List.mem_of_getElem? (i := 91) (by decide +kernel), List.mem_of_getElem? (i := 569) (by decide +kernel), List.mem_of_getElem? (i := 570) (by decide +kernel)⟩
theorem lw_p17 : lw_okq (⟨"MeetingNets", "didDeed", "()Z"⟩, 13) := ⟨⟨by decide +kernel, by decide +kernel⟩, List.mem_of_getElem? (i := 19) (by decide +kernel), List.mem_of_getElem? (i := 587) (by decide +kernel), List.mem_of_getElem? (i := 588) (by decide +kernel)⟩
theorem lw_p18 : lw_okq (⟨"MeetingNets", "draw", "(I)I"⟩, 13) := ⟨⟨by decide +kernel, by decide +kernel⟩, List.mem_of_getElem? (i := 19) (by decide +kernel), List.mem_of_getElem? (i := 591) (by decide +kernel), List.mem_of_getElem? (i := 592) (by decide +kernel)⟩
theorem lw_p19 : lw_okq (⟨"MeetingNets", "didGo", "()Z"⟩, 13) := ⟨⟨by decide +kernel, by decide +kernel⟩, List.mem_of_getElem? (i := 19) (by decide +kernel), List.mem_of_getElem? (i := 596) (by decide +kernel), List.mem_of_getElem? (i := 597) (by decide +kernel)⟩
theorem lw_p20 : lw_okq (⟨"MeetingNets", "didCome", "()Z"⟩, 13) := ⟨⟨by decide +kernel, by decide +kernel⟩, List.mem_of_getElem? (i := 19) (by decide +kernel), List.mem_of_getElem? (i := 600) (by decide +kernel), List.mem_of_getElem? (i := 601) (by decide +kernel)⟩
theorem lw_p21 : lw_okq (⟨"MeetingNets", "didFlip", "()Z"⟩, 13) := ⟨⟨by decide +kernel, by decide +kernel⟩, List.mem_of_getElem? (i := 19) (by decide +kernel), List.mem_of_getElem? (i := 604) (by decide +kernel), List.mem_of_getElem? (i := 605) (by decide +kernel)⟩
theorem lw_p22 : lw_okq (⟨"MeetingNets$Proof", "forget", "()V"⟩, 5) := ⟨⟨by decide +kernel, by decide +kernel⟩, List.mem_of_getElem? (i := 119) (by decide +kernel), List.mem_of_getElem? (i := 684) (by decide +kernel), List.mem_of_getElem? (i := 685) (by decide +kernel)⟩
theorem lw_p23 : lw_okq (⟨"MeetingNets$Net", "hasClaw", "(I)Z"⟩, 2) := ⟨⟨by decide +kernel, by decide +kernel⟩, List.mem_of_getElem? (i := 27) (by decide +kernel), List.mem_of_getElem? (i := 694) (by decide +kernel), List.mem_of_getElem? (i := 695) (by decide +kernel)⟩
theorem lw_p24 : lw_okq (⟨"MeetingNets$Net", "hasThreeUntied", "(I)Z"⟩, 2) := ⟨⟨by decide +kernel, by decide +kernel⟩, List.mem_of_getElem? (i := 27) (by decide +kernel), List.mem_of_getElem? (i := 698) (by decide +kernel), List.mem_of_getElem? (i := 699) (by decide +kernel)⟩
theorem lw_p25 : lw_okq (⟨"MeetingNets$Net", "hasOddPair", "(I)Z"⟩, 2) := ⟨⟨by decide +kernel, by decide +kernel⟩, List.mem_of_getElem? (i := 27) (by decide +kernel), List.mem_of_getElem? (i := 702) (by decide +kernel), List.mem_of_getElem? (i := 703) (by decide +kernel)⟩
theorem lw_p26 : lw_okq (⟨"MeetingNets$Proof", "weigh", "(II)V"⟩, 5) := ⟨⟨by decide +kernel, by decide +kernel⟩, List.mem_of_getElem? (i := 119) (by decide +kernel), List.mem_of_getElem? (i := 708) (by decide +kernel), List.mem_of_getElem? (i := 709) (by decide +kernel)⟩
theorem lw_p27 : lw_okq (⟨"MeetingNets$Proof", "hasCoverlessWithin", "(I)Z"⟩, 5) := ⟨⟨by decide +kernel, by decide +kernel⟩, List.mem_of_getElem? (i := 119) (by decide +kernel), List.mem_of_getElem? (i := 712) (by decide +kernel), List.mem_of_getElem? (i := 713) (by decide +kernel)⟩
theorem lw_p28 : lw_okq (⟨"MeetingNets$Proof", "note", "(II)V"⟩, 5) := ⟨⟨by decide +kernel, by decide +kernel⟩, List.mem_of_getElem? (i := 119) (by decide +kernel), List.mem_of_getElem? (i := 719) (by decide +kernel), List.mem_of_getElem? (i := 720) (by decide +kernel)⟩
theorem lw_p29 : lw_okq (⟨"MeetingNets", "mendsByFlipping", "(II)Z"⟩, 13) := ⟨⟨by decide +kernel, by decide +kernel⟩, List.mem_of_getElem? (i := 19) (by decide +kernel), List.mem_of_getElem? (i := 753) (by decide +kernel), List.mem_of_getElem? (i := 754) (by decide +kernel)⟩
theorem lw_p30 : lw_okq (⟨"MeetingNets", "coversWith", "(I)Z"⟩, 13) := ⟨⟨by decide +kernel, by decide +kernel⟩, List.mem_of_getElem? (i := 19) (by decide +kernel), List.mem_of_getElem? (i := 762) (by decide +kernel), List.mem_of_getElem? (i := 763) (by decide +kernel)⟩
theorem lw_p31 : lw_okq (⟨"MeetingNets$Palette", "clear", "()V"⟩, 2) := ⟨⟨by decide +kernel, by decide +kernel⟩, List.mem_of_getElem? (i := 143) (by decide +kernel), List.mem_of_getElem? (i := 797) (by decide +kernel), List.mem_of_getElem? (i := 798) (by decide +kernel)⟩
def lw_privs_2 : List (MethodName × Nat) := [(⟨"MeetingNets$Cover", "cliquesOf", "(I)I"⟩, 7), (⟨"MeetingNets", "didDeed", "()Z"⟩, 13), (⟨"MeetingNets", "draw", "(I)I"⟩, 13), (⟨"MeetingNets", "didGo", "()Z"⟩, 13), (⟨"MeetingNets", "didCome", "()Z"⟩, 13), (⟨"MeetingNets", "didFlip", "()Z"⟩, 13), (⟨"MeetingNets$Proof", "forget", "()V"⟩, 5), (⟨"MeetingNets$Net", "hasClaw", "(I)Z"⟩, 2), (⟨"MeetingNets$Net", "hasThreeUntied", "(I)Z"⟩, 2), (⟨"MeetingNets$Net", "hasOddPair", "(I)Z"⟩, 2), (⟨"MeetingNets$Proof", "weigh", "(II)V"⟩, 5), (⟨"MeetingNets$Proof", "hasCoverlessWithin", "(I)Z"⟩, 5), (⟨"MeetingNets$Proof", "note", "(II)V"⟩, 5), (⟨"MeetingNets", "mendsByFlipping", "(II)Z"⟩, 13), (⟨"MeetingNets", "coversWith", "(I)Z"⟩, 13), (⟨"MeetingNets$Palette", "clear", "()V"⟩, 2)]
theorem lw_r2 : ∀ q ∈ lw_privs_2, lw_okq q := List.forall_mem_cons.mpr ⟨lw_p16, List.forall_mem_cons.mpr ⟨lw_p17, List.forall_mem_cons.mpr ⟨lw_p18, List.forall_mem_cons.mpr ⟨lw_p19, List.forall_mem_cons.mpr ⟨lw_p20, List.forall_mem_cons.mpr ⟨lw_p21, List.forall_mem_cons.mpr ⟨lw_p22, List.forall_mem_cons.mpr ⟨lw_p23, List.forall_mem_cons.mpr ⟨lw_p24, List.forall_mem_cons.mpr ⟨lw_p25, List.forall_mem_cons.mpr ⟨lw_p26, List.forall_mem_cons.mpr ⟨lw_p27, List.forall_mem_cons.mpr ⟨lw_p28, List.forall_mem_cons.mpr ⟨lw_p29, List.forall_mem_cons.mpr ⟨lw_p30, List.forall_mem_cons.mpr ⟨lw_p31, fun _ h => absurd h List.not_mem_nil⟩⟩⟩⟩⟩⟩⟩⟩⟩⟩⟩⟩⟩⟩⟩⟩
theorem lw_p32 : lw_okq (⟨"MeetingNets", "chosen", "(I)I"⟩, 13) := ⟨⟨by decide +kernel, by decide +kernel⟩, List.mem_of_getElem? (i := 19) (by decide +kernel), List.mem_of_getElem? (i := 824) (by decide +kernel), List.mem_of_getElem? (i := 825) (by decide +kernel)⟩
theorem lw_p33 : lw_okq (⟨"java/lang/Throwable", "fillInStackTrace", "(I)Ljava/lang/Throwable;"⟩, 6) := ⟨⟨by decide +kernel, by decide +kernel⟩, List.mem_of_getElem? (i := 884) (by decide +kernel), List.mem_of_getElem? (i := 882) (by decide +kernel), List.mem_of_getElem? (i := 883) (by decide +kernel)⟩
theorem lw_p34 : lw_okq (⟨"MeetingNetsModel", "feedOne", "(I)V"⟩, 39) := ⟨⟨by decide +kernel, by decide +kernel⟩, List.mem_of_getElem? (i := 936) (by decide +kernel), List.mem_of_getElem? (i := 934) (by decide +kernel), List.mem_of_getElem? (i := 935) (by decide +kernel)⟩
theorem lw_p35 : lw_okq (⟨"MeetingNetsModel", "next", "()V"⟩, 39) := ⟨⟨by decide +kernel, by decide +kernel⟩, List.mem_of_getElem? (i := 936) (by decide +kernel), List.mem_of_getElem? (i := 1071) (by decide +kernel), List.mem_of_getElem? (i := 1072) (by decide +kernel)⟩
theorem lw_p36 : lw_okq (⟨"MeetingNetsModel", "tapeAt", "(I)I"⟩, 39) := ⟨⟨by decide +kernel, by decide +kernel⟩, List.mem_of_getElem? (i := 936) (by decide +kernel), List.mem_of_getElem? (i := 1078) (by decide +kernel), List.mem_of_getElem? (i := 1079) (by decide +kernel)⟩
theorem lw_p37 : lw_okq (⟨"MeetingNetsModel", "isPointWord", "()Z"⟩, 39) := ⟨⟨by decide +kernel, by decide +kernel⟩, List.mem_of_getElem? (i := 936) (by decide +kernel), List.mem_of_getElem? (i := 1084) (by decide +kernel), List.mem_of_getElem? (i := 1085) (by decide +kernel)⟩
theorem lw_p38 : lw_okq (⟨"MeetingNetsModel", "readPoint", "()Z"⟩, 39) := ⟨⟨by decide +kernel, by decide +kernel⟩, List.mem_of_getElem? (i := 936) (by decide +kernel), List.mem_of_getElem? (i := 1091) (by decide +kernel), List.mem_of_getElem? (i := 1092) (by decide +kernel)⟩
theorem lw_p39 : lw_okq (⟨"MeetingNetsModel", "bad", "(I)Z"⟩, 39) := ⟨⟨by decide +kernel, by decide +kernel⟩, List.mem_of_getElem? (i := 936) (by decide +kernel), List.mem_of_getElem? (i := 1095) (by decide +kernel), List.mem_of_getElem? (i := 1096) (by decide +kernel)⟩
theorem lw_p40 : lw_okq (⟨"MeetingNetsModel", "isName", "()Z"⟩, 39) := ⟨⟨by decide +kernel, by decide +kernel⟩, List.mem_of_getElem? (i := 936) (by decide +kernel), List.mem_of_getElem? (i := 1099) (by decide +kernel), List.mem_of_getElem? (i := 1100) (by decide +kernel)⟩
theorem lw_p41 : lw_okq (⟨"MeetingNetsModel", "isLineWord", "()Z"⟩, 39) := ⟨⟨by decide +kernel, by decide +kernel⟩, List.mem_of_getElem? (i := 936) (by decide +kernel), List.mem_of_getElem? (i := 1103) (by decide +kernel), List.mem_of_getElem? (i := 1104) (by decide +kernel)⟩
theorem lw_p42 : lw_okq (⟨"MeetingNetsModel", "named", "()I"⟩, 39) := ⟨⟨by decide +kernel, by decide +kernel⟩, List.mem_of_getElem? (i := 936) (by decide +kernel), List.mem_of_getElem? (i := 1107) (by decide +kernel), List.mem_of_getElem? (i := 1108) (by decide +kernel)⟩
theorem lw_p43 : lw_okq (⟨"MeetingNetsModel", "readLine", "()Z"⟩, 39) := ⟨⟨by decide +kernel, by decide +kernel⟩, List.mem_of_getElem? (i := 936) (by decide +kernel), List.mem_of_getElem? (i := 1111) (by decide +kernel), List.mem_of_getElem? (i := 1112) (by decide +kernel)⟩
theorem lw_p44 : lw_okq (⟨"MeetingNetsModel", "readEnd", "()Z"⟩, 39) := ⟨⟨by decide +kernel, by decide +kernel⟩, List.mem_of_getElem? (i := 936) (by decide +kernel), List.mem_of_getElem? (i := 1124) (by decide +kernel), List.mem_of_getElem? (i := 1125) (by decide +kernel)⟩
theorem lw_p45 : lw_okq (⟨"MeetingNetsModel", "laysCovers", "([I)I"⟩, 39) := ⟨⟨by decide +kernel, by decide +kernel⟩, List.mem_of_getElem? (i := 936) (by decide +kernel), List.mem_of_getElem? (i := 1139) (by decide +kernel), List.mem_of_getElem? (i := 1140) (by decide +kernel)⟩
theorem lw_p46 : lw_okq (⟨"MeetingNetsModel", "goesOn", "([II)V"⟩, 39) := ⟨⟨by decide +kernel, by decide +kernel⟩, List.mem_of_getElem? (i := 936) (by decide +kernel), List.mem_of_getElem? (i := 1143) (by decide +kernel), List.mem_of_getElem? (i := 1144) (by decide +kernel)⟩
theorem lw_p47 : lw_okq (⟨"MeetingNetsModel", "ends", "([I)V"⟩, 39) := ⟨⟨by decide +kernel, by decide +kernel⟩, List.mem_of_getElem? (i := 936) (by decide +kernel), List.mem_of_getElem? (i := 1147) (by decide +kernel), List.mem_of_getElem? (i := 1148) (by decide +kernel)⟩
def lw_privs_3 : List (MethodName × Nat) := [(⟨"MeetingNets", "chosen", "(I)I"⟩, 13), (⟨"java/lang/Throwable", "fillInStackTrace", "(I)Ljava/lang/Throwable;"⟩, 6), (⟨"MeetingNetsModel", "feedOne", "(I)V"⟩, 39), (⟨"MeetingNetsModel", "next", "()V"⟩, 39), (⟨"MeetingNetsModel", "tapeAt", "(I)I"⟩, 39), (⟨"MeetingNetsModel", "isPointWord", "()Z"⟩, 39), (⟨"MeetingNetsModel", "readPoint", "()Z"⟩, 39), (⟨"MeetingNetsModel", "bad", "(I)Z"⟩, 39), (⟨"MeetingNetsModel", "isName", "()Z"⟩, 39), (⟨"MeetingNetsModel", "isLineWord", "()Z"⟩, 39), (⟨"MeetingNetsModel", "named", "()I"⟩, 39), (⟨"MeetingNetsModel", "readLine", "()Z"⟩, 39), (⟨"MeetingNetsModel", "readEnd", "()Z"⟩, 39), (⟨"MeetingNetsModel", "laysCovers", "([I)I"⟩, 39), (⟨"MeetingNetsModel", "goesOn", "([II)V"⟩, 39), (⟨"MeetingNetsModel", "ends", "([I)V"⟩, 39)]
theorem lw_r3 : ∀ q ∈ lw_privs_3, lw_okq q := List.forall_mem_cons.mpr ⟨lw_p32, List.forall_mem_cons.mpr ⟨lw_p33, List.forall_mem_cons.mpr ⟨lw_p34, List.forall_mem_cons.mpr ⟨lw_p35, List.forall_mem_cons.mpr ⟨lw_p36, List.forall_mem_cons.mpr ⟨lw_p37, List.forall_mem_cons.mpr ⟨lw_p38, List.forall_mem_cons.mpr ⟨lw_p39, List.forall_mem_cons.mpr ⟨lw_p40, List.forall_mem_cons.mpr ⟨lw_p41, List.forall_mem_cons.mpr ⟨lw_p42, List.forall_mem_cons.mpr ⟨lw_p43, List.forall_mem_cons.mpr ⟨lw_p44, List.forall_mem_cons.mpr ⟨lw_p45, List.forall_mem_cons.mpr ⟨lw_p46, List.forall_mem_cons.mpr ⟨lw_p47, fun _ h => absurd h List.not_mem_nil⟩⟩⟩⟩⟩⟩⟩⟩⟩⟩⟩⟩⟩⟩⟩⟩
theorem lw_p48 : lw_okq (⟨"MeetingNetsModel", "endBoth", "(II)I"⟩, 39) := ⟨⟨by decide +kernel, by decide +kernel⟩, List.mem_of_getElem? (i := 936) (by decide +kernel), List.mem_of_getElem? (i := 1151) (by decide +kernel), List.mem_of_getElem? (i := 1152) (by decide +kernel)⟩
theorem lw_p49 : lw_okq (⟨"MeetingNetsModel", "isLess", "()Z"⟩, 39) := ⟨⟨by decide +kernel, by decide +kernel⟩, List.mem_of_getElem? (i := 936) (by decide +kernel), List.mem_of_getElem? (i := 1155) (by decide +kernel), List.mem_of_getElem? (i := 1156) (by decide +kernel)⟩
theorem lw_p50 : lw_okq (⟨"MeetingNetsModel", "fits", "([IIII)Z"⟩, 39) := ⟨⟨by decide +kernel, by decide +kernel⟩, List.mem_of_getElem? (i := 936) (by decide +kernel), List.mem_of_getElem? (i := 1159) (by decide +kernel), List.mem_of_getElem? (i := 1160) (by decide +kernel)⟩
theorem lw_p51 : lw_okq (⟨"MeetingNetsModel", "gives", "([IIII)V"⟩, 39) := ⟨⟨by decide +kernel, by decide +kernel⟩, List.mem_of_getElem? (i := 936) (by decide +kernel), List.mem_of_getElem? (i := 1163) (by decide +kernel), List.mem_of_getElem? (i := 1164) (by decide +kernel)⟩
theorem lw_p52 : lw_okq (⟨"MeetingNetsModel", "isFree", "(I)Z"⟩, 39) := ⟨⟨by decide +kernel, by decide +kernel⟩, List.mem_of_getElem? (i := 936) (by decide +kernel), List.mem_of_getElem? (i := 1167) (by decide +kernel), List.mem_of_getElem? (i := 1168) (by decide +kernel)⟩
theorem lw_p53 : lw_okq (⟨"MeetingNetsModel", "laysRoot", "([I)Z"⟩, 39) := ⟨⟨by decide +kernel, by decide +kernel⟩, List.mem_of_getElem? (i := 936) (by decide +kernel), List.mem_of_getElem? (i := 1186) (by decide +kernel), List.mem_of_getElem? (i := 1187) (by decide +kernel)⟩
theorem lw_p54 : lw_okq (⟨"MeetingNetsModel", "joins", "(II)V"⟩, 39) := ⟨⟨by decide +kernel, by decide +kernel⟩, List.mem_of_getElem? (i := 936) (by decide +kernel), List.mem_of_getElem? (i := 1190) (by decide +kernel), List.mem_of_getElem? (i := 1191) (by decide +kernel)⟩
theorem lw_p55 : lw_okq (⟨"MeetingNetsModel", "linesAt", "(I)I"⟩, 39) := ⟨⟨by decide +kernel, by decide +kernel⟩, List.mem_of_getElem? (i := 936) (by decide +kernel), List.mem_of_getElem? (i := 1203) (by decide +kernel), List.mem_of_getElem? (i := 1204) (by decide +kernel)⟩
theorem lw_p56 : lw_okq (⟨"MeetingNetsModel", "refuse", "()I"⟩, 39) := ⟨⟨by decide +kernel, by decide +kernel⟩, List.mem_of_getElem? (i := 936) (by decide +kernel), List.mem_of_getElem? (i := 1211) (by decide +kernel), List.mem_of_getElem? (i := 1212) (by decide +kernel)⟩
theorem lw_p57 : lw_okq (⟨"MeetingNetsModel", "laysPieces", "()V"⟩, 39) := ⟨⟨by decide +kernel, by decide +kernel⟩, List.mem_of_getElem? (i := 936) (by decide +kernel), List.mem_of_getElem? (i := 1219) (by decide +kernel), List.mem_of_getElem? (i := 1220) (by decide +kernel)⟩
theorem lw_p58 : lw_okq (⟨"MeetingNetsModel", "areThree", "(III)Z"⟩, 39) := ⟨⟨by decide +kernel, by decide +kernel⟩, List.mem_of_getElem? (i := 936) (by decide +kernel), List.mem_of_getElem? (i := 1253) (by decide +kernel), List.mem_of_getElem? (i := 1254) (by decide +kernel)⟩
theorem lw_p59 : lw_okq (⟨"MeetingNetsModel", "isPoint", "(I)Z"⟩, 39) := ⟨⟨by decide +kernel, by decide +kernel⟩, List.mem_of_getElem? (i := 936) (by decide +kernel), List.mem_of_getElem? (i := 1257) (by decide +kernel), List.mem_of_getElem? (i := 1258) (by decide +kernel)⟩
theorem lw_p60 : lw_okq (⟨"MeetingNetsModel", "isClawSet", "(I)Z"⟩, 39) := ⟨⟨by decide +kernel, by decide +kernel⟩, List.mem_of_getElem? (i := 936) (by decide +kernel), List.mem_of_getElem? (i := 1268) (by decide +kernel), List.mem_of_getElem? (i := 1269) (by decide +kernel)⟩
theorem lw_p61 : lw_okq (⟨"MeetingNetsModel", "mostLines", "()I"⟩, 39) := ⟨⟨by decide +kernel, by decide +kernel⟩, List.mem_of_getElem? (i := 936) (by decide +kernel), List.mem_of_getElem? (i := 1282) (by decide +kernel), List.mem_of_getElem? (i := 1283) (by decide +kernel)⟩
theorem lw_p62 : lw_okq (⟨"MeetingNetsModel", "triangles", "(Z)I"⟩, 39) := ⟨⟨by decide +kernel, by decide +kernel⟩, List.mem_of_getElem? (i := 936) (by decide +kernel), List.mem_of_getElem? (i := 1286) (by decide +kernel), List.mem_of_getElem? (i := 1287) (by decide +kernel)⟩
theorem lw_p63 : lw_okq (⟨"MeetingNetsModel", "claws", "()I"⟩, 39) := ⟨⟨by decide +kernel, by decide +kernel⟩, List.mem_of_getElem? (i := 936) (by decide +kernel), List.mem_of_getElem? (i := 1290) (by decide +kernel), List.mem_of_getElem? (i := 1291) (by decide +kernel)⟩
def lw_privs_4 : List (MethodName × Nat) := [(⟨"MeetingNetsModel", "endBoth", "(II)I"⟩, 39), (⟨"MeetingNetsModel", "isLess", "()Z"⟩, 39), (⟨"MeetingNetsModel", "fits", "([IIII)Z"⟩, 39), (⟨"MeetingNetsModel", "gives", "([IIII)V"⟩, 39), (⟨"MeetingNetsModel", "isFree", "(I)Z"⟩, 39), (⟨"MeetingNetsModel", "laysRoot", "([I)Z"⟩, 39), (⟨"MeetingNetsModel", "joins", "(II)V"⟩, 39), (⟨"MeetingNetsModel", "linesAt", "(I)I"⟩, 39), (⟨"MeetingNetsModel", "refuse", "()I"⟩, 39), (⟨"MeetingNetsModel", "laysPieces", "()V"⟩, 39), (⟨"MeetingNetsModel", "areThree", "(III)Z"⟩, 39), (⟨"MeetingNetsModel", "isPoint", "(I)Z"⟩, 39), (⟨"MeetingNetsModel", "isClawSet", "(I)Z"⟩, 39), (⟨"MeetingNetsModel", "mostLines", "()I"⟩, 39), (⟨"MeetingNetsModel", "triangles", "(Z)I"⟩, 39), (⟨"MeetingNetsModel", "claws", "()I"⟩, 39)]
theorem lw_r4 : ∀ q ∈ lw_privs_4, lw_okq q := List.forall_mem_cons.mpr ⟨lw_p48, List.forall_mem_cons.mpr ⟨lw_p49, List.forall_mem_cons.mpr ⟨lw_p50, List.forall_mem_cons.mpr ⟨lw_p51, List.forall_mem_cons.mpr ⟨lw_p52, List.forall_mem_cons.mpr ⟨lw_p53, List.forall_mem_cons.mpr ⟨lw_p54, List.forall_mem_cons.mpr ⟨lw_p55, List.forall_mem_cons.mpr ⟨lw_p56, List.forall_mem_cons.mpr ⟨lw_p57, List.forall_mem_cons.mpr ⟨lw_p58, List.forall_mem_cons.mpr ⟨lw_p59, List.forall_mem_cons.mpr ⟨lw_p60, List.forall_mem_cons.mpr ⟨lw_p61, List.forall_mem_cons.mpr ⟨lw_p62, List.forall_mem_cons.mpr ⟨lw_p63, fun _ h => absurd h List.not_mem_nil⟩⟩⟩⟩⟩⟩⟩⟩⟩⟩⟩⟩⟩⟩⟩⟩
theorem lw_p64 : lw_okq (⟨"MeetingNetsModel", "laysLines", "([I)I"⟩, 39) := ⟨⟨by decide +kernel, by decide +kernel⟩, List.mem_of_getElem? (i := 936) (by decide +kernel), List.mem_of_getElem? (i := 1302) (by decide +kernel), List.mem_of_getElem? (i := 1303) (by decide +kernel)⟩
theorem lw_p65 : lw_okq (⟨"MeetingNetsModel", "turnsIf", "(IIZ)I"⟩, 39) := ⟨⟨by decide +kernel, by decide +kernel⟩, List.mem_of_getElem? (i := 936) (by decide +kernel), List.mem_of_getElem? (i := 1310) (by decide +kernel), List.mem_of_getElem? (i := 1311) (by decide +kernel)⟩
theorem lw_p66 : lw_okq (⟨"MeetingNetsModel", "snap", "()V"⟩, 39) := ⟨⟨by decide +kernel, by decide +kernel⟩, List.mem_of_getElem? (i := 936) (by decide +kernel), List.mem_of_getElem? (i := 1314) (by decide +kernel), List.mem_of_getElem? (i := 1315) (by decide +kernel)⟩
theorem lw_p67 : lw_okq (⟨"MeetingNetsModel", "goesBack", "([I)Z"⟩, 39) := ⟨⟨by decide +kernel, by decide +kernel⟩, List.mem_of_getElem? (i := 936) (by decide +kernel), List.mem_of_getElem? (i := 1350) (by decide +kernel), List.mem_of_getElem? (i := 1351) (by decide +kernel)⟩
theorem lw_p68 : lw_okq (⟨"MeetingNetsModel", "isMay", "(I)Z"⟩, 39) := ⟨⟨by decide +kernel, by decide +kernel⟩, List.mem_of_getElem? (i := 936) (by decide +kernel), List.mem_of_getElem? (i := 1366) (by decide +kernel), List.mem_of_getElem? (i := 1367) (by decide +kernel)⟩
theorem lw_p69 : lw_okq (⟨"MeetingNetsModel", "laysColours", "()I"⟩, 39) := ⟨⟨by decide +kernel, by decide +kernel⟩, List.mem_of_getElem? (i := 936) (by decide +kernel), List.mem_of_getElem? (i := 1378) (by decide +kernel), List.mem_of_getElem? (i := 1379) (by decide +kernel)⟩
theorem lw_p70 : lw_okq (⟨"MeetingNetsModel", "colours", "(II)Z"⟩, 39) := ⟨⟨by decide +kernel, by decide +kernel⟩, List.mem_of_getElem? (i := 936) (by decide +kernel), List.mem_of_getElem? (i := 1382) (by decide +kernel), List.mem_of_getElem? (i := 1383) (by decide +kernel)⟩
theorem lw_p71 : lw_okq (⟨"MeetingNetsModel", "mayBe", "(II)Z"⟩, 39) := ⟨⟨by decide +kernel, by decide +kernel⟩, List.mem_of_getElem? (i := 936) (by decide +kernel), List.mem_of_getElem? (i := 1386) (by decide +kernel), List.mem_of_getElem? (i := 1387) (by decide +kernel)⟩
theorem lw_p72 : lw_okq (⟨"MeetingNetsModel", "most", "(ZI)I"⟩, 39) := ⟨⟨by decide +kernel, by decide +kernel⟩, List.mem_of_getElem? (i := 936) (by decide +kernel), List.mem_of_getElem? (i := 1398) (by decide +kernel), List.mem_of_getElem? (i := 1399) (by decide +kernel)⟩
theorem lw_p73 : lw_okq (⟨"MeetingNetsModel", "isAlike", "(IZ)Z"⟩, 39) := ⟨⟨by decide +kernel, by decide +kernel⟩, List.mem_of_getElem? (i := 936) (by decide +kernel), List.mem_of_getElem? (i := 1402) (by decide +kernel), List.mem_of_getElem? (i := 1403) (by decide +kernel)⟩
theorem lw_p74 : lw_okq (⟨"MeetingNetsModel", "drawsOne", "()Z"⟩, 39) := ⟨⟨by decide +kernel, by decide +kernel⟩, List.mem_of_getElem? (i := 936) (by decide +kernel), List.mem_of_getElem? (i := 1414) (by decide +kernel), List.mem_of_getElem? (i := 1415) (by decide +kernel)⟩
theorem lw_p75 : lw_okq (⟨"MeetingNetsModel", "draw", "(I)I"⟩, 39) := ⟨⟨by decide +kernel, by decide +kernel⟩, List.mem_of_getElem? (i := 936) (by decide +kernel), List.mem_of_getElem? (i := 1418) (by decide +kernel), List.mem_of_getElem? (i := 1419) (by decide +kernel)⟩
theorem lw_p76 : lw_okq (⟨"MeetingNetsModel", "stay", "()V"⟩, 39) := ⟨⟨by decide +kernel, by decide +kernel⟩, List.mem_of_getElem? (i := 936) (by decide +kernel), List.mem_of_getElem? (i := 1423) (by decide +kernel), List.mem_of_getElem? (i := 1424) (by decide +kernel)⟩
def lw_privs_5 : List (MethodName × Nat) := [(⟨"MeetingNetsModel", "laysLines", "([I)I"⟩, 39), (⟨"MeetingNetsModel", "turnsIf", "(IIZ)I"⟩, 39), (⟨"MeetingNetsModel", "snap", "()V"⟩, 39), (⟨"MeetingNetsModel", "goesBack", "([I)Z"⟩, 39), (⟨"MeetingNetsModel", "isMay", "(I)Z"⟩, 39), (⟨"MeetingNetsModel", "laysColours", "()I"⟩, 39), (⟨"MeetingNetsModel", "colours", "(II)Z"⟩, 39), (⟨"MeetingNetsModel", "mayBe", "(II)Z"⟩, 39), (⟨"MeetingNetsModel", "most", "(ZI)I"⟩, 39), (⟨"MeetingNetsModel", "isAlike", "(IZ)Z"⟩, 39), (⟨"MeetingNetsModel", "drawsOne", "()Z"⟩, 39), (⟨"MeetingNetsModel", "draw", "(I)I"⟩, 39), (⟨"MeetingNetsModel", "stay", "()V"⟩, 39)]
theorem lw_r5 : ∀ q ∈ lw_privs_5, lw_okq q := List.forall_mem_cons.mpr ⟨lw_p64, List.forall_mem_cons.mpr ⟨lw_p65, List.forall_mem_cons.mpr ⟨lw_p66, List.forall_mem_cons.mpr ⟨lw_p67, List.forall_mem_cons.mpr ⟨lw_p68, List.forall_mem_cons.mpr ⟨lw_p69, List.forall_mem_cons.mpr ⟨lw_p70, List.forall_mem_cons.mpr ⟨lw_p71, List.forall_mem_cons.mpr ⟨lw_p72, List.forall_mem_cons.mpr ⟨lw_p73, List.forall_mem_cons.mpr ⟨lw_p74, List.forall_mem_cons.mpr ⟨lw_p75, List.forall_mem_cons.mpr ⟨lw_p76, fun _ h => absurd h List.not_mem_nil⟩⟩⟩⟩⟩⟩⟩⟩⟩⟩⟩⟩⟩
def lw_privs : List (MethodName × Nat) := lw_privs_1 ++ (lw_privs_2 ++ (lw_privs_3 ++ (lw_privs_4 ++ (lw_privs_5))))
def lw_tbl : List Cond := k2_sels lw_privs ++ tables_1
theorem lw_privs_ok : ∀ q ∈ lw_privs, lw_okq q := by
  show ∀ q ∈ lw_privs_1 ++ (lw_privs_2 ++ (lw_privs_3 ++ (lw_privs_4 ++ (lw_privs_5)))), lw_okq q
  exact List.forall_mem_append.mpr ⟨lw_r1, List.forall_mem_append.mpr ⟨lw_r2, List.forall_mem_append.mpr ⟨lw_r3, List.forall_mem_append.mpr ⟨lw_r4, lw_r5⟩⟩⟩⟩
-- ===== end of PART A; then your names; then what follows =====
/-! ===== BEGIN words of one list among another's, by their places ===== -/
theorem goodIn_r {big : List Cond} (ws : List Cond) (ps : List Nat) (hp : ws = ps.filterMap (fun i => big[i]?)) (h : ws.all goodWord = true) : GoodIn big ws := by
  intro w hw
  have h1 := List.all_eq_true.mp h w hw
  rw [hp] at hw
  obtain ⟨i, -, hi⟩ := List.mem_filterMap.mp hw
  have hm : w ∈ big := by first | exact List.mem_of_getElem? hi | exact List.getElem?_mem hi
  exact ⟨hm, good_of_word h1⟩
theorem goodIn_app {big a b : List Cond} (ha : GoodIn big a) (hb : GoodIn big b) : GoodIn big (a ++ b) := fun w h => (List.mem_append.mp h).elim (ha w) (hb w)
theorem goodIn_ca {big a b : List Cond} {c : Cond} (ha : GoodIn big (c :: a)) (hb : GoodIn big b) : GoodIn big (c :: (a ++ b)) := fun w h => (List.mem_cons.mp h).elim (fun e => ha w (List.mem_cons.mpr (Or.inl e))) (fun h => (List.mem_append.mp h).elim (fun h => ha w (List.mem_cons.mpr (Or.inr h))) (hb w))
theorem goodIn_sub {big ws : List Cond} (hm : ∀ w ∈ ws, w ∈ big) (h : ws.all goodWord = true) : GoodIn big ws := fun w hw => ⟨hm w hw, good_of_word (List.all_eq_true.mp h w hw)⟩
/-! ===== END ===== -/

/-! ===== BEGIN exceptions that leave a method, and their catching by the caller (launches without stack traces) ===== -/
section VXA
/-! The laws vx_back, vx_callV, vx_callS, vx_callSW, vx_throw0, vx_throwS follow proofs of the library, with one case more: JvmDerived/Free/Laws.lean (Back.of_free), Shelf42/LK1.lean (callV, callS), Shelf/KitTraced.lean (throwNew0V, throwNewS). -/
/-- where a method has thrown q: the class by its name, the cell, what was written, the world -/
def vx_T (XC : String → State → State → Prop) (st : State) (q : Addr) (t : State) (mc ms : Nat) (free : Addr → Prop) : Prop :=
  ∃ (E : String) (ce : Cell) (L : List Loc), XC E st t ∧ t.heap[q]? = some ce ∧ ce.vm = .none ∧ st.vm.findClass E = some ce.cls ∧ st.WarmedH t.vm ∧ st.sameButNew ({ t with vm := st.vm } : State) L mc ms ∧ ∀ z ∈ L, free z.base
def vx_Q (Qc : Array Value → State → Outcome → State → Prop) (XC : String → State → State → Prop) (mc ms : Nat) (free : Addr → Prop) : Array Value → State → Outcome → State → Prop := fun a st o t =>
  (Qc a st o t ∧ ∃ L, FrameEnd st o t L mc ms ∧ ∀ q ∈ L, free q.base) ∨ ∃ q, o = .threw q ∧ vx_T XC st q t mc ms free
/-- a callee that returns or throws -/
def vx_Met (l : Launch) (y : MethodName) (ws : List Cond) (rm : Room) (Pc : Array Value → State → Prop) (Qc : Array Value → State → Outcome → State → Prop) (XC : String → State → State → Prop) (mc ms : Nat) (free : Addr → Prop) : Prop :=
  MetFree l y (headSpec ws rm) Pc (fun _ _ _ _ _ => True) (vx_Q Qc XC mc ms free)
def vx_Post (XC : String → State → State → Prop) (mc ms : Nat) (free : Addr → Prop) : Pt → Array Value → Addr → Pt → Prop := fun A a q B =>
  ∃ (g : JFrame) (mk : MethodId) (t : State) (L : List Loc) (E : String) (ce : Cell), B.U.heap = t.heap ∧ B.U.vm = t.vm ∧ XC E (A.U.calling g mk a) t ∧ t.heap[q]? = some ce ∧ ce.vm = .none ∧ A.U.vm.findClass E = some ce.cls ∧ B.locs = A.locs ++ L ∧ (∀ z ∈ L, free z.base) ∧ B.cells = A.cells + mc ∧ B.slots = A.slots + ms
def vx_Back (l : Launch) (R : Room) (p : Program) (e : Env) (below : List Frame) (s : State) (sargs : Array Value) (y : MethodName) (len W9 : Nat)
    (Pre : Pt → Array Value → Prop) (Post : Pt → Array Value → Option Value → Pt → Prop) (PostX : Pt → Array Value → Addr → Pt → Prop) : Prop :=
  ∀ (m : MethodId) (meth : Method) (c : Code) (A : Pt) (g : JFrame) (ig : Instr) (mk : MethodId) (a : Array Value),
    Stand p l e R s m sargs below meth c A.U A.locs A.cells A.slots → g.method = m → g.locals.size = c.maxLocals → decode c.code g.pc = .ok (ig, len) →
    2 * g.monitorRoom + (g.stack.map fun v => v.category).sum ≤ W9 → A.U.methodNamed? y = some mk → Pre A a →
    (∃ (v : Option Value) (B : Pt), Stand p l e R s m sargs below meth c B.U B.locs B.cells B.slots ∧ Post A a v B ∧
      Steps p.tables e below (doInvoke e (A.U.setTop g) [] mk a).1 (B.U.setTop { g with pc := g.pc + len, stack := v.toList ++ g.stack })) ∨
    (∃ (q : Addr) (B : Pt), Stand p l e R s m sargs below meth c B.U B.locs B.cells B.slots ∧ PostX A a q B ∧
      Steps p.tables e below (doInvoke e (A.U.setTop g) [] mk a).1 ((B.U.setTop g).pushFrame (.throwing q)))
section Payer
variable {l : Launch} {R : Room} {p : Program} {e : Env} {below : List Frame} {s : State} {sargs : Array Value} {y : MethodName} {len W9 : Nat}
theorem vx_back {ws : List Cond} {rm : Room} {Pc : Array Value → State → Prop} {Qc : Array Value → State → Outcome → State → Prop} {XC : String → State → State → Prop} {mc ms : Nat} {free : Addr → Prop} {bytes : ByteArray} {maxL : Nat} {ret : Option FieldType}
    (hM : vx_Met l y ws rm Pc Qc XC mc ms free) (hblind : FrameBlind Pc) (hrc : rm.cells = mc) (hrs : rm.slots = ms)
    (hframes : rm.frames + 1 ≤ R.frames) (hlocals : W9 + (maxL + 11) + rm.locals ≤ R.locals)
    (hws : ∀ w ∈ ws, ∀ a' U, s.WarmedH U.vm → w.before a' U = true) (hcode : Cond.code y bytes maxL ret ∈ ws) (hinit : ∀ a' U, s.WarmedH U.vm → (Cond.initialized y.cls).before a' U = true) :
    vx_Back l R p e below s sargs y len W9 (PreOf R mc ms Pc) (PostOf Qc mc ms free) (vx_Post XC mc ms free) := by
  intro m meth c A g ig mk a X hg hsize hdg hW hn hp
  have h1 : (headSpec ws rm).pre.before a A.U = true := atoms_intro fun w hw => hws w hw _ _ X.warmed
  have h2 : (Cond.code y bytes maxL ret).before a A.U = true := hws _ hcode _ _ X.warmed
  have h3 : (Cond.initialized y.cls).before a A.U = true := hinit _ _ X.warmed
  have h4 : A.cells + (headSpec ws rm).room.cells ≤ R.cells := by rw [show (headSpec ws rm).room.cells = mc from hrc]; exact hp.1
  have h5 : A.slots + (headSpec ws rm).room.slots ≤ R.slots := by rw [show (headSpec ws rm).room.slots = ms from hrs]; exact hp.2.1
  have hPc : Pc a (A.U.calling g mk a) := hblind _ _ _ _ hp.2.2
  obtain ⟨U, Ls, c0, s0⟩ := A
  dsimp only [Pt.U, Pt.locs, Pt.cells, Pt.slots] at h1 h2 h3 h4 h5 X hn hPc ⊢
  obtain ⟨methY, cY, hmY, hcY, -, hlY, -, -, -, -⟩ := Cond.code_spec hn h2
  obtain ⟨kY, hkY, -⟩ := className_of_methodNamed hn
  have hinitY : kY.init = .initialized := Cond.initialized_spec (findClass_of_methodNamed hn) hkY h3
  have h : At U g.method c below := by rw [hg]; exact X.here
  have hlocals9 : W9 + (maxL + 11) + (headSpec ws rm).room.locals ≤ R.locals := hlocals
  have happ : (headSpec ws rm).appliesLoose y e.platform (U.calling g mk a) = true :=
    Spec.appliesLoose_calling (g := g) h hdg hn hkY hinitY
      (X.room_calling (g := g) (R' := (headSpec ws rm).room) hsize hmY hcY hframes (by rw [hlY]; omega) h4 h5) h1
  obtain ⟨mid, hmid⟩ := h.above
  have hfr : (U.setTop g).frames = (.java g :: mid) ++ below := by rw [State.frames_setTop' g h.top, hmid]; rfl
  obtain ⟨o, s₂, hsteps, -, hend, hq⟩ := Steps.callFree hM p X.admits X.cas X.clock (acts := []) hfr happ hPc trivial
  have hq' : vx_Q Qc XC mc ms free a (U.calling g mk a) o s₂ := hq
  rw [State.frames_setTop' g h.top] at hend
  obtain ⟨g₀, hg0⟩ := Option.isSome_iff_exists.mp h.top
  obtain ⟨r, hr⟩ := State.topJava?_eq_some.mp hg0
  have hr' : (({ U with heap := s₂.heap, slotsUsed := s₂.slotsUsed } : State).setVm s₂.vm).frames = .java g₀ :: r := hr
  rcases hq' with ⟨hqc, L, hfe, hL⟩ | ⟨q, rfl, E, ce, L, hx, hce, hcv, hcl, hW₂, hsm, hL⟩
  · obtain ⟨⟨v, rfl⟩, hW₂, e2, q2, q3, q4, q5, q6⟩ := id hfe
    have e3 : s₂ = ({ (U.calling g mk a).setFrames s₂.frames with heap := s₂.heap, slotsUsed := s₂.slotsUsed } : State).setVm s₂.vm := by
      have : s₂ = ({ s₂ with vm := (U.calling g mk a).vm } : State).setVm s₂.vm := rfl
      rw [e2] at this
      exact this
    obtain ⟨c₂, i₂, len₂, hc₂, hd₂, hf₂⟩ := hend
    have hW' : U.WarmedH s₂.vm := hW₂
    have hcc : c₂ = c := by
      have h1 : s₂.code? g.method = U.code? g.method := by
        rw [State.code?_eq, State.code?_eq, hW'.alike.method?]
      exact Option.some.inj (hc₂.symm.trans (h1.trans h.code))
    subst hcc
    have hlen : len₂ = len := by rw [hdg] at hd₂; cases hd₂; rfl
    subst hlen
    have hs₂ : s₂ = (({ U with heap := s₂.heap, slotsUsed := s₂.slotsUsed } : State).setVm s₂.vm).setTop { g with pc := g.pc + len₂, stack := v.toList ++ g.stack } := by
      refine e3.trans ?_
      rw [hf₂, State.calling_eq h.top, State.setFrames_setFrames, State.setTop_of_frames _ hr', hr]
      rfl
    have hsame : U.sameButNew ({ U with heap := s₂.heap, slotsUsed := s₂.slotsUsed } : State) L mc ms := by
      refine ⟨?_, q2, q3, q4, q5, q6⟩
      obtain ⟨t, ht, -⟩ := State.frames_cons hr
      show ({ U with heap := s₂.heap, slotsUsed := s₂.slotsUsed } : State) = { U.setFrames U.frames with heap := s₂.heap, slotsUsed := s₂.slotsUsed }
      rw [State.setFrames_self ht]
    subst hg
    refine Or.inl ⟨v, ⟨(({ U with heap := s₂.heap, slotsUsed := s₂.slotsUsed } : State).setVm s₂.vm), Ls ++ L, c0 + mc, s0 + ms⟩,
      ⟨X.admits, X.cas, X.clock, X.frames, X.room, X.hears, X.method, X.code, (X.here.setHeapUsed s₂.heap s₂.slotsUsed).setVm hW'.alike, X.tail, State.WarmedH.trans X.warmed hW', X.limits, X.bytes, X.same.trans (hsame.setVm s.vm)⟩,
      ⟨g, mk, s₂, L, rfl, rfl, hqc, rfl, hL, rfl, rfl⟩, ?_⟩
    show Steps p.tables e below _ ((({ U with heap := s₂.heap, slotsUsed := s₂.slotsUsed } : State).setVm s₂.vm).setTop { g with pc := g.pc + len₂, stack := v.toList ++ g.stack })
    rw [← hs₂]
    exact hsteps
  · obtain ⟨e2, q2, q3, q4, q5, q6⟩ := id hsm
    have e3 : s₂ = ({ (U.calling g mk a).setFrames s₂.frames with heap := s₂.heap, slotsUsed := s₂.slotsUsed } : State).setVm s₂.vm := by
      have : s₂ = ({ s₂ with vm := (U.calling g mk a).vm } : State).setVm s₂.vm := rfl
      rw [e2] at this
      exact this
    have hf₂ : s₂.frames = .throwing q :: .java g :: U.frames.tail := hend
    have hW' : U.WarmedH s₂.vm := hW₂
    have hs₂ : s₂ = ((({ U with heap := s₂.heap, slotsUsed := s₂.slotsUsed } : State).setVm s₂.vm).setTop g).pushFrame (.throwing q) := by
      refine e3.trans ?_
      rw [hf₂, State.calling_eq h.top, State.setFrames_setFrames, State.pushFrame, State.frames_setTop _ hr', State.setTop_of_frames _ hr', State.setFrames_setFrames, hr]
      rfl
    have hsame : U.sameButNew ({ U with heap := s₂.heap, slotsUsed := s₂.slotsUsed } : State) L mc ms := by
      refine ⟨?_, q2, q3, q4, q5, q6⟩
      obtain ⟨t, ht, -⟩ := State.frames_cons hr
      show ({ U with heap := s₂.heap, slotsUsed := s₂.slotsUsed } : State) = { U.setFrames U.frames with heap := s₂.heap, slotsUsed := s₂.slotsUsed }
      rw [State.setFrames_self ht]
    subst hg
    refine Or.inr ⟨q, ⟨(({ U with heap := s₂.heap, slotsUsed := s₂.slotsUsed } : State).setVm s₂.vm), Ls ++ L, c0 + mc, s0 + ms⟩,
      ⟨X.admits, X.cas, X.clock, X.frames, X.room, X.hears, X.method, X.code, (X.here.setHeapUsed s₂.heap s₂.slotsUsed).setVm hW'.alike, X.tail, State.WarmedH.trans X.warmed hW', X.limits, X.bytes, X.same.trans (hsame.setVm s.vm)⟩,
      ⟨g, mk, s₂, L, E, ce, rfl, rfl, hx, hce, hcv, hcl, rfl, hL, rfl, rfl⟩, ?_⟩
    show Steps p.tables e below _ (((({ U with heap := s₂.heap, slotsUsed := s₂.slotsUsed } : State).setVm s₂.vm).setTop g).pushFrame (.throwing q))
    rw [← hs₂]
    exact hsteps
end Payer
section Calls
variable {p : Program} {l : Launch} {e : Env} {R : Room} {s : State} {m : MethodId} {args : Array Value} {below : List Frame} {meth : Method} {c : Code} {T : State} {locs : List Loc} {cells slots : Nat}
theorem vx_callV (X : Stand p l e R s m args below meth c T locs cells slots) (hexec : p.tables.exec = Jvm.exec) {own C : String} {index : Nat} {y : MethodName} {bytes : ByteArray} {maxL : Nat} {ret : Option FieldType}
    (hown : s.vm.findClass own = some m.cls) (hlink : (Cond.methodLink own index y).before args s = true) (hinst : (Cond.instanceMethod y).before args s = true) (hsel : (Cond.selects C y y).before args s = true)
    (hcode : (Cond.code y bytes maxL ret).before args s = true) (hy : y.cls ≠ "java/lang/invoke/MethodHandle" ∧ y.cls ≠ "java/lang/invoke/VarHandle")
    {W9 : Nat} {Pre : Pt → Array Value → Prop} {Post : Pt → Array Value → Option Value → Pt → Prop} {PostX : Pt → Array Value → Addr → Pt → Prop} (hK : vx_Back l R p e below s args y 3 W9 Pre Post PostX)
    {b : Addr} {cellB : Cell} (hcell : T.heap[b]? = some cellB) (hobj : cellB.vm.isStatics = false) (hcls : s.vm.findClass C = some cellB.cls)
    {g : JFrame} (hg : g.method = m) (hsize : g.locals.size = c.maxLocals) {argsL rest : List Value} (hlen : ∀ sig, parseMethodDescriptor y.desc = some sig → argsL.length = sig.parameters.length)
    (hstack : g.stack = argsL.reverse ++ .ref b :: rest) (hW : 2 * g.monitorRoom + (rest.map fun v => v.category).sum ≤ W9) (hdg : decode c.code g.pc = .ok (.invokevirtual index, 3))
    (hpre : ∀ vm₁, s.WarmedH vm₁ → Pre ⟨T.setVm vm₁, locs, cells, slots⟩ (Value.ref b :: argsL).toArray) :
    (∃ (v : Option Value) (vm₁ : Vm) (B : Pt), s.WarmedH vm₁ ∧ Stand p l e R s m args below meth c B.U B.locs B.cells B.slots ∧ Post ⟨T.setVm vm₁, locs, cells, slots⟩ (Value.ref b :: argsL).toArray v B ∧
      ∀ target, Steps p.tables e below (B.U.setTop { g with pc := g.pc + 3, stack := v.toList ++ rest }) target → Steps p.tables e below (T.setTop g) target) ∨
    (∃ (q : Addr) (vm₁ : Vm) (B : Pt), s.WarmedH vm₁ ∧ Stand p l e R s m args below meth c B.U B.locs B.cells B.slots ∧ PostX ⟨T.setVm vm₁, locs, cells, slots⟩ (Value.ref b :: argsL).toArray q B ∧
      Steps p.tables e below (T.setTop g) ((B.U.setTop { g with stack := rest }).pushFrame (.throwing q))) := by
  obtain ⟨mk, methM, hnamed, hmethM, hstM, habM⟩ := Cond.instanceMethod_spec hinst
  obtain ⟨methM', cM, hmethM', -, -, -, -, -, -, hsigM⟩ := Cond.code_spec hnamed hcode
  cases hmethM.symm.trans hmethM'
  obtain ⟨c2, r2, m2, q1, q2, q3, q4, kP, hkP, hkPi⟩ := Cond.selects_spec hsel
  cases hcls.symm.trans q1
  cases (State.methodFound?_of_named hnamed hy).symm.trans q2
  cases hnamed.symm.trans q3
  have hselP : selectMethod e.platform s.vm cellB.cls mk = .method mk := by rw [Launch.admits_selectMethod X.admits]; exact q4
  obtain ⟨vm₁, X₁, hstep₁⟩ := X.invokevirtual hexec hown hlink hnamed hmethM hstM hkP hkPi hy (a := b) (cell := cellB) hcell
    (fun z h => by rw [h] at hobj; cases hobj) hselP hmethM habM hkP hkPi (g := g) hg (argsL := argsL) (rest := rest) (hlen _ hsigM) hstack hdg
  rcases hK m meth c ⟨T.setVm vm₁, locs, cells, slots⟩ { g with stack := rest } (.invokevirtual index) mk (Value.ref b :: argsL).toArray X₁ hg hsize hdg hW (X₁.named hnamed) (hpre vm₁ X₁.warmed) with ⟨v, B, X', hpost, hsteps⟩ | ⟨q, B, X', hpost, hsteps⟩
  · exact Or.inl ⟨v, vm₁, B, X₁.warmed, X', hpost, fun target h => hstep₁ _ fun acts => by rw [doInvoke_state]; exact hsteps.trans h⟩
  · exact Or.inr ⟨q, vm₁, B, X₁.warmed, X', hpost, hstep₁ _ fun acts => by rw [doInvoke_state]; exact hsteps⟩
theorem vx_callS (X : Stand p l e R s m args below meth c T locs cells slots) (hexec : p.tables.exec = Jvm.exec) {own : String} {index : Nat} {y : MethodName} {bytes : ByteArray} {maxL : Nat} {ret : Option FieldType}
    (hown : s.vm.findClass own = some m.cls) (hlink : (Cond.methodLink own index y).before args s = true) (hstat : (Cond.static y).before args s = true) (hinit : (Cond.initialized y.cls).before args s = true)
    (hcode : (Cond.code y bytes maxL ret).before args s = true) (hy : y.cls ≠ "java/lang/invoke/MethodHandle" ∧ y.cls ≠ "java/lang/invoke/VarHandle")
    {W9 : Nat} {Pre : Pt → Array Value → Prop} {Post : Pt → Array Value → Option Value → Pt → Prop} {PostX : Pt → Array Value → Addr → Pt → Prop} (hK : vx_Back l R p e below s args y 3 W9 Pre Post PostX)
    {g : JFrame} (hg : g.method = m) (hsize : g.locals.size = c.maxLocals) {argsL rest : List Value} (hlen : ∀ sig, parseMethodDescriptor y.desc = some sig → argsL.length = sig.parameters.length)
    (hstack : g.stack = argsL.reverse ++ rest) (hW : 2 * g.monitorRoom + (rest.map fun v => v.category).sum ≤ W9) (hdg : decode c.code g.pc = .ok (.invokestatic index, 3))
    (hpre : ∀ vm₁, s.WarmedH vm₁ → Pre ⟨T.setVm vm₁, locs, cells, slots⟩ argsL.toArray) :
    (∃ (v : Option Value) (vm₁ : Vm) (B : Pt), s.WarmedH vm₁ ∧ Stand p l e R s m args below meth c B.U B.locs B.cells B.slots ∧ Post ⟨T.setVm vm₁, locs, cells, slots⟩ argsL.toArray v B ∧
      ∀ target, Steps p.tables e below (B.U.setTop { g with pc := g.pc + 3, stack := v.toList ++ rest }) target → Steps p.tables e below (T.setTop g) target) ∨
    (∃ (q : Addr) (vm₁ : Vm) (B : Pt), s.WarmedH vm₁ ∧ Stand p l e R s m args below meth c B.U B.locs B.cells B.slots ∧ PostX ⟨T.setVm vm₁, locs, cells, slots⟩ argsL.toArray q B ∧
      Steps p.tables e below (T.setTop g) ((B.U.setTop { g with stack := rest }).pushFrame (.throwing q))) := by
  obtain ⟨mk, hnamed⟩ := Cond.code_named hcode
  obtain ⟨methM, cM, hmethM, -, -, -, -, -, -, hsigM⟩ := Cond.code_spec hnamed hcode
  have hstatic : methM.isStatic = true := Cond.static_spec hnamed hmethM hstat
  obtain ⟨kP, hkP, -⟩ := className_of_methodNamed hnamed
  have hinitP : kP.init = .initialized := Cond.initialized_spec (findClass_of_methodNamed hnamed) hkP hinit
  obtain ⟨vm₁, X₁, hstep₁⟩ := X.invokestatic hexec hown hlink hnamed hmethM hstatic hkP hinitP hy (g := g) hg (argsL := argsL) (rest := rest) (hlen _ hsigM) hstack hdg
  rcases hK m meth c ⟨T.setVm vm₁, locs, cells, slots⟩ { g with stack := rest } (.invokestatic index) mk argsL.toArray X₁ hg hsize hdg hW (X₁.named hnamed) (hpre vm₁ X₁.warmed) with ⟨v, B, X', hpost, hsteps⟩ | ⟨q, B, X', hpost, hsteps⟩
  · exact Or.inl ⟨v, vm₁, B, X₁.warmed, X', hpost, fun target h => hstep₁ _ fun acts => by rw [doInvoke_state]; exact hsteps.trans h⟩
  · exact Or.inr ⟨q, vm₁, B, X₁.warmed, X', hpost, hstep₁ _ fun acts => by rw [doInvoke_state]; exact hsteps⟩
end Calls
theorem vx_cls {s : State} {T : State} {vm₁ : Vm} {E : String} {k : ClassId} (hW : s.WarmedH vm₁) (h : (T.setVm vm₁).vm.findClass E = some k) : s.vm.findClass E = some k := by
  have h1 : vm₁.findClass E = some k := h
  rw [hW.alike.findClass] at h1
  exact h1
/-- the method's frame g, with q thrown over it -/
def vx_W (p : Program) (l : Launch) (e : Env) (R : Room) (s : State) (m : MethodId) (args : Array Value) (below : List Frame) (meth : Method) (c : Code) (H : Heap) (locs : List Loc) (cells slots : Nat) (Q : State → Prop) (g : JFrame) (q : Addr) : Prop :=
  ∀ T : State, T.heap = H → Stand p l e R s m args below meth c T locs cells slots → ∃ t, Steps p.tables e below ((T.setTop g).pushFrame (.throwing q)) t ∧ Q t
def vx_Run (p : Program) (l : Launch) (e : Env) (R : Room) (s : State) (m : MethodId) (args : Array Value) (below : List Frame) (meth : Method) (c : Code) (H : Heap) (locs : List Loc) (cells slots mc ms : Nat) (g : JFrame) (rest : List Value) (Qa : State → Outcome → State → Prop) (XC : String → State → State → Prop) (free : Addr → Prop) : Prop :=
  ∀ T : State, T.heap = H → Stand p l e R s m args below meth c T locs cells slots →
    (∃ (v : Option Value) (st₀ t T' : State) (L : List Loc), st₀.heap = H ∧ Stand p l e R s m args below meth c T' (locs ++ L) (cells + mc) (slots + ms) ∧ (∀ q ∈ L, free q.base) ∧ T'.heap = t.heap ∧ T'.vm = t.vm ∧ Qa st₀ (.returned v) t ∧
      Goes p e below T g T' { g with pc := g.pc + 3, stack := v.toList ++ rest }) ∨
    (∃ (q : Addr) (st₀ t T' : State) (L : List Loc) (E : String) (ce : Cell), st₀.heap = H ∧ Stand p l e R s m args below meth c T' (locs ++ L) (cells + mc) (slots + ms) ∧ (∀ z ∈ L, free z.base) ∧ T'.heap = t.heap ∧ T'.vm = t.vm ∧ XC E st₀ t ∧ t.heap[q]? = some ce ∧ ce.vm = .none ∧ s.vm.findClass E = some ce.cls ∧
      Steps p.tables e below (T.setTop g) ((T'.setTop { g with stack := rest }).pushFrame (.throwing q)))
def vx_X {S : Type} (px : S → Prop) (B : String → S → State → Prop) (A : Nat → Prop) : String → State → State → Prop := fun E st t => ∃ u : S, px u ∧ B E u t ∧ va_F A st t
section Runs
variable {p : Program} {l : Launch} {e : Env} {R : Room} {s : State} {m : MethodId} {args : Array Value} {below : List Frame} {meth : Method} {c : Code} {H : Heap} {locs : List Loc} {cells slots : Nat}
variable {y : MethodName} {bytes cc : ByteArray} {maxL nL mc ms n index : Nat} {ret : Option FieldType} {ws : List Cond} {rm : Room} {Pc : Array Value → State → Prop} {Qc : Array Value → State → Outcome → State → Prop} {XC : String → State → State → Prop} {free : Addr → Prop} {Ts : List Cond} {own C : String} {b : Addr} {As rest : List Value} {g : JFrame}
theorem vx_callBack (cb : CallB R s args own index y bytes maxL ret ws rm mc ms n) (hM : vx_Met l y ws rm Pc Qc XC mc ms free) (hbl : FrameBlind Pc) : vx_Back l R p e below s args y 3 8 (PreOf R mc ms Pc) (PostOf Qc mc ms free) (vx_Post XC mc ms free) := by
  obtain ⟨hrc, hrs, hfr, hlo, hws, hcw, -, hini, -⟩ := cb
  exact vx_back (bytes := bytes) (maxL := maxL) (ret := ret) hM hbl hrc hrs hfr hlo hws hcw (fun a' U hW => word_at hW (Or.inl (by first | rfl | simp [Cond.onTables, Cond.keeps, Cond.steady])) hini)
theorem vx_runV (S : CallFix p m c cc nL s args Ts own) (hM : vx_Met l y ws rm Pc Qc XC mc ms free) (cw : CallW R s args own C index y bytes maxL ret ws rm mc ms n) (hp : PreV s H C b Pc As)
    (hg : g.method = m) (hn : As.length = n) (hsize : g.locals.size = nL) (hstack : g.stack = As.reverse ++ .ref b :: rest) (hW : 2 * g.monitorRoom + (rest.map fun v => v.category).sum ≤ 8) (hdg : decode cc g.pc = .ok (.invokevirtual index, 3)) (hf : cells + mc ≤ R.cells ∧ slots + ms ≤ R.slots) :
    vx_Run p l e R s m args below meth c H locs cells slots mc ms g rest (Qc (Value.ref b :: As).toArray) XC free := by
  have hK : vx_Back l R p e below s args y 3 8 (PreOf R mc ms Pc) (PostOf Qc mc ms free) (vx_Post XC mc ms free) := vx_callBack cw.1 hM hp.1
  obtain ⟨⟨-, -, -, -, -, -, hcode, -, hy, hlen, hl⟩, hin, hse⟩ := cw
  obtain ⟨hx, hb, hml, ho, -⟩ := S
  obtain ⟨-, ⟨cellB, hcB, hoB, hclB⟩, hPc⟩ := hp
  intro T hT X
  rcases vx_callV X hx (C := C) (bytes := bytes) (maxL := maxL) (ret := ret) ho hl hin hse hcode hy hK (by rw [hT]; exact hcB) hoB hclB hg (hsize.trans hml.symm) (argsL := As) (rest := rest) (fun sig h => hn.trans (hlen sig h)) hstack hW (by rw [hb]; exact hdg)
    (fun vm₁ hW₁ => ⟨hf.1, hf.2, hPc (T.setVm vm₁) hT hW₁⟩) with ⟨v, vm₁, ⟨U', l2, c2, s2⟩, hW₁, X', ⟨g', mk, t, L, e1, e2, hq, h1, hL, h2, h3⟩, st⟩ | ⟨q, vm₁, ⟨U', l2, c2, s2⟩, hW₁, X', ⟨g', mk, t, L, E, ce, e1, e2, hq, hce, hcv, hcl, h1, hL, h2, h3⟩, st⟩
  · dsimp only [Pt.U, Pt.locs, Pt.cells, Pt.slots] at X' e1 e2 h1 h2 h3 st
    subst h1; subst h2; subst h3
    exact Or.inl ⟨v, (T.setVm vm₁).calling g' mk (Value.ref b :: As).toArray, t, U', L, hT, X', hL, e1, e2, hq, st⟩
  · dsimp only [Pt.U, Pt.locs, Pt.cells, Pt.slots] at X' e1 e2 h1 h2 h3 st hcl
    subst h1; subst h2; subst h3
    exact Or.inr ⟨q, (T.setVm vm₁).calling g' mk (Value.ref b :: As).toArray, t, U', L, E, ce, hT, X', hL, e1, e2, hq, hce, hcv, vx_cls hW₁ hcl, st⟩
theorem vx_runS (S : CallFix p m c cc nL s args Ts own) (hM : vx_Met l y ws rm Pc Qc XC mc ms free) (cw : CallB R s args own index y bytes maxL ret ws rm mc ms n ∧ (Cond.static y).before args s = true) (hp : PreS s H Pc As)
    (hg : g.method = m) (hn : As.length = n) (hsize : g.locals.size = nL) (hstack : g.stack = As.reverse ++ rest) (hW : 2 * g.monitorRoom + (rest.map fun v => v.category).sum ≤ 8) (hdg : decode cc g.pc = .ok (.invokestatic index, 3)) (hf : cells + mc ≤ R.cells ∧ slots + ms ≤ R.slots) :
    vx_Run p l e R s m args below meth c H locs cells slots mc ms g rest (Qc As.toArray) XC free := by
  have hK : vx_Back l R p e below s args y 3 8 (PreOf R mc ms Pc) (PostOf Qc mc ms free) (vx_Post XC mc ms free) := vx_callBack cw.1 hM hp.1
  obtain ⟨⟨-, -, -, -, -, -, hcode, hini, hy, hlen, hl⟩, hstt⟩ := cw
  obtain ⟨hx, hb, hml, ho, -⟩ := S
  intro T hT X
  rcases vx_callS X hx (bytes := bytes) (maxL := maxL) (ret := ret) ho hl hstt hini hcode hy hK hg (hsize.trans hml.symm) (argsL := As) (rest := rest) (fun sig h => hn.trans (hlen sig h)) hstack hW (by rw [hb]; exact hdg)
    (fun vm₁ hW₁ => ⟨hf.1, hf.2, hp.2 (T.setVm vm₁) hT hW₁⟩) with ⟨v, vm₁, ⟨U', l2, c2, s2⟩, hW₁, X', ⟨g', mk, t, L, e1, e2, hq, h1, hL, h2, h3⟩, st⟩ | ⟨q, vm₁, ⟨U', l2, c2, s2⟩, hW₁, X', ⟨g', mk, t, L, E, ce, e1, e2, hq, hce, hcv, hcl, h1, hL, h2, h3⟩, st⟩
  · dsimp only [Pt.U, Pt.locs, Pt.cells, Pt.slots] at X' e1 e2 h1 h2 h3 st
    subst h1; subst h2; subst h3
    exact Or.inl ⟨v, (T.setVm vm₁).calling g' mk As.toArray, t, U', L, hT, X', hL, e1, e2, hq, st⟩
  · dsimp only [Pt.U, Pt.locs, Pt.cells, Pt.slots] at X' e1 e2 h1 h2 h3 st hcl
    subst h1; subst h2; subst h3
    exact Or.inr ⟨q, (T.setVm vm₁).calling g' mk As.toArray, t, U', L, E, ce, hT, X', hL, e1, e2, hq, hce, hcv, vx_cls hW₁ hcl, st⟩
end Runs
section Rows
variable {p : Program} {l : Launch} {e : Env} {R : Room} {s : State} {m : MethodId} {args : Array Value} {below : List Frame} {meth : Method} {c : Code} {H : Heap} {locs : List Loc} {cells slots : Nat} {Q : State → Prop}
variable {mc ms : Nat} {free : Addr → Prop} {A0 A1 : Nat → Prop} {H0 : Heap} {a : Array Value} {pc : Nat} {ls : Array Slot} {st0 rest : List Value}
theorem vx_keep {st₀ t T' : State} {L : List Loc} (h0 : st₀.heap = H) (e1 : T'.heap = t.heap) (hS : va_S A0 H0 H locs) (hA : ∀ q, q < H.size → A1 q → A0 q) (hf : ∀ q, free q → A0 q) (hL : ∀ q ∈ L, free q.base) (hF : va_F A1 st₀ t) :
    H.size ≤ T'.heap.size ∧ (∀ q : Nat, q < H.size → ¬ A1 q → T'.heap[q]? = H[q]?) ∧ va_S A0 H0 T'.heap (locs ++ L) := by
  obtain ⟨hz, hk⟩ := hF
  rw [h0] at hz hk
  exact ⟨by rw [e1]; exact hz, fun q h1 h2 => by rw [e1]; exact hk q h1 h2,
    ⟨Nat.le_trans hS.1 (by rw [e1]; exact hz), fun q h1 h2 => by rw [e1, hk q (Nat.lt_of_lt_of_le h1 hS.1) (fun z => h2 (hA q (Nat.lt_of_lt_of_le h1 hS.1) z))]; exact hS.2.1 q h1 h2, fun q hq => by
      rcases List.mem_append.mp hq with h | h
      · exact hS.2.2 q h
      · exact hf _ (hL q h)⟩⟩
theorem vx_calli {S SX : Type} {post : Int32 → S → Prop} {px : SX → Prop} {B : S → State → Prop} {BX : String → SX → State → Prop} {AX : Nat → Prop} (hr : vx_Run p l e R s m args below meth c H locs cells slots mc ms (F0 m pc ls st0) rest (va_Qi post B A1 a) (vx_X px BX AX) free) (hS : va_S A0 H0 H locs) (hA : ∀ q, q < H.size → A1 q → A0 q) (hf : ∀ q, free q → A0 q) (hAX : ∀ q, q < H.size → AX q → A0 q)
    (kx : ∀ (E : String) (ce : Cell) (q9 : Addr) (u : SX) (t : State) (H1 : Heap) (locs1 : List Loc), t.heap = H1 → s.vm.Alike t.vm → px u → BX E u t → H.size ≤ H1.size → (∀ q : Nat, q < H.size → ¬ AX q → H1[q]? = H[q]?) → va_S A0 H0 H1 locs1 → H1[q9]? = some ce → ce.vm = .none → s.vm.findClass E = some ce.cls → vx_W p l e R s m args below meth c H1 locs1 (cells + mc) (slots + ms) Q (F0 m pc ls rest) q9)
    (kk : ∀ (r : Int32) (u : S) (t : State) (H1 : Heap) (locs1 : List Loc), t.heap = H1 → s.vm.Alike t.vm → post r u → B u t → H.size ≤ H1.size → (∀ q : Nat, q < H.size → ¬ A1 q → H1[q]? = H[q]?) → va_S A0 H0 H1 locs1 → W p l e R s m args below meth c H1 locs1 (cells + mc) (slots + ms) Q (F0 m (pc + 3) ls (.int r :: rest))) : W p l e R s m args below meth c H locs cells slots Q (F0 m pc ls st0) := by
  intro T hT X
  rcases hr T hT X with ⟨v, st₀, t, T', L, h0, X', hL, e1, e2, ⟨⟨r, u, hv, hp, hb⟩, hF⟩, st⟩ | ⟨q, st₀, t, T', L, E, ce, h0, X', hL, e1, e2, ⟨u, hp, hb, hF⟩, hce, hcv, hcl, st⟩
  · cases hv
    obtain ⟨k1, k2, k3⟩ := vx_keep h0 e1 hS hA hf hL hF
    obtain ⟨t2, a1, b1⟩ := kk r u t T'.heap (locs ++ L) e1.symm (by rw [← e2]; exact X'.warmed.alike) hp hb k1 k2 k3 T' rfl X'
    exact ⟨t2, st t2 a1, b1⟩
  · obtain ⟨k1, k2, k3⟩ := vx_keep h0 e1 hS hAX hf hL hF
    obtain ⟨t2, a1, b1⟩ := kx E ce q u t T'.heap (locs ++ L) e1.symm (by rw [← e2]; exact X'.warmed.alike) hp hb k1 k2 k3 (by rw [e1]; exact hce) hcv hcl T' rfl X'
    exact ⟨t2, st.trans a1, b1⟩
theorem vx_calll {S SX : Type} {post : Int64 → S → Prop} {px : SX → Prop} {B : S → State → Prop} {BX : String → SX → State → Prop} {AX : Nat → Prop} (hr : vx_Run p l e R s m args below meth c H locs cells slots mc ms (F0 m pc ls st0) rest (va_Ql post B A1 a) (vx_X px BX AX) free) (hS : va_S A0 H0 H locs) (hA : ∀ q, q < H.size → A1 q → A0 q) (hf : ∀ q, free q → A0 q) (hAX : ∀ q, q < H.size → AX q → A0 q)
    (kx : ∀ (E : String) (ce : Cell) (q9 : Addr) (u : SX) (t : State) (H1 : Heap) (locs1 : List Loc), t.heap = H1 → s.vm.Alike t.vm → px u → BX E u t → H.size ≤ H1.size → (∀ q : Nat, q < H.size → ¬ AX q → H1[q]? = H[q]?) → va_S A0 H0 H1 locs1 → H1[q9]? = some ce → ce.vm = .none → s.vm.findClass E = some ce.cls → vx_W p l e R s m args below meth c H1 locs1 (cells + mc) (slots + ms) Q (F0 m pc ls rest) q9)
    (kk : ∀ (r : Int64) (u : S) (t : State) (H1 : Heap) (locs1 : List Loc), t.heap = H1 → s.vm.Alike t.vm → post r u → B u t → H.size ≤ H1.size → (∀ q : Nat, q < H.size → ¬ A1 q → H1[q]? = H[q]?) → va_S A0 H0 H1 locs1 → W p l e R s m args below meth c H1 locs1 (cells + mc) (slots + ms) Q (F0 m (pc + 3) ls (.long r :: rest))) : W p l e R s m args below meth c H locs cells slots Q (F0 m pc ls st0) := by
  intro T hT X
  rcases hr T hT X with ⟨v, st₀, t, T', L, h0, X', hL, e1, e2, ⟨⟨r, u, hv, hp, hb⟩, hF⟩, st⟩ | ⟨q, st₀, t, T', L, E, ce, h0, X', hL, e1, e2, ⟨u, hp, hb, hF⟩, hce, hcv, hcl, st⟩
  · cases hv
    obtain ⟨k1, k2, k3⟩ := vx_keep h0 e1 hS hA hf hL hF
    obtain ⟨t2, a1, b1⟩ := kk r u t T'.heap (locs ++ L) e1.symm (by rw [← e2]; exact X'.warmed.alike) hp hb k1 k2 k3 T' rfl X'
    exact ⟨t2, st t2 a1, b1⟩
  · obtain ⟨k1, k2, k3⟩ := vx_keep h0 e1 hS hAX hf hL hF
    obtain ⟨t2, a1, b1⟩ := kx E ce q u t T'.heap (locs ++ L) e1.symm (by rw [← e2]; exact X'.warmed.alike) hp hb k1 k2 k3 (by rw [e1]; exact hce) hcv hcl T' rfl X'
    exact ⟨t2, st.trans a1, b1⟩
theorem vx_callf {S SX : Type} {post : UInt32 → S → Prop} {px : SX → Prop} {B : S → State → Prop} {BX : String → SX → State → Prop} {AX : Nat → Prop} (hr : vx_Run p l e R s m args below meth c H locs cells slots mc ms (F0 m pc ls st0) rest (va_Qf post B A1 a) (vx_X px BX AX) free) (hS : va_S A0 H0 H locs) (hA : ∀ q, q < H.size → A1 q → A0 q) (hf : ∀ q, free q → A0 q) (hAX : ∀ q, q < H.size → AX q → A0 q)
    (kx : ∀ (E : String) (ce : Cell) (q9 : Addr) (u : SX) (t : State) (H1 : Heap) (locs1 : List Loc), t.heap = H1 → s.vm.Alike t.vm → px u → BX E u t → H.size ≤ H1.size → (∀ q : Nat, q < H.size → ¬ AX q → H1[q]? = H[q]?) → va_S A0 H0 H1 locs1 → H1[q9]? = some ce → ce.vm = .none → s.vm.findClass E = some ce.cls → vx_W p l e R s m args below meth c H1 locs1 (cells + mc) (slots + ms) Q (F0 m pc ls rest) q9)
    (kk : ∀ (r : UInt32) (u : S) (t : State) (H1 : Heap) (locs1 : List Loc), t.heap = H1 → s.vm.Alike t.vm → post r u → B u t → H.size ≤ H1.size → (∀ q : Nat, q < H.size → ¬ A1 q → H1[q]? = H[q]?) → va_S A0 H0 H1 locs1 → W p l e R s m args below meth c H1 locs1 (cells + mc) (slots + ms) Q (F0 m (pc + 3) ls (.float r :: rest))) : W p l e R s m args below meth c H locs cells slots Q (F0 m pc ls st0) := by
  intro T hT X
  rcases hr T hT X with ⟨v, st₀, t, T', L, h0, X', hL, e1, e2, ⟨⟨r, u, hv, hp, hb⟩, hF⟩, st⟩ | ⟨q, st₀, t, T', L, E, ce, h0, X', hL, e1, e2, ⟨u, hp, hb, hF⟩, hce, hcv, hcl, st⟩
  · cases hv
    obtain ⟨k1, k2, k3⟩ := vx_keep h0 e1 hS hA hf hL hF
    obtain ⟨t2, a1, b1⟩ := kk r u t T'.heap (locs ++ L) e1.symm (by rw [← e2]; exact X'.warmed.alike) hp hb k1 k2 k3 T' rfl X'
    exact ⟨t2, st t2 a1, b1⟩
  · obtain ⟨k1, k2, k3⟩ := vx_keep h0 e1 hS hAX hf hL hF
    obtain ⟨t2, a1, b1⟩ := kx E ce q u t T'.heap (locs ++ L) e1.symm (by rw [← e2]; exact X'.warmed.alike) hp hb k1 k2 k3 (by rw [e1]; exact hce) hcv hcl T' rfl X'
    exact ⟨t2, st.trans a1, b1⟩
theorem vx_calld {S SX : Type} {post : UInt64 → S → Prop} {px : SX → Prop} {B : S → State → Prop} {BX : String → SX → State → Prop} {AX : Nat → Prop} (hr : vx_Run p l e R s m args below meth c H locs cells slots mc ms (F0 m pc ls st0) rest (va_Qd post B A1 a) (vx_X px BX AX) free) (hS : va_S A0 H0 H locs) (hA : ∀ q, q < H.size → A1 q → A0 q) (hf : ∀ q, free q → A0 q) (hAX : ∀ q, q < H.size → AX q → A0 q)
    (kx : ∀ (E : String) (ce : Cell) (q9 : Addr) (u : SX) (t : State) (H1 : Heap) (locs1 : List Loc), t.heap = H1 → s.vm.Alike t.vm → px u → BX E u t → H.size ≤ H1.size → (∀ q : Nat, q < H.size → ¬ AX q → H1[q]? = H[q]?) → va_S A0 H0 H1 locs1 → H1[q9]? = some ce → ce.vm = .none → s.vm.findClass E = some ce.cls → vx_W p l e R s m args below meth c H1 locs1 (cells + mc) (slots + ms) Q (F0 m pc ls rest) q9)
    (kk : ∀ (r : UInt64) (u : S) (t : State) (H1 : Heap) (locs1 : List Loc), t.heap = H1 → s.vm.Alike t.vm → post r u → B u t → H.size ≤ H1.size → (∀ q : Nat, q < H.size → ¬ A1 q → H1[q]? = H[q]?) → va_S A0 H0 H1 locs1 → W p l e R s m args below meth c H1 locs1 (cells + mc) (slots + ms) Q (F0 m (pc + 3) ls (.double r :: rest))) : W p l e R s m args below meth c H locs cells slots Q (F0 m pc ls st0) := by
  intro T hT X
  rcases hr T hT X with ⟨v, st₀, t, T', L, h0, X', hL, e1, e2, ⟨⟨r, u, hv, hp, hb⟩, hF⟩, st⟩ | ⟨q, st₀, t, T', L, E, ce, h0, X', hL, e1, e2, ⟨u, hp, hb, hF⟩, hce, hcv, hcl, st⟩
  · cases hv
    obtain ⟨k1, k2, k3⟩ := vx_keep h0 e1 hS hA hf hL hF
    obtain ⟨t2, a1, b1⟩ := kk r u t T'.heap (locs ++ L) e1.symm (by rw [← e2]; exact X'.warmed.alike) hp hb k1 k2 k3 T' rfl X'
    exact ⟨t2, st t2 a1, b1⟩
  · obtain ⟨k1, k2, k3⟩ := vx_keep h0 e1 hS hAX hf hL hF
    obtain ⟨t2, a1, b1⟩ := kx E ce q u t T'.heap (locs ++ L) e1.symm (by rw [← e2]; exact X'.warmed.alike) hp hb k1 k2 k3 (by rw [e1]; exact hce) hcv hcl T' rfl X'
    exact ⟨t2, st.trans a1, b1⟩
theorem vx_callv {S SX : Type} {post : S → Prop} {px : SX → Prop} {B : S → State → Prop} {BX : String → SX → State → Prop} {AX : Nat → Prop} (hr : vx_Run p l e R s m args below meth c H locs cells slots mc ms (F0 m pc ls st0) rest (va_Qv post B A1 a) (vx_X px BX AX) free) (hS : va_S A0 H0 H locs) (hA : ∀ q, q < H.size → A1 q → A0 q) (hf : ∀ q, free q → A0 q) (hAX : ∀ q, q < H.size → AX q → A0 q)
    (kx : ∀ (E : String) (ce : Cell) (q9 : Addr) (u : SX) (t : State) (H1 : Heap) (locs1 : List Loc), t.heap = H1 → s.vm.Alike t.vm → px u → BX E u t → H.size ≤ H1.size → (∀ q : Nat, q < H.size → ¬ AX q → H1[q]? = H[q]?) → va_S A0 H0 H1 locs1 → H1[q9]? = some ce → ce.vm = .none → s.vm.findClass E = some ce.cls → vx_W p l e R s m args below meth c H1 locs1 (cells + mc) (slots + ms) Q (F0 m pc ls rest) q9)
    (kk : ∀ (u : S) (t : State) (H1 : Heap) (locs1 : List Loc), t.heap = H1 → s.vm.Alike t.vm → post u → B u t → H.size ≤ H1.size → (∀ q : Nat, q < H.size → ¬ A1 q → H1[q]? = H[q]?) → va_S A0 H0 H1 locs1 → W p l e R s m args below meth c H1 locs1 (cells + mc) (slots + ms) Q (F0 m (pc + 3) ls (rest))) : W p l e R s m args below meth c H locs cells slots Q (F0 m pc ls st0) := by
  intro T hT X
  rcases hr T hT X with ⟨v, st₀, t, T', L, h0, X', hL, e1, e2, ⟨⟨u, hv, hp, hb⟩, hF⟩, st⟩ | ⟨q, st₀, t, T', L, E, ce, h0, X', hL, e1, e2, ⟨u, hp, hb, hF⟩, hce, hcv, hcl, st⟩
  · cases hv
    obtain ⟨k1, k2, k3⟩ := vx_keep h0 e1 hS hA hf hL hF
    obtain ⟨t2, a1, b1⟩ := kk u t T'.heap (locs ++ L) e1.symm (by rw [← e2]; exact X'.warmed.alike) hp hb k1 k2 k3 T' rfl X'
    exact ⟨t2, st t2 a1, b1⟩
  · obtain ⟨k1, k2, k3⟩ := vx_keep h0 e1 hS hAX hf hL hF
    obtain ⟨t2, a1, b1⟩ := kx E ce q u t T'.heap (locs ++ L) e1.symm (by rw [← e2]; exact X'.warmed.alike) hp hb k1 k2 k3 (by rw [e1]; exact hce) hcv hcl T' rfl X'
    exact ⟨t2, st.trans a1, b1⟩
/-- caught by the row x of this method's table; the rows ahead don't take it -/
theorem vx_catch {own name : String} {E : String} {ce : Cell} {q : Addr} (hown : s.vm.findClass own = some m.cls) (pre : List ExceptionTableEntry) (x : ExceptionTableEntry) (suf : List ExceptionTableEntry) (hsplit : c.exceptionTable.toList = pre ++ x :: suf)
    (hpass : ∀ z ∈ pre, covers z pc = false ∨ (z.catchType ≠ 0 ∧ ∃ nm : String, (Cond.classLink own z.catchType nm).before args s = true ∧ va_Nc E nm s)) (hx : covers x pc = true) (h0 : x.catchType ≠ 0)
    (hlink : (Cond.classLink own x.catchType name).before args s = true) (hcast : (Cond.castable E name).before args s = true) (hcell : H[q]? = some ce) (hv : ce.vm = .none) (hcl : s.vm.findClass E = some ce.cls)
    (kk : W p l e R s m args below meth c H locs cells slots Q (F0 m x.handlerPc ls [.ref q])) : vx_W p l e R s m args below meth c H locs cells slots Q (F0 m pc ls rest) q := by
  intro T hT X
  have hpl : e.platform.magicAccessors = ({} : Platform).magicAccessors := by rw [X.admits.platform]
  obtain ⟨c3, c4, hc3, hc4, hasg⟩ := Cond.castable_spec hcast
  cases Option.some.inj (hc3.symm.trans hcl)
  obtain ⟨c5, hc5, hcl5⟩ := Cond.classLink_spec hown hlink e.platform hpl
  cases Option.some.inj (hc4.symm.trans hc5)
  obtain ⟨vm', X', st⟩ := X.thenCaughtThrough q (g := F0 m pc ls rest) rfl (Steps.refl _) (by rw [hT]; exact hcell) (by rw [hv]; rfl) (by obtain ⟨k9, h9, -⟩ := Vm.findClass_spec hcl; exact ⟨k9, h9⟩) pre x suf hsplit
    (fun z hz => by
      rcases hpass z hz with h | ⟨hz0, nm, hl1, hn1⟩
      · exact Or.inl h
      · obtain ⟨c6, hc6, hcl6⟩ := Cond.classLink_spec hown hl1 e.platform hpl
        obtain ⟨a8, b8, h1, h2, h3⟩ := hn1
        cases Option.some.inj (h1.symm.trans hcl)
        cases Option.some.inj (h2.symm.trans hc6)
        exact Or.inr ⟨hz0, _, hcl6, h3⟩) hx (Or.inr ⟨h0, c4, hcl5, hasg⟩)
  obtain ⟨t, a1, b1⟩ := kk (T.setVm vm') hT X'
  exact ⟨t, st.trans a1, b1⟩
end Rows
section Ends
variable {p : Program} {l : Launch} {e : Env} {R : Room} {s : State} {m : MethodId} {args : Array Value} {below : List Frame} {meth : Method} {c : Code} {H : Heap} {locs : List Loc} {cells slots : Nat} {Q : State → Prop}
variable {mc ms : Nat} {free : Addr → Prop} {A0 A1 : Nat → Prop} {H0 : Heap} {a : Array Value} {ls : Array Slot} {st0 rest : List Value}
variable {Qc : Array Value → State → Outcome → State → Prop} {XC : String → State → State → Prop}
/-- what a body that may throw owes at its end -/
def vx_MQ (below : List Frame) (Qc : Array Value → State → Outcome → State → Prop) (XC : String → State → State → Prop) (a : Array Value) (s : State) (mc ms : Nat) (free : Addr → Prop) : State → Prop := fun t =>
  ∃ o, t.status = .running ∧ Ended t below o ∧ vx_Q Qc XC mc ms free a s o t
theorem vx_ret {g : JFrame} {mc ms : Nat} (k : W p l e R s m args below meth c H locs cells slots (MQ below Qc args s mc ms free) g) : W p l e R s m args below meth c H locs cells slots (vx_MQ below Qc XC args s mc ms free) g := by
  intro T hT X
  obtain ⟨t, a1, o, b1, b2, b3, b4⟩ := k T hT X
  exact ⟨t, a1, o, b1, b2, Or.inl ⟨b3, b4⟩⟩
/-- not caught here: it goes on to the caller -/
theorem vx_widen {g : JFrame} {q : Addr} {k n : Nat} (h1 : cells ≤ k) (h2 : slots ≤ n) (kk : vx_W p l e R s m args below meth c H locs k n Q g q) : vx_W p l e R s m args below meth c H locs cells slots Q g q := fun T hT X => kk T hT (stand_widen X h1 h2)
theorem vx_out {pc : Nat} {E : String} {ce : Cell} {q : Addr} {mc ms : Nat} (hout : ∀ x ∈ c.exceptionTable.toList, covers x pc = false) (hlocks : meth.locks = false) (hcell : H[q]? = some ce) (hv : ce.vm = .none) (hcl : s.vm.findClass E = some ce.cls)
    (hx : ∀ t : State, t.heap = H → s.vm.Alike t.vm → XC E s t) (hf : ∀ z ∈ locs, free z.base) (hc : cells ≤ mc) (hs : slots ≤ ms) :
    vx_W p l e R s m args below meth c H locs cells slots (vx_MQ below Qc XC args s mc ms free) (F0 m pc ls rest) q := by
  intro T hT X
  obtain ⟨st1, hrun, hend, hW, hsm⟩ := X.leaveThrown q (g := F0 m pc ls rest) rfl rfl rfl hout hlocks
  have hcell9 : (T.setFrames (.throwing q :: below)).heap[q]? = some ce := by
    show T.heap[q]? = some ce
    rw [hT]; exact hcell
  exact ⟨_, st1, .threw q, hrun, hend, Or.inr ⟨q, rfl, E, ce, locs, hx _ hT hW.alike, hcell9, hv, hcl, hW, hsm.mono hc hs, hf⟩⟩
theorem vx_frame {U : State} {k n : Nat} (h : s.sameButNew ({ U with vm := s.vm } : State) locs k n) : s.heap.size ≤ U.heap.size ∧ ∀ q : Nat, q < s.heap.size → (∀ z ∈ locs, z.base ≠ q) → U.heap[q]? = s.heap[q]? := by
  obtain ⟨-, h2, -, -, -, h6⟩ := h
  refine ⟨h2, fun q hq hz => ?_⟩
  obtain ⟨c9, e1, e2, e3, e4⟩ := h6 q _ (Array.getElem?_eq_getElem hq)
  have hs : c9.slots = (s.heap[q]).slots := Array.ext_getElem? fun i => e4 i fun hm => hz _ hm rfl
  have h9 : c9 = s.heap[q] := by
    rw [hs] at e2
    exact e2
  have e5 : U.heap[q]? = some c9 := e1
  rw [e5, h9, Array.getElem?_eq_getElem hq]
/-- the words of a throw but the four that speak of the heap -/
def vx_no (w : Cond) : Bool := decide (w ≠ .isRef (.static Bundle.tN "UNASSIGNED_STACK" Bundle.steD)) && decide (w ≠ .isRef (.static Bundle.tN "SUPPRESSED_SENTINEL" Bundle.listD)) && decide (w ≠ .laysStatic Bundle.tN "UNASSIGNED_STACK" Bundle.steD) && decide (w ≠ .laysStatic Bundle.tN "SUPPRESSED_SENTINEL" Bundle.listD)
def vx_at0 (own : String) (ic : Nat) (X : String) (names : List String) : List Cond := (Bundle.ownAtoms0 own ic X names).filter vx_no
def vx_atS (own : String) (ic : Nat) (X : String) (names : List String) : List Cond := (Bundle.ownAtoms own ic X names).filter vx_no
/-- a word that the tables alone decide, or a good one -/
def vx_ot (w : Cond) : Bool := w.onTables || goodWord w
theorem vx_ot_at {args a' : Array Value} {s U : State} {w : Cond} (hW : s.WarmedH U.vm) (hvm : s.vm = U.vm) (hg : vx_ot w = true) (h : w.before args s = true) : w.before a' U = true := by
  simp only [vx_ot, Bool.or_eq_true] at hg
  rcases hg with hg | hg
  · exact va_tabs hg hvm h
  · exact word_at hW (good_of_word hg) h
/-- a list's words: the good ones out of the method's own list, the others by premises of their own -/
theorem vx_hat {args : Array Value} {s : State} {L B : List Cond} (h1 : ∀ w ∈ L.filter goodWord, w.before args s = true) (h2 : ∀ w ∈ L.filter (fun w => !goodWord w), w ∈ B) (h3 : ∀ w ∈ B, w.before args s = true) : ∀ w ∈ L, w.before args s = true := by
  intro w hw
  by_cases g : goodWord w = true
  · exact h1 w (List.mem_filter.mpr ⟨hw, g⟩)
  · refine h3 w (h2 w (List.mem_filter.mpr ⟨hw, ?_⟩))
    show (!goodWord w) = true
    cases hgw : goodWord w
    · rfl
    · exact absurd hgw g
theorem vx_c {args : Array Value} {s : State} {w : Cond} {B : List Cond} (h : w.before args s = true) (t : ∀ w ∈ B, w.before args s = true) : ∀ w' ∈ w :: B, w'.before args s = true := fun w' h' => (List.mem_cons.mp h').elim (fun e => by rw [e]; exact h) (t w')
theorem vx_n {args : Array Value} {s : State} : ∀ w ∈ ([] : List Cond), w.before args s = true := fun _ h => nomatch h
theorem vx_own {args : Array Value} {s : State} {L : List Cond} (h1 : ∀ w ∈ L.filter vx_no, w.before args s = true)
    (hU : (Cond.isRef (.static Bundle.tN "UNASSIGNED_STACK" Bundle.steD)).before args s = true) (hN : (Cond.isRef (.static Bundle.tN "SUPPRESSED_SENTINEL" Bundle.listD)).before args s = true)
    (lU : (Cond.laysStatic Bundle.tN "UNASSIGNED_STACK" Bundle.steD).before args s = true) (lN : (Cond.laysStatic Bundle.tN "SUPPRESSED_SENTINEL" Bundle.listD).before args s = true) : ∀ w ∈ L, w.before args s = true := by
  intro w hw
  by_cases e1 : w = .isRef (.static Bundle.tN "UNASSIGNED_STACK" Bundle.steD)
  · rw [e1]; exact hU
  · by_cases e2 : w = .isRef (.static Bundle.tN "SUPPRESSED_SENTINEL" Bundle.listD)
    · rw [e2]; exact hN
    · by_cases e3 : w = .laysStatic Bundle.tN "UNASSIGNED_STACK" Bundle.steD
      · rw [e3]; exact lU
      · by_cases e4 : w = .laysStatic Bundle.tN "SUPPRESSED_SENTINEL" Bundle.listD
        · rw [e4]; exact lN
        · exact h1 w (List.mem_filter.mpr ⟨hw, by unfold vx_no; rw [decide_eq_true e1, decide_eq_true e2, decide_eq_true e3, decide_eq_true e4]; rfl⟩)
/-- where a static field lies, its class's statics cell in H -/
def vx_L (C n d : String) (A : Nat → Prop) (U : State) (H : Heap) : Prop := ∃ (c : ClassId) (k : Class) (i : Nat) (f : Field) (a : Nat) (cell : Cell), U.vm.findClass C = some c ∧ U.fieldFound? C n d = some (c, k, i, f) ∧ f.isStatic = true ∧ k.statics = some a ∧ H[a]? = some cell ∧ cell.vm.isStatics = true ∧ cell.cls = c ∧ f.slot < cell.slots.size ∧ k.staticTypes[f.slot]? = some f.type ∧ ¬ A a
theorem vx_L.moved {C n d : String} {A : Nat → Prop} {u U : State} {H : Heap} (hvm : u.vm.Alike U.vm) (h : vx_L C n d A u H) : vx_L C n d A U H := by
  obtain ⟨c, k, i, f, a, cell, h1, h2, h3, h4, h5, h6, h7, h8, h9, h10⟩ := h
  obtain ⟨k', hi', he⟩ := State.fieldFound?_setVm hvm h2
  exact ⟨c, k', i, f, a, cell, by rw [hvm.findClass]; exact h1, hi', h3, by rw [he]; exact h4, h5, h6, h7, h8, by rw [he]; exact h9, h10⟩
theorem vx_L.kept {C n d : String} {A : Nat → Prop} {U : State} {H H1 : Heap} (h : vx_L C n d A U H) (hq : ∀ a : Nat, a < H.size → ¬ A a → H1[a]? = H[a]?) : vx_L C n d A U H1 := by
  obtain ⟨c, k, i, f, a, cell, h1, h2, h3, h4, h5, h6, h7, h8, h9, h10⟩ := h
  exact ⟨c, k, i, f, a, cell, h1, h2, h3, h4, by rw [hq a (Array.getElem?_eq_some_iff.mp h5).1 h10]; exact h5, h6, h7, h8, h9, h10⟩
theorem vx_L.narrow {C n d : String} {A B : Nat → Prop} {U : State} {H : Heap} (h : vx_L C n d A U H) (hAB : ∀ q, B q → A q) : vx_L C n d B U H := by
  obtain ⟨c, k, i, f, a, cell, h1, h2, h3, h4, h5, h6, h7, h8, h9, h10⟩ := h
  exact ⟨c, k, i, f, a, cell, h1, h2, h3, h4, h5, h6, h7, h8, h9, fun z => h10 (hAB _ z)⟩
theorem vx_L.word {C n d : String} {A : Nat → Prop} {s : State} {args : Array Value} (h : vx_L C n d A s s.heap) : (Cond.laysStatic C n d).before args s = true := by
  obtain ⟨c, k, i, f, a, cell, h1, h2, h3, h4, h5, h6, h7, h8, h9, -⟩ := h
  show (Cond.laysStatic C n d).holds args s none s [] = true
  exact Cond.laysStatic_of h1 h2 h3 h4 h5 h6 h7 h8 h9
/-- .. and what it holds: null or some reference -/
def vx_Zq (C n d : String) (A : Nat → Prop) (U : State) (H : Heap) : Prop := va_Zq C n d A U H ∧ vx_L C n d A U H
theorem vx_Zq.moved {C n d : String} {A : Nat → Prop} {u U : State} {H : Heap} (hvm : u.vm.Alike U.vm) (h : vx_Zq C n d A u H) : vx_Zq C n d A U H := ⟨va_Zq.moved hvm h.1, vx_L.moved hvm h.2⟩
theorem vx_Zq.kept {C n d : String} {A : Nat → Prop} {U : State} {H H1 : Heap} (h : vx_Zq C n d A U H) (hq : ∀ a : Nat, a < H.size → ¬ A a → H1[a]? = H[a]?) : vx_Zq C n d A U H1 := ⟨va_Zq.kept h.1 hq, vx_L.kept h.2 hq⟩
theorem vx_Zq.narrow {C n d : String} {A B : Nat → Prop} {U : State} {H : Heap} (h : vx_Zq C n d A U H) (hAB : ∀ q, B q → A q) : vx_Zq C n d B U H := ⟨va_Zq.narrow h.1 hAB, vx_L.narrow h.2 hAB⟩
theorem vx_Zqof {args : Array Value} {s : State} {C n d : String} {A : Nat → Prop} (hl : (Cond.laysStatic C n d).before args s = true) (hini : (Cond.initialized C).before args s = true) (h : (Cond.isRef (.static C n d)).before args s = true) (hA : ∀ a : Nat, a < s.heap.size → ¬ A a) : vx_Zq C n d A s s.heap := by
  refine ⟨va_Zqof hl hini h hA, ?_⟩
  obtain ⟨c, k, i, f, a, cell, h1, h2, h3, h4, h5, h6, h7, h8, h9⟩ := Cond.laysStatic_spec hl
  exact ⟨c, k, i, f, a, cell, h1, h2, h3, h4, h5, h6, h7, h8, h9, hA a (Array.getElem?_eq_some_iff.mp h5).1⟩
theorem vx_isRef {C n d : String} {v : Value} {A : Nat → Prop} {s : State} {args : Array Value} (h : va_Z C n d v A s s.heap) (hv : v.isRef = true) : (Cond.isRef (.static C n d)).before args s = true := by
  obtain ⟨cf, kf, fi, f, a, cell, h1, h2, h3, h4, h5, h6, h7, -⟩ := h
  have he : (Term.static C n d).eval args s none [] s = some v := by
    simp [Term.eval, State.fieldNamed?, h1, h2, h4, h5, h6, h7]
  simp only [Cond.before, Cond.holds, Cond.value, he]
  cases v <;> simp_all [Value.isRef]
theorem vx_isRefq {C n d : String} {A : Nat → Prop} {s : State} {args : Array Value} (h : va_Zq C n d A s s.heap) : (Cond.isRef (.static C n d)).before args s = true := by
  rcases h with h | ⟨t, h⟩
  · exact vx_isRef h rfl
  · exact vx_isRef h rfl
/-- the same frame, seen from here: as if the method were called anew in this heap -/
theorem vx_rebase {T : State} (X : Stand p l e R s m args below meth c T locs cells slots) {R' : Room} (hf : R'.frames ≤ R.frames) (hl : R'.locals ≤ R.locals) (hc : cells + R'.cells ≤ R.cells) (hs : slots + R'.slots ≤ R.slots) :
    Stand p l e R' ((T.setVm s.vm).setFrames (.invoking m args :: below)) m args below meth c T [] 0 0 := by
  have htop : (T.setVm s.vm).topJava?.isSome := X.here.top
  have hF : ((T.setVm s.vm).setFrames (.invoking m args :: below)).frames = .invoking m args :: below := State.frames_setFrames _ (State.cur_lt_of_top htop)
  obtain ⟨g₀, hg0⟩ := Option.isSome_iff_exists.mp htop
  obtain ⟨r, hr⟩ := State.topJava?_eq_some.mp hg0
  have hl9 : e.platform.stackLimits (T.setVm s.vm).me = e.platform.stackLimits s.me := X.limits
  have hb9 : (T.setVm s.vm).me.stackBytes = s.me.stackBytes := X.bytes
  refine ⟨X.admits, X.cas, X.clock, hF, ?_, X.hears, X.method, X.code, X.here, X.tail, X.warmed, ?_, ?_, ?_⟩
  · have h := X.room
    have hU : ((T.setVm s.vm).setFrames (.invoking m args :: below)).localsInUse = s.localsInUse := by
      rw [State.localsInUse_invoking hF (meth := meth) (c := c) X.method X.code, State.localsInUse_invoking X.frames X.method X.code]
    simp only [State.hasRoom, Bool.and_eq_true, decide_eq_true_eq] at h ⊢
    obtain ⟨⟨⟨⟨h1, h2, h3, h4, h5, h6⟩, h7⟩, h8⟩, h9⟩ := h
    rw [X.frames, List.length_cons] at h2 h3
    have q1 := X.heapSize
    have q2 := X.used
    simp only [hF, hU, List.length_cons, State.stackLimits_setFrames, State.stackBytes_setFrames, hl9, hb9]
    refine ⟨⟨⟨⟨by omega, by omega, by omega, by omega, by omega, h6⟩, ?_⟩, ?_⟩, X.book⟩
    · show T.heap.size + R'.cells ≤ e.platform.maxCells
      omega
    · show T.slotsUsed + R'.slots ≤ e.platform.maxSlots
      omega
  · rw [State.stackLimits_setFrames]; rfl
  · rw [State.stackBytes_setFrames]; rfl
  · refine ⟨?_, Nat.le_refl _, Nat.le_refl _, ?_, ?_, fun a c9 h9 => ⟨c9, h9, rfl, rfl, fun _ _ => rfl⟩⟩
    · obtain ⟨t, ht, -⟩ := State.frames_cons hr
      show T.setVm s.vm = { ((T.setVm s.vm).setFrames (.invoking m args :: below)).setFrames (T.setVm s.vm).frames with heap := T.heap, slotsUsed := T.slotsUsed }
      rw [State.setFrames_setFrames, State.setFrames_self ht]
      rfl
    · show T.slotsUsed = T.slotsUsed + ((T.heap.toList.drop T.heap.size).map (·.slots.size)).sum
      rw [List.drop_eq_nil_of_le (Nat.le_of_eq Array.length_toList)]
      rfl
    · show ((T.heap.toList.drop T.heap.size).map (·.slots.size)).sum ≤ 0
      rw [List.drop_eq_nil_of_le (Nat.le_of_eq Array.length_toList)]
      exact Nat.le_refl _
/-- 'throw new E()': new; dup; invokespecial; athrow -/
theorem vx_throw0 {cc : ByteArray} {pc : Nat} (hexec : p.tables.exec = Jvm.exec) (hb : c.code = cc) (hl : l.stackTraces = false) {own cls : String} {names : List String} {ik ic mc ms : Nat} {A : Nat → Prop}
    (hown : s.vm.findClass own = some m.cls) (hcls : Bundle.fit cls = true) (hnames : ∀ n ∈ names, Bundle.fit n = true)
    (hk : (Cond.classLink own ik cls).before args s = true) (hini : (Cond.initialized cls).before args s = true) (hat : ∀ w ∈ vx_at0 own ic cls names, w.before args s = true)
    (hgood : ∀ w ∈ Cond.classLink own ik cls :: Cond.initialized cls :: vx_at0 own ic cls names, vx_ot w = true)
    (hU : vx_Zq Bundle.tN "UNASSIGNED_STACK" Bundle.steD A s s.heap) (hN : vx_Zq Bundle.tN "SUPPRESSED_SENTINEL" Bundle.listD A s s.heap) (hS : va_S A s.heap H locs) (hsize : ls.size = c.maxLocals)
    (d0 : decode cc pc = .ok (.new ik, 3)) (d3 : decode cc (pc + 3) = .ok (.dup, 1)) (d4 : decode cc (pc + 4) = .ok (.invokespecial ic, 3)) (d7 : decode cc (pc + 7) = .ok (.athrow, 1))
    (hout : ∀ x ∈ c.exceptionTable.toList, covers x (pc + 7) = false)
    (hRframes : names.length + 3 < R.frames) (hRlocals : (rest.map fun v => v.category).sum + (13 * (names.length + 1) + 42) ≤ R.locals) (hRcells : cells + 1 ≤ R.cells) (hRslots : slots + 6 ≤ R.slots) (hlocks : meth.locks = false)
    (hx : ∀ t : State, s.vm.Alike t.vm → H.size ≤ t.heap.size → (∀ q : Nat, q < H.size → t.heap[q]? = H[q]?) → XC cls s t)
    (hf : ∀ z ∈ locs, free z.base) (hc : cells + 1 ≤ mc) (hs : slots + 6 ≤ ms) :
    W p l e R s m args below meth c H locs cells slots (vx_MQ below Qc XC args s mc ms free) (F0 m pc ls rest) := by
  intro T hT X
  have htr : e.platform.stackTraces = false := (show e.platform.stackTraces = l.stackTraces by rw [X.admits.platform]).trans hl
  have Y := vx_rebase X (R' := { frames := R.frames, locals := R.locals, cells := 1, slots := 6 }) (Nat.le_refl _) (Nat.le_refl _) hRcells hRslots
  obtain ⟨s', hA⟩ : ∃ z, z = (T.setVm s.vm).setFrames (.invoking m args :: below) := ⟨_, rfl⟩
  rw [← hA] at Y
  have hvm : s'.vm = s.vm := by rw [hA]; rfl
  have hhp : s'.heap = H := by rw [hA]; exact hT
  have hW0 : s.WarmedH s'.vm := by rw [hvm]; exact State.WarmedH.refl s
  have hat' : ∀ w ∈ vx_at0 own ic cls names, w.before args s' = true := fun w hw => vx_ot_at hW0 hvm.symm (hgood w (List.mem_cons_of_mem _ (List.mem_cons_of_mem _ hw))) (hat w hw)
  have hk' : (Cond.classLink own ik cls).before args s' = true := vx_ot_at hW0 hvm.symm (hgood _ List.mem_cons_self) hk
  have hini' : (Cond.initialized cls).before args s' = true := vx_ot_at hW0 hvm.symm (hgood _ (List.mem_cons_of_mem _ List.mem_cons_self)) hini
  have hU' : vx_Zq Bundle.tN "UNASSIGNED_STACK" Bundle.steD A s' s'.heap := by rw [hhp]; exact vx_Zq.moved hW0.alike (hU.kept hS.2.1)
  have hN' : vx_Zq Bundle.tN "SUPPRESSED_SENTINEL" Bundle.listD A s' s'.heap := by rw [hhp]; exact vx_Zq.moved hW0.alike (hN.kept hS.2.1)
  have h : ∀ w ∈ Bundle.ownAtoms0 own ic cls names, w.before args s' = true := vx_own hat' (vx_isRefq hU'.1) (vx_isRefq hN'.1) hU'.2.word hN'.2.word
  have hown' : s'.vm.findClass own = some m.cls := by rw [hvm]; exact hown
  have hins : (Cond.instantiable cls 6).before args s' = true := h _ (by simp [Bundle.ownAtoms0])
  obtain ⟨vm₁, cX, kX, hfX, hkX, -, -, X₁, st1⟩ := Y.newCold hexec (own := own) (C := cls) (index := ik) (n := 6) hown' hk' hins hini'
    (g := F0 m pc ls rest) rfl (by rw [hb]; exact d0) (Nat.le_refl _) (Nat.le_refl _)
  generalize hT1 : (T.setVm vm₁).pushCell { cls := cX, slots := kX.instanceTypes.map defaultValue, vm := .none } = T1 at X₁ st1
  have hcat : (Value.ref T.heap.size).category = 1 := rfl
  have hcellA : T1.heap[T.heap.size]? = some (freshCell cX kX) := by rw [← hT1]; exact State.heap_pushCell_size _ _
  have d3' : decode c.code (pc + 3) = .ok (.dup, 1) := by rw [hb]; exact d3
  obtain ⟨U, hsteps, hrun, hend, hW, hsame, ce, hce, hO⟩ := X₁.ctorThrow0 hexec htr (own := own) (cls := cls) (names := names) (ic := ic) hown' hcls hnames h (fun x hx => nomatch hx) hfX hkX hcellA (by rw [hhp, hT]; exact Nat.le_refl _)
    (g := { method := m, pc := pc + 4, locals := ls, stack := .ref T.heap.size :: .ref T.heap.size :: rest, locked := none }) rfl hsize rfl rfl (rest := rest) rfl
    (by rw [hb]; exact d4) (by rw [hb]; exact d7) hout hRframes (by simp only [List.map_cons, List.sum_cons, hcat]; omega) hlocks
  obtain ⟨f1, f2⟩ := vx_frame hsame
  rw [hhp] at f1 f2
  have hWs : s.WarmedH U.vm := State.WarmedH.trans hW0 hW
  have hcl : s.vm.findClass cls = some ce.cls := by
    have h9 := hO.cls
    rw [hvm] at h9
    exact h9
  have hall : s.sameButNew ({ U with vm := s.vm } : State) locs mc ms := by
    subst hA
    obtain ⟨e1, e2⟩ := hsame
    rw [State.setFrames_setFrames] at e1
    have h2 : (T.setVm s.vm).sameButNew ({ U with vm := s.vm } : State) [] (0 + 1) (0 + 6) := ⟨e1, e2⟩
    have h3 := X.same.trans h2
    rw [List.append_nil] at h3
    exact h3.mono hc hs
  refine ⟨U, ?_, .threw T.heap.size, hrun, hend, Or.inr ⟨T.heap.size, rfl, cls, ce, locs, hx U hWs.alike f1 (fun q hq => f2 q hq (fun z hz => nomatch hz)), hce, hO.vm, hcl, hWs, hall, hf⟩⟩
  refine st1 _ ?_
  show Steps p.tables e below (T1.setTop { method := m, pc := pc + 3, locals := ls, stack := .ref T.heap.size :: rest, locked := none }) _
  jvm_step X₁.here [X₁.here.top, hexec, d3', Value.category]
  exact hsteps
/-- 'throw new E("text")': new; dup; ldc; invokespecial; athrow -/
theorem vx_throwS {cc : ByteArray} {pc : Nat} (hexec : p.tables.exec = Jvm.exec) (hb : c.code = cc) (hl : l.stackTraces = false) {own cls text : String} {names : List String} {ik is ic mc ms sa : Nat} {A : Nat → Prop}
    (hown : s.vm.findClass own = some m.cls) (hcls : Bundle.fit cls = true) (hnames : ∀ n ∈ names, Bundle.fit n = true)
    (hk : (Cond.classLink own ik cls).before args s = true) (hini : (Cond.initialized cls).before args s = true) (hstr : vk_R own is text sa s) (hat : ∀ w ∈ vx_atS own ic cls names, w.before args s = true)
    (hgood : ∀ w ∈ Cond.classLink own ik cls :: Cond.initialized cls :: vx_atS own ic cls names, vx_ot w = true)
    (hU : vx_Zq Bundle.tN "UNASSIGNED_STACK" Bundle.steD A s s.heap) (hN : vx_Zq Bundle.tN "SUPPRESSED_SENTINEL" Bundle.listD A s s.heap) (hS : va_S A s.heap H locs) (hsize : ls.size = c.maxLocals)
    (d0 : decode cc pc = .ok (.new ik, 3)) (d3 : decode cc (pc + 3) = .ok (.dup, 1)) (d4 : decode cc (pc + 4) = .ok (.ldc is, 2)) (d6 : decode cc (pc + 6) = .ok (.invokespecial ic, 3)) (d9 : decode cc (pc + 9) = .ok (.athrow, 1))
    (hout : ∀ x ∈ c.exceptionTable.toList, covers x (pc + 9) = false)
    (hRframes : names.length + 3 < R.frames) (hRlocals : (rest.map fun v => v.category).sum + (13 * (names.length + 1) + 43) ≤ R.locals) (hRcells : cells + 1 ≤ R.cells) (hRslots : slots + 6 ≤ R.slots) (hlocks : meth.locks = false)
    (hx : ∀ t : State, s.vm.Alike t.vm → H.size ≤ t.heap.size → (∀ q : Nat, q < H.size → t.heap[q]? = H[q]?) → XC cls s t)
    (hf : ∀ z ∈ locs, free z.base) (hc : cells + 1 ≤ mc) (hs : slots + 6 ≤ ms) :
    W p l e R s m args below meth c H locs cells slots (vx_MQ below Qc XC args s mc ms free) (F0 m pc ls rest) := by
  intro T hT X
  have htr : e.platform.stackTraces = false := (show e.platform.stackTraces = l.stackTraces by rw [X.admits.platform]).trans hl
  have Y := vx_rebase X (R' := { frames := R.frames, locals := R.locals, cells := 1, slots := 6 }) (Nat.le_refl _) (Nat.le_refl _) hRcells hRslots
  obtain ⟨s', hA⟩ : ∃ z, z = (T.setVm s.vm).setFrames (.invoking m args :: below) := ⟨_, rfl⟩
  rw [← hA] at Y
  have hvm : s'.vm = s.vm := by rw [hA]; rfl
  have hhp : s'.heap = H := by rw [hA]; exact hT
  have hW0 : s.WarmedH s'.vm := by rw [hvm]; exact State.WarmedH.refl s
  have hat' : ∀ w ∈ vx_atS own ic cls names, w.before args s' = true := fun w hw => vx_ot_at hW0 hvm.symm (hgood w (List.mem_cons_of_mem _ (List.mem_cons_of_mem _ hw))) (hat w hw)
  have hk' : (Cond.classLink own ik cls).before args s' = true := vx_ot_at hW0 hvm.symm (hgood _ List.mem_cons_self) hk
  have hini' : (Cond.initialized cls).before args s' = true := vx_ot_at hW0 hvm.symm (hgood _ (List.mem_cons_of_mem _ List.mem_cons_self)) hini
  have hU' : vx_Zq Bundle.tN "UNASSIGNED_STACK" Bundle.steD A s' s'.heap := by rw [hhp]; exact vx_Zq.moved hW0.alike (hU.kept hS.2.1)
  have hN' : vx_Zq Bundle.tN "SUPPRESSED_SENTINEL" Bundle.listD A s' s'.heap := by rw [hhp]; exact vx_Zq.moved hW0.alike (hN.kept hS.2.1)
  have h : ∀ w ∈ Bundle.ownAtoms own ic cls names, w.before args s' = true := vx_own hat' (vx_isRefq hU'.1) (vx_isRefq hN'.1) hU'.2.word hN'.2.word
  have hown' : s'.vm.findClass own = some m.cls := by rw [hvm]; exact hown
  have hins : (Cond.instantiable cls 6).before args s' = true := h _ (by simp [Bundle.ownAtoms])
  obtain ⟨vm₁, cX, kX, hfX, hkX, -, -, X₁, st1⟩ := Y.newCold hexec (own := own) (C := cls) (index := ik) (n := 6) hown' hk' hins hini'
    (g := F0 m pc ls rest) rfl (by rw [hb]; exact d0) (Nat.le_refl _) (Nat.le_refl _)
  generalize hT1 : (T.setVm vm₁).pushCell { cls := cX, slots := kX.instanceTypes.map defaultValue, vm := .none } = T1 at X₁ st1
  have hcat : (Value.ref T.heap.size).category = 1 := rfl
  have hcellA : T1.heap[T.heap.size]? = some (freshCell cX kX) := by rw [← hT1]; exact State.heap_pushCell_size _ _
  have d3' : decode c.code (pc + 3) = .ok (.dup, 1) := by rw [hb]; exact d3
  have d4' : decode c.code (pc + 4) = .ok (.ldc is, 2) := by rw [hb]; exact d4
  have hstr' : vk_R own is text sa s' := vk_R.warm hW0 hstr
  obtain ⟨U, hsteps, hrun, hend, hW, hsame, ce, hce, hO⟩ := X₁.ctorThrowS hexec htr (own := own) (cls := cls) (names := names) (ic := ic) hown' hcls hnames h (fun x hx => nomatch hx) hfX hkX hcellA (by rw [hhp, hT]; exact Nat.le_refl _) (msg := .ref sa) rfl
    (g := { method := m, pc := pc + 6, locals := ls, stack := .ref sa :: .ref T.heap.size :: .ref T.heap.size :: rest, locked := none }) rfl hsize rfl rfl (rest := rest) rfl
    (by rw [hb]; exact d6) (by rw [hb]; exact d9) hout hRframes (by simp only [List.map_cons, List.sum_cons, hcat]; omega) hlocks
  obtain ⟨f1, f2⟩ := vx_frame hsame
  rw [hhp] at f1 f2
  have hWs : s.WarmedH U.vm := State.WarmedH.trans hW0 hW
  have hcl : s.vm.findClass cls = some ce.cls := by
    have h9 := hO.cls
    rw [hvm] at h9
    exact h9
  have hall : s.sameButNew ({ U with vm := s.vm } : State) locs mc ms := by
    subst hA
    obtain ⟨e1, e2⟩ := hsame
    rw [State.setFrames_setFrames] at e1
    have h2 : (T.setVm s.vm).sameButNew ({ U with vm := s.vm } : State) [] (0 + 1) (0 + 6) := ⟨e1, e2⟩
    have h3 := X.same.trans h2
    rw [List.append_nil] at h3
    exact h3.mono hc hs
  refine ⟨U, ?_, .threw T.heap.size, hrun, hend, Or.inr ⟨T.heap.size, rfl, cls, ce, locs, hx U hWs.alike f1 (fun q hq => f2 q hq (fun z hz => nomatch hz)), hce, hO.vm, hcl, hWs, hall, hf⟩⟩
  refine st1 _ ?_
  show Steps p.tables e below (T1.setTop { method := m, pc := pc + 3, locals := ls, stack := .ref T.heap.size :: rest, locked := none }) _
  jvm_step X₁.here [X₁.here.top, hexec, d3', Value.category]
  exact X₁.ldcString hexec (own := own) (text := text) (index := is) (a := sa) hown' hstr'.1 hstr'.2
    (g := { method := m, pc := pc + 4, locals := ls, stack := .ref T.heap.size :: .ref T.heap.size :: rest, locked := none }) rfl d4' _ hsteps
/-- 'throw new E("text")', the text by a wide index -/
theorem vx_throwSW {cc : ByteArray} {pc : Nat} (hexec : p.tables.exec = Jvm.exec) (hb : c.code = cc) (hl : l.stackTraces = false) {own cls text : String} {names : List String} {ik is ic mc ms sa : Nat} {A : Nat → Prop}
    (hown : s.vm.findClass own = some m.cls) (hcls : Bundle.fit cls = true) (hnames : ∀ n ∈ names, Bundle.fit n = true)
    (hk : (Cond.classLink own ik cls).before args s = true) (hini : (Cond.initialized cls).before args s = true) (hstr : vk_R own is text sa s) (hat : ∀ w ∈ vx_atS own ic cls names, w.before args s = true)
    (hgood : ∀ w ∈ Cond.classLink own ik cls :: Cond.initialized cls :: vx_atS own ic cls names, vx_ot w = true)
    (hU : vx_Zq Bundle.tN "UNASSIGNED_STACK" Bundle.steD A s s.heap) (hN : vx_Zq Bundle.tN "SUPPRESSED_SENTINEL" Bundle.listD A s s.heap) (hS : va_S A s.heap H locs) (hsize : ls.size = c.maxLocals)
    (d0 : decode cc pc = .ok (.new ik, 3)) (d3 : decode cc (pc + 3) = .ok (.dup, 1)) (d4 : decode cc (pc + 4) = .ok (.ldc_w is, 3)) (d7 : decode cc (pc + 7) = .ok (.invokespecial ic, 3)) (d10 : decode cc (pc + 10) = .ok (.athrow, 1))
    (hout : ∀ x ∈ c.exceptionTable.toList, covers x (pc + 10) = false)
    (hRframes : names.length + 3 < R.frames) (hRlocals : (rest.map fun v => v.category).sum + (13 * (names.length + 1) + 43) ≤ R.locals) (hRcells : cells + 1 ≤ R.cells) (hRslots : slots + 6 ≤ R.slots) (hlocks : meth.locks = false)
    (hx : ∀ t : State, s.vm.Alike t.vm → H.size ≤ t.heap.size → (∀ q : Nat, q < H.size → t.heap[q]? = H[q]?) → XC cls s t)
    (hf : ∀ z ∈ locs, free z.base) (hc : cells + 1 ≤ mc) (hs : slots + 6 ≤ ms) :
    W p l e R s m args below meth c H locs cells slots (vx_MQ below Qc XC args s mc ms free) (F0 m pc ls rest) := by
  intro T hT X
  have htr : e.platform.stackTraces = false := (show e.platform.stackTraces = l.stackTraces by rw [X.admits.platform]).trans hl
  have Y := vx_rebase X (R' := { frames := R.frames, locals := R.locals, cells := 1, slots := 6 }) (Nat.le_refl _) (Nat.le_refl _) hRcells hRslots
  obtain ⟨s', hA⟩ : ∃ z, z = (T.setVm s.vm).setFrames (.invoking m args :: below) := ⟨_, rfl⟩
  rw [← hA] at Y
  have hvm : s'.vm = s.vm := by rw [hA]; rfl
  have hhp : s'.heap = H := by rw [hA]; exact hT
  have hW0 : s.WarmedH s'.vm := by rw [hvm]; exact State.WarmedH.refl s
  have hat' : ∀ w ∈ vx_atS own ic cls names, w.before args s' = true := fun w hw => vx_ot_at hW0 hvm.symm (hgood w (List.mem_cons_of_mem _ (List.mem_cons_of_mem _ hw))) (hat w hw)
  have hk' : (Cond.classLink own ik cls).before args s' = true := vx_ot_at hW0 hvm.symm (hgood _ List.mem_cons_self) hk
  have hini' : (Cond.initialized cls).before args s' = true := vx_ot_at hW0 hvm.symm (hgood _ (List.mem_cons_of_mem _ List.mem_cons_self)) hini
  have hU' : vx_Zq Bundle.tN "UNASSIGNED_STACK" Bundle.steD A s' s'.heap := by rw [hhp]; exact vx_Zq.moved hW0.alike (hU.kept hS.2.1)
  have hN' : vx_Zq Bundle.tN "SUPPRESSED_SENTINEL" Bundle.listD A s' s'.heap := by rw [hhp]; exact vx_Zq.moved hW0.alike (hN.kept hS.2.1)
  have h : ∀ w ∈ Bundle.ownAtoms own ic cls names, w.before args s' = true := vx_own hat' (vx_isRefq hU'.1) (vx_isRefq hN'.1) hU'.2.word hN'.2.word
  have hown' : s'.vm.findClass own = some m.cls := by rw [hvm]; exact hown
  have hins : (Cond.instantiable cls 6).before args s' = true := h _ (by simp [Bundle.ownAtoms])
  obtain ⟨vm₁, cX, kX, hfX, hkX, -, -, X₁, st1⟩ := Y.newCold hexec (own := own) (C := cls) (index := ik) (n := 6) hown' hk' hins hini'
    (g := F0 m pc ls rest) rfl (by rw [hb]; exact d0) (Nat.le_refl _) (Nat.le_refl _)
  generalize hT1 : (T.setVm vm₁).pushCell { cls := cX, slots := kX.instanceTypes.map defaultValue, vm := .none } = T1 at X₁ st1
  have hcat : (Value.ref T.heap.size).category = 1 := rfl
  have hcellA : T1.heap[T.heap.size]? = some (freshCell cX kX) := by rw [← hT1]; exact State.heap_pushCell_size _ _
  have d3' : decode c.code (pc + 3) = .ok (.dup, 1) := by rw [hb]; exact d3
  have d4' : decode c.code (pc + 4) = .ok (.ldc_w is, 3) := by rw [hb]; exact d4
  have hstr' : vk_R own is text sa s' := vk_R.warm hW0 hstr
  obtain ⟨U, hsteps, hrun, hend, hW, hsame, ce, hce, hO⟩ := X₁.ctorThrowS hexec htr (own := own) (cls := cls) (names := names) (ic := ic) hown' hcls hnames h (fun x hx => nomatch hx) hfX hkX hcellA (by rw [hhp, hT]; exact Nat.le_refl _) (msg := .ref sa) rfl
    (g := { method := m, pc := pc + 7, locals := ls, stack := .ref sa :: .ref T.heap.size :: .ref T.heap.size :: rest, locked := none }) rfl hsize rfl rfl (rest := rest) rfl
    (by rw [hb]; exact d7) (by rw [hb]; exact d10) hout hRframes (by simp only [List.map_cons, List.sum_cons, hcat]; omega) hlocks
  obtain ⟨f1, f2⟩ := vx_frame hsame
  rw [hhp] at f1 f2
  have hWs : s.WarmedH U.vm := State.WarmedH.trans hW0 hW
  have hcl : s.vm.findClass cls = some ce.cls := by
    have h9 := hO.cls
    rw [hvm] at h9
    exact h9
  have hall : s.sameButNew ({ U with vm := s.vm } : State) locs mc ms := by
    subst hA
    obtain ⟨e1, e2⟩ := hsame
    rw [State.setFrames_setFrames] at e1
    have h2 : (T.setVm s.vm).sameButNew ({ U with vm := s.vm } : State) [] (0 + 1) (0 + 6) := ⟨e1, e2⟩
    have h3 := X.same.trans h2
    rw [List.append_nil] at h3
    exact h3.mono hc hs
  refine ⟨U, ?_, .threw T.heap.size, hrun, hend, Or.inr ⟨T.heap.size, rfl, cls, ce, locs, hx U hWs.alike f1 (fun q hq => f2 q hq (fun z hz => nomatch hz)), hce, hO.vm, hcl, hWs, hall, hf⟩⟩
  refine st1 _ ?_
  show Steps p.tables e below (T1.setTop { method := m, pc := pc + 3, locals := ls, stack := .ref T.heap.size :: rest, locked := none }) _
  jvm_step X₁.here [X₁.here.top, hexec, d3', Value.category]
  exact X₁.ldcStringW hexec (own := own) (text := text) (index := is) (a := sa) hown' hstr'.1 hstr'.2
    (g := { method := m, pc := pc + 4, locals := ls, stack := .ref T.heap.size :: .ref T.heap.size :: rest, locked := none }) rfl d4' _ hsteps
end Ends
section Bodies
variable {l : Launch}
theorem vx_ofW {y : MethodName} {ws ws' : List Cond} {rm : Room} {Pc : Array Value → State → Prop} {Qc : Array Value → State → Outcome → State → Prop} {XC : String → State → State → Prop} {mc ms : Nat} {free : Addr → Prop} {cc : ByteArray} {maxL : Nat} {ret : Option FieldType}
    (hy : plainName y.cls = true) (hw : ws = Cond.code y cc maxL ret :: ws')
    (body : ∀ p e s m args below meth c s₁, BodyLoose p l y (headSpec ws rm) cc maxL ret e s m args below meth c s₁ → c.maxLocals = maxL → (∀ x ∈ c.exceptionTable.toList, False) → Pc args s →
      W p l e (headSpec ws rm).room s m args below meth c s.heap [] 0 0 (vx_MQ below Qc XC args s mc ms free) (entryFrame m args maxL)) : vx_Met l y ws rm Pc Qc XC mc ms free := by
  refine MetFree.of_bodyS (code := cc) (maxLocals := maxL) (ret := ret) hy ?_ ?_
  · intro args s m h hn
    obtain ⟨meth, c, h1, h2, h3, h4, h5, h6, -, -⟩ := Cond.code_spec hn (atoms_spec (ws := ws) h _ (by rw [hw]; exact List.mem_cons_self))
    exact ⟨meth, c, h1, h2, h3, h4, h5, h6⟩
  · intro p e s m args below meth c s₁ B hml hP _
    have hh0 : s₁.heap = s.heap := by rw [B.state]; rfl
    have ht : ∀ x ∈ c.exceptionTable.toList, False := by
      obtain ⟨meth9, c9, h1, h2, -, -, -, -, h7, -⟩ := Cond.code_spec B.named (atoms_spec (ws := ws) B.pre _ (by rw [hw]; exact List.mem_cons_self))
      cases Option.some.inj (h1.symm.trans B.method)
      cases Option.some.inj (h2.symm.trans (Stand.of_body B).code)
      intro x hx
      rw [Array.isEmpty_iff.mp h7] at hx
      cases hx
    obtain ⟨t, a1, o, b1, b2, b3⟩ := body p e s m args below meth c s₁ B hml ht hP s₁ hh0 (Stand.of_body B)
    exact ⟨t, o, a1, b1, b2, b3⟩
/-- the table of a body with handlers -/
theorem vx_table {p : Program} {x y : MethodName} {S : Spec} {cc bytes : ByteArray} {maxL maxL' : Nat} {ret ret' : Option FieldType} {e : Env} {s s₁ : State} {m : MethodId} {args : Array Value} {below : List Frame} {meth : Method} {c : Code} {hh : List (Nat × Nat × Nat × Nat)}
    (B : BodyLoose p l y S cc maxL ret e s m args below meth c s₁) (h : (Cond.codeWith y bytes maxL' ret' hh).before args s = true) : c.exceptionTable.toList = tableOf hh := by
  obtain ⟨m9, meth9, c9, hn9, h1, h2, -, -, h6, -⟩ := Cond.codeWith_spec h
  cases Option.some.inj (hn9.symm.trans B.named)
  cases Option.some.inj (h1.symm.trans B.method)
  cases Option.some.inj (h2.symm.trans (Stand.of_body B).code)
  rw [← h6, table_eq]
end Bodies
end VXA
/-! ===== END ===== -/
/-! ===== BEGIN a static call of a method with an exception table ===== -/
section VXS
variable {p : Program} {l : Launch} {e : Env} {R : Room} {s : State} {m : MethodId} {args : Array Value} {below : List Frame} {meth : Method} {c : Code} {T : State} {H : Heap} {locs : List Loc} {cells slots : Nat}
abbrev vx_CSW (R : Room) (s : State) (args : Array Value) (own : String) (index : Nat) (y : MethodName) (bytes : ByteArray) (maxL : Nat) (ret : Option FieldType) (hh : List (Nat × Nat × Nat × Nat)) (ws : List Cond) (rm : Room) (mc ms n : Nat) : Prop :=
  (rm.cells = mc ∧ rm.slots = ms ∧ rm.frames + 1 ≤ R.frames ∧ 8 + (maxL + 11) + rm.locals ≤ R.locals ∧ (∀ w ∈ ws, ∀ (a' : Array Value) (U : State), s.WarmedH U.vm → w.before a' U = true) ∧ Cond.codeWith y bytes maxL ret hh ∈ ws) ∧
  (Cond.codeWith y bytes maxL ret hh).before args s = true ∧ (Cond.initialized y.cls).before args s = true ∧ (y.cls ≠ "java/lang/invoke/MethodHandle" ∧ y.cls ≠ "java/lang/invoke/VarHandle") ∧
  (∀ sig, parseMethodDescriptor y.desc = some sig → n = sig.parameters.length) ∧ (Cond.methodLink own index y).before args s = true ∧ (Cond.static y).before args s = true
theorem vx_cwSW {own : String} {index maxL mc ms : Nat} {y : MethodName} {bytes : ByteArray} {ret : Option FieldType} {hh : List (Nat × Nat × Nat × Nat)} {Ts ws ws' : List Cond} {rm : Room} (n : Nat) (ht : ∀ w ∈ Ts, w.before args s = true) (hT : GoodIn Ts (va_wsS own index y ws)) (hw : ws = Cond.codeWith y bytes maxL ret hh :: ws') (hrc : rm.cells = mc) (hrs : rm.slots = ms)
    (hd : y.cls ≠ "java/lang/invoke/MethodHandle" ∧ y.cls ≠ "java/lang/invoke/VarHandle" ∧ (parseMethodDescriptor y.desc).map (fun d => d.parameters.length) = some n) (hR : rm.frames + 1 ≤ R.frames ∧ 8 + (maxL + 11) + rm.locals ≤ R.locals) :
    vx_CSW R s args own index y bytes maxL ret hh ws rm mc ms n := by
  have ok : ∀ w ∈ va_wsS own index y ws, w.before args s = true := fun w h => ht w (hT w h).1
  have hG : GoodIn Ts ws := fun w h => hT w (by unfold va_wsS; exact List.mem_append_right _ h)
  have hc : Cond.codeWith y bytes maxL ret hh ∈ ws := by rw [hw]; exact List.mem_cons_self
  refine ⟨⟨hrc, hrs, hR.1, hR.2, pay_in ht hG, hc⟩, ht _ (hG _ hc).1, ok _ (by simp [va_wsS]), ⟨hd.1, hd.2.1⟩, fun sig h => ?_, ok _ (by simp [va_wsS]), ok _ (by simp [va_wsS])⟩
  have h2 := hd.2.2
  rw [h] at h2
  exact (Option.some.inj h2).symm
theorem vx_callSW (X : Stand p l e R s m args below meth c T locs cells slots) (hexec : p.tables.exec = Jvm.exec) {own : String} {index : Nat} {y : MethodName} {bytes : ByteArray} {maxL : Nat} {ret : Option FieldType} {hh : List (Nat × Nat × Nat × Nat)}
    (hown : s.vm.findClass own = some m.cls) (hlink : (Cond.methodLink own index y).before args s = true) (hstat : (Cond.static y).before args s = true) (hinit : (Cond.initialized y.cls).before args s = true)
    (hcode : (Cond.codeWith y bytes maxL ret hh).before args s = true) (hy : y.cls ≠ "java/lang/invoke/MethodHandle" ∧ y.cls ≠ "java/lang/invoke/VarHandle")
    {W9 : Nat} {Pre : Pt → Array Value → Prop} {Post : Pt → Array Value → Option Value → Pt → Prop} (hK : Back l R p e below s args y 3 W9 Pre Post)
    {g : JFrame} (hg : g.method = m) (hsize : g.locals.size = c.maxLocals) {argsL rest : List Value} (hlen : ∀ sig, parseMethodDescriptor y.desc = some sig → argsL.length = sig.parameters.length)
    (hstack : g.stack = argsL.reverse ++ rest) (hW : 2 * g.monitorRoom + (rest.map fun v => v.category).sum ≤ W9) (hdg : decode c.code g.pc = .ok (.invokestatic index, 3))
    (hpre : ∀ vm₁, s.WarmedH vm₁ → Pre ⟨T.setVm vm₁, locs, cells, slots⟩ argsL.toArray) :
    ∃ (v : Option Value) (vm₁ : Vm) (B : Pt), s.WarmedH vm₁ ∧ Stand p l e R s m args below meth c B.U B.locs B.cells B.slots ∧ Post ⟨T.setVm vm₁, locs, cells, slots⟩ argsL.toArray v B ∧
      ∀ target, Steps p.tables e below (B.U.setTop { g with pc := g.pc + 3, stack := v.toList ++ rest }) target → Steps p.tables e below (T.setTop g) target := by
  obtain ⟨mk, methM, cM, hnamed, hmethM, -, -, -, -, -, -, hsigM⟩ := Cond.codeWith_spec hcode
  have hstatic : methM.isStatic = true := Cond.static_spec hnamed hmethM hstat
  obtain ⟨kP, hkP, -⟩ := className_of_methodNamed hnamed
  have hinitP : kP.init = .initialized := Cond.initialized_spec (findClass_of_methodNamed hnamed) hkP hinit
  obtain ⟨vm₁, X₁, hstep₁⟩ := X.invokestatic hexec hown hlink hnamed hmethM hstatic hkP hinitP hy (g := g) hg (argsL := argsL) (rest := rest) (hlen _ hsigM) hstack hdg
  obtain ⟨v, B, X', hpost, hsteps⟩ := hK m meth c ⟨T.setVm vm₁, locs, cells, slots⟩ { g with stack := rest } (.invokestatic index) mk argsL.toArray X₁ hg hsize hdg hW (X₁.named hnamed) (hpre vm₁ X₁.warmed)
  exact ⟨v, vm₁, B, X₁.warmed, X', hpost, fun target h => hstep₁ _ fun acts => by rw [doInvoke_state]; exact hsteps.trans h⟩
theorem vx_runSW {y : MethodName} {bytes cc : ByteArray} {maxL nL mc ms n index : Nat} {ret : Option FieldType} {hh : List (Nat × Nat × Nat × Nat)} {ws : List Cond} {rm : Room} {Pc : Array Value → State → Prop} {Qc : Array Value → State → Outcome → State → Prop} {free : Addr → Prop} {Ts : List Cond} {own : String} {As rest : List Value} {g : JFrame}
    (S : CallFix p m c cc nL s args Ts own) (hM : Met l y ws rm Pc Qc mc ms free) (cw : vx_CSW R s args own index y bytes maxL ret hh ws rm mc ms n) (hp : PreS s H Pc As)
    (hg : g.method = m) (hn : As.length = n) (hsize : g.locals.size = nL) (hstack : g.stack = As.reverse ++ rest) (hW : 2 * g.monitorRoom + (rest.map fun v => v.category).sum ≤ 8) (hdg : decode cc g.pc = .ok (.invokestatic index, 3)) (hf : cells + mc ≤ R.cells ∧ slots + ms ≤ R.slots) :
    va_Run p l e R s m args below meth c H locs cells slots mc ms g rest (Qc As.toArray) (free) := by
  obtain ⟨⟨hrc, hrs, hfr, hlo, hws, hcw⟩, hcode, hini, hy, hlen, hl, hstt⟩ := cw
  have hK : Back l R p e below s args y 3 8 (PreOf R mc ms Pc) (PostOf Qc mc ms free) := va_backW (hh := hh) (bytes := bytes) (maxL := maxL) (ret := ret) hM hp.1 hrc hrs hfr hlo hws hcw (fun a' U hW => word_at hW (Or.inl (by first | rfl | simp [Cond.onTables, Cond.keeps, Cond.steady])) hini)
  obtain ⟨hx, hb, hml, ho, -⟩ := S
  intro T hT X
  obtain ⟨v, vm₁, ⟨U', l2, c2, s2⟩, hW₁, X', ⟨g', mk, t, L, e1, e2, hq, h1, hL, h2, h3⟩, st⟩ := vx_callSW X hx (hh := hh) (bytes := bytes) (maxL := maxL) (ret := ret) ho hl hstt hini hcode hy hK hg (hsize.trans hml.symm) (argsL := As) (rest := rest) (fun sig h => hn.trans (hlen sig h)) hstack hW (by rw [hb]; exact hdg)
    (fun vm₁ hW₁ => ⟨hf.1, hf.2, hp.2 (T.setVm vm₁) hT hW₁⟩)
  dsimp only [Pt.U, Pt.locs, Pt.cells, Pt.slots] at X' e1 e2 h1 h2 h3 st
  subst h1; subst h2; subst h3
  exact ⟨v, (T.setVm vm₁).calling g' mk As.toArray, t, U', L, hT, X', hL, e1, e2, hq, st⟩
/-- not caught here, past rows that name other classes: it goes on to the caller -/
theorem vx_outP {p : Program} {l : Launch} {e : Env} {R : Room} {s : State} {m : MethodId} {args : Array Value} {below : List Frame} {meth : Method} {c : Code} {H : Heap} {locs : List Loc} {cells slots : Nat} {free : Addr → Prop} {ls : Array Slot} {rest : List Value} {Qc : Array Value → State → Outcome → State → Prop} {XC : String → State → State → Prop}
    {pc : Nat} {own E : String} {ce : Cell} {q : Addr} {mc ms : Nat} (hown : s.vm.findClass own = some m.cls) (hlocks : meth.locks = false)
    (hpass : ∀ z ∈ c.exceptionTable.toList, covers z pc = false ∨ (z.catchType ≠ 0 ∧ ∃ nm : String, (Cond.classLink own z.catchType nm).before args s = true ∧ va_Nc E nm s)) (hcell : H[q]? = some ce) (hv : ce.vm = .none) (hcl : s.vm.findClass E = some ce.cls)
    (hx : ∀ t : State, t.heap = H → s.vm.Alike t.vm → XC E s t) (hf : ∀ z ∈ locs, free z.base) (hc : cells ≤ mc) (hs : slots ≤ ms) :
    vx_W p l e R s m args below meth c H locs cells slots (vx_MQ below Qc XC args s mc ms free) (F0 m pc ls rest) q := by
  intro T hT X
  have hpl : e.platform.magicAccessors = ({} : Platform).magicAccessors := by rw [X.admits.platform]
  obtain ⟨vm', hW', X', st⟩ := X.outThrough hlocks q (g := F0 m pc ls rest) rfl rfl rfl (cell := ce) (by rw [hT]; exact hcell) (by rw [hv]; rfl)
    (by obtain ⟨k9, h9, -⟩ := Vm.findClass_spec hcl; exact ⟨k9, h9⟩) (fun z hz => by
      rcases hpass z hz with h | ⟨hz0, nm, hl1, hn1⟩
      · exact Or.inl h
      · obtain ⟨c6, hc6, hcl6⟩ := Cond.classLink_spec hown hl1 e.platform hpl
        obtain ⟨a8, b8, h1, h2, h3⟩ := hn1
        cases Option.some.inj (h1.symm.trans hcl)
        cases Option.some.inj (h2.symm.trans hc6)
        exact Or.inr ⟨hz0, _, hcl6, h3⟩)
  obtain ⟨g₀, hfr⟩ := X'.frames_eq
  have hcell9 : ((T.setVm vm').setFrames (.throwing q :: below)).heap[q]? = some ce := by
    show T.heap[q]? = some ce
    rw [hT]; exact hcell
  have hend : Ended ((T.setVm vm').setFrames (.throwing q :: below)) below (.threw q) := State.frames_setFrames _ (State.cur_lt_of_frames hfr)
  refine ⟨(T.setVm vm').setFrames (.throwing q :: below), ?_, .threw q, X'.here.running, hend, Or.inr ⟨q, rfl, E, ce, locs, hx _ hT (X'.ends _).1.alike, hcell9, hv, hcl, (X'.ends _).1, (X'.ends _).2.mono hc hs, hf⟩⟩
  rw [X.pushThrowing_eq]
  exact st
/-- a thing of a world lies in the heap -/
theorem vx_lt {D : va_G} {cl : List vw_C} {ws : va_W} {H1 : Heap} (h : va_P D cl ws H1) {k : Nat} {q : Nat × va_E} (hk : ws[k]? = some q) : q.1 < H1.size := (h k q hk).lt
end VXS
/-! ===== END ===== -/
/-! ===== BEGIN methods with a table of their own: called by a name, returning or throwing ===== -/
section VXH
/-! vx_backW, vx_callVX, vx_callSX, vx_callVW, vx_runVW, vx_runVX, vx_runSX, vx_ofWH follow the same proofs as their sisters above (Free/Laws.lean, Shelf42/LK1.lean); vx_outP calls Shelf42/NT130.lean (outThrough). -/
section
variable {l : Launch} {R : Room} {p : Program} {e : Env} {below : List Frame} {s : State} {sargs : Array Value} {y : MethodName} {len W9 : Nat}
theorem vx_backW {ws : List Cond} {rm : Room} {Pc : Array Value → State → Prop} {Qc : Array Value → State → Outcome → State → Prop} {XC : String → State → State → Prop} {mc ms : Nat} {free : Addr → Prop} {bytes : ByteArray} {maxL : Nat} {ret : Option FieldType} {hh : List (Nat × Nat × Nat × Nat)}
    (hM : vx_Met l y ws rm Pc Qc XC mc ms free) (hblind : FrameBlind Pc) (hrc : rm.cells = mc) (hrs : rm.slots = ms)
    (hframes : rm.frames + 1 ≤ R.frames) (hlocals : W9 + (maxL + 11) + rm.locals ≤ R.locals)
    (hws : ∀ w ∈ ws, ∀ a' U, s.WarmedH U.vm → w.before a' U = true) (hcode : Cond.codeWith y bytes maxL ret hh ∈ ws) (hinit : ∀ a' U, s.WarmedH U.vm → (Cond.initialized y.cls).before a' U = true) :
    vx_Back l R p e below s sargs y len W9 (PreOf R mc ms Pc) (PostOf Qc mc ms free) (vx_Post XC mc ms free) := by
  intro m meth c A g ig mk a X hg hsize hdg hW hn hp
  have h1 : (headSpec ws rm).pre.before a A.U = true := atoms_intro fun w hw => hws w hw _ _ X.warmed
  have h2 : (Cond.codeWith y bytes maxL ret hh).before a A.U = true := hws _ hcode _ _ X.warmed
  have h3 : (Cond.initialized y.cls).before a A.U = true := hinit _ _ X.warmed
  have h4 : A.cells + (headSpec ws rm).room.cells ≤ R.cells := by rw [show (headSpec ws rm).room.cells = mc from hrc]; exact hp.1
  have h5 : A.slots + (headSpec ws rm).room.slots ≤ R.slots := by rw [show (headSpec ws rm).room.slots = ms from hrs]; exact hp.2.1
  have hPc : Pc a (A.U.calling g mk a) := hblind _ _ _ _ hp.2.2
  obtain ⟨U, Ls, c0, s0⟩ := A
  dsimp only [Pt.U, Pt.locs, Pt.cells, Pt.slots] at h1 h2 h3 h4 h5 X hn hPc ⊢
  obtain ⟨m9, methY, cY, hn9, hmY, hcY, -, hlY, -⟩ := Cond.codeWith_spec h2
  cases Option.some.inj (hn9.symm.trans hn)
  obtain ⟨kY, hkY, -⟩ := className_of_methodNamed hn
  have hinitY : kY.init = .initialized := Cond.initialized_spec (findClass_of_methodNamed hn) hkY h3
  have h : At U g.method c below := by rw [hg]; exact X.here
  have hlocals9 : W9 + (maxL + 11) + (headSpec ws rm).room.locals ≤ R.locals := hlocals
  have happ : (headSpec ws rm).appliesLoose y e.platform (U.calling g mk a) = true :=
    Spec.appliesLoose_calling (g := g) h hdg hn hkY hinitY
      (X.room_calling (g := g) (R' := (headSpec ws rm).room) hsize hmY hcY hframes (by rw [hlY]; omega) h4 h5) h1
  obtain ⟨mid, hmid⟩ := h.above
  have hfr : (U.setTop g).frames = (.java g :: mid) ++ below := by rw [State.frames_setTop' g h.top, hmid]; rfl
  obtain ⟨o, s₂, hsteps, -, hend, hq⟩ := Steps.callFree hM p X.admits X.cas X.clock (acts := []) hfr happ hPc trivial
  have hq' : vx_Q Qc XC mc ms free a (U.calling g mk a) o s₂ := hq
  rw [State.frames_setTop' g h.top] at hend
  obtain ⟨g₀, hg0⟩ := Option.isSome_iff_exists.mp h.top
  obtain ⟨r, hr⟩ := State.topJava?_eq_some.mp hg0
  have hr' : (({ U with heap := s₂.heap, slotsUsed := s₂.slotsUsed } : State).setVm s₂.vm).frames = .java g₀ :: r := hr
  rcases hq' with ⟨hqc, L, hfe, hL⟩ | ⟨q, rfl, E, ce, L, hx, hce, hcv, hcl, hW₂, hsm, hL⟩
  · obtain ⟨⟨v, rfl⟩, hW₂, e2, q2, q3, q4, q5, q6⟩ := id hfe
    have e3 : s₂ = ({ (U.calling g mk a).setFrames s₂.frames with heap := s₂.heap, slotsUsed := s₂.slotsUsed } : State).setVm s₂.vm := by
      have : s₂ = ({ s₂ with vm := (U.calling g mk a).vm } : State).setVm s₂.vm := rfl
      rw [e2] at this
      exact this
    obtain ⟨c₂, i₂, len₂, hc₂, hd₂, hf₂⟩ := hend
    have hW' : U.WarmedH s₂.vm := hW₂
    have hcc : c₂ = c := by
      have h1 : s₂.code? g.method = U.code? g.method := by
        rw [State.code?_eq, State.code?_eq, hW'.alike.method?]
      exact Option.some.inj (hc₂.symm.trans (h1.trans h.code))
    subst hcc
    have hlen : len₂ = len := by rw [hdg] at hd₂; cases hd₂; rfl
    subst hlen
    have hs₂ : s₂ = (({ U with heap := s₂.heap, slotsUsed := s₂.slotsUsed } : State).setVm s₂.vm).setTop { g with pc := g.pc + len₂, stack := v.toList ++ g.stack } := by
      refine e3.trans ?_
      rw [hf₂, State.calling_eq h.top, State.setFrames_setFrames, State.setTop_of_frames _ hr', hr]
      rfl
    have hsame : U.sameButNew ({ U with heap := s₂.heap, slotsUsed := s₂.slotsUsed } : State) L mc ms := by
      refine ⟨?_, q2, q3, q4, q5, q6⟩
      obtain ⟨t, ht, -⟩ := State.frames_cons hr
      show ({ U with heap := s₂.heap, slotsUsed := s₂.slotsUsed } : State) = { U.setFrames U.frames with heap := s₂.heap, slotsUsed := s₂.slotsUsed }
      rw [State.setFrames_self ht]
    subst hg
    refine Or.inl ⟨v, ⟨(({ U with heap := s₂.heap, slotsUsed := s₂.slotsUsed } : State).setVm s₂.vm), Ls ++ L, c0 + mc, s0 + ms⟩,
      ⟨X.admits, X.cas, X.clock, X.frames, X.room, X.hears, X.method, X.code, (X.here.setHeapUsed s₂.heap s₂.slotsUsed).setVm hW'.alike, X.tail, State.WarmedH.trans X.warmed hW', X.limits, X.bytes, X.same.trans (hsame.setVm s.vm)⟩,
      ⟨g, mk, s₂, L, rfl, rfl, hqc, rfl, hL, rfl, rfl⟩, ?_⟩
    show Steps p.tables e below _ ((({ U with heap := s₂.heap, slotsUsed := s₂.slotsUsed } : State).setVm s₂.vm).setTop { g with pc := g.pc + len₂, stack := v.toList ++ g.stack })
    rw [← hs₂]
    exact hsteps
  · obtain ⟨e2, q2, q3, q4, q5, q6⟩ := id hsm
    have e3 : s₂ = ({ (U.calling g mk a).setFrames s₂.frames with heap := s₂.heap, slotsUsed := s₂.slotsUsed } : State).setVm s₂.vm := by
      have : s₂ = ({ s₂ with vm := (U.calling g mk a).vm } : State).setVm s₂.vm := rfl
      rw [e2] at this
      exact this
    have hf₂ : s₂.frames = .throwing q :: .java g :: U.frames.tail := hend
    have hW' : U.WarmedH s₂.vm := hW₂
    have hs₂ : s₂ = ((({ U with heap := s₂.heap, slotsUsed := s₂.slotsUsed } : State).setVm s₂.vm).setTop g).pushFrame (.throwing q) := by
      refine e3.trans ?_
      rw [hf₂, State.calling_eq h.top, State.setFrames_setFrames, State.pushFrame, State.frames_setTop _ hr', State.setTop_of_frames _ hr', State.setFrames_setFrames, hr]
      rfl
    have hsame : U.sameButNew ({ U with heap := s₂.heap, slotsUsed := s₂.slotsUsed } : State) L mc ms := by
      refine ⟨?_, q2, q3, q4, q5, q6⟩
      obtain ⟨t, ht, -⟩ := State.frames_cons hr
      show ({ U with heap := s₂.heap, slotsUsed := s₂.slotsUsed } : State) = { U.setFrames U.frames with heap := s₂.heap, slotsUsed := s₂.slotsUsed }
      rw [State.setFrames_self ht]
    subst hg
    refine Or.inr ⟨q, ⟨(({ U with heap := s₂.heap, slotsUsed := s₂.slotsUsed } : State).setVm s₂.vm), Ls ++ L, c0 + mc, s0 + ms⟩,
      ⟨X.admits, X.cas, X.clock, X.frames, X.room, X.hears, X.method, X.code, (X.here.setHeapUsed s₂.heap s₂.slotsUsed).setVm hW'.alike, X.tail, State.WarmedH.trans X.warmed hW', X.limits, X.bytes, X.same.trans (hsame.setVm s.vm)⟩,
      ⟨g, mk, s₂, L, E, ce, rfl, rfl, hx, hce, hcv, hcl, rfl, hL, rfl, rfl⟩, ?_⟩
    show Steps p.tables e below _ (((({ U with heap := s₂.heap, slotsUsed := s₂.slotsUsed } : State).setVm s₂.vm).setTop g).pushFrame (.throwing q))
    rw [← hs₂]
    exact hsteps
end
variable {p : Program} {l : Launch} {e : Env} {R : Room} {s : State} {m : MethodId} {args : Array Value} {below : List Frame} {meth : Method} {c : Code} {T : State} {H : Heap} {locs : List Loc} {cells slots : Nat}
theorem vx_callVX (X : Stand p l e R s m args below meth c T locs cells slots) (hexec : p.tables.exec = Jvm.exec) {own C : String} {index : Nat} {y : MethodName} {bytes : ByteArray} {maxL : Nat} {ret : Option FieldType} {hh : List (Nat × Nat × Nat × Nat)}
    (hown : s.vm.findClass own = some m.cls) (hlink : (Cond.methodLink own index y).before args s = true) (hinst : (Cond.instanceMethod y).before args s = true) (hsel : (Cond.selects C y y).before args s = true)
    (hcode : (Cond.codeWith y bytes maxL ret hh).before args s = true) (hy : y.cls ≠ "java/lang/invoke/MethodHandle" ∧ y.cls ≠ "java/lang/invoke/VarHandle")
    {W9 : Nat} {Pre : Pt → Array Value → Prop} {Post : Pt → Array Value → Option Value → Pt → Prop} {PostX : Pt → Array Value → Addr → Pt → Prop} (hK : vx_Back l R p e below s args y 3 W9 Pre Post PostX)
    {b : Addr} {cellB : Cell} (hcell : T.heap[b]? = some cellB) (hobj : cellB.vm.isStatics = false) (hcls : s.vm.findClass C = some cellB.cls)
    {g : JFrame} (hg : g.method = m) (hsize : g.locals.size = c.maxLocals) {argsL rest : List Value} (hlen : ∀ sig, parseMethodDescriptor y.desc = some sig → argsL.length = sig.parameters.length)
    (hstack : g.stack = argsL.reverse ++ .ref b :: rest) (hW : 2 * g.monitorRoom + (rest.map fun v => v.category).sum ≤ W9) (hdg : decode c.code g.pc = .ok (.invokevirtual index, 3))
    (hpre : ∀ vm₁, s.WarmedH vm₁ → Pre ⟨T.setVm vm₁, locs, cells, slots⟩ (Value.ref b :: argsL).toArray) :
    (∃ (v : Option Value) (vm₁ : Vm) (B : Pt), s.WarmedH vm₁ ∧ Stand p l e R s m args below meth c B.U B.locs B.cells B.slots ∧ Post ⟨T.setVm vm₁, locs, cells, slots⟩ (Value.ref b :: argsL).toArray v B ∧
      ∀ target, Steps p.tables e below (B.U.setTop { g with pc := g.pc + 3, stack := v.toList ++ rest }) target → Steps p.tables e below (T.setTop g) target) ∨
    (∃ (q : Addr) (vm₁ : Vm) (B : Pt), s.WarmedH vm₁ ∧ Stand p l e R s m args below meth c B.U B.locs B.cells B.slots ∧ PostX ⟨T.setVm vm₁, locs, cells, slots⟩ (Value.ref b :: argsL).toArray q B ∧
      Steps p.tables e below (T.setTop g) ((B.U.setTop { g with stack := rest }).pushFrame (.throwing q))) := by
  obtain ⟨mk, methM, hnamed, hmethM, hstM, habM⟩ := Cond.instanceMethod_spec hinst
  obtain ⟨m8, methM', cM, hn8, hmethM', -, -, -, -, -, -, hsigM⟩ := Cond.codeWith_spec hcode
  cases Option.some.inj (hn8.symm.trans hnamed)
  cases hmethM.symm.trans hmethM'
  obtain ⟨c2, r2, m2, q1, q2, q3, q4, kP, hkP, hkPi⟩ := Cond.selects_spec hsel
  cases hcls.symm.trans q1
  cases (State.methodFound?_of_named hnamed hy).symm.trans q2
  cases hnamed.symm.trans q3
  have hselP : selectMethod e.platform s.vm cellB.cls mk = .method mk := by rw [Launch.admits_selectMethod X.admits]; exact q4
  obtain ⟨vm₁, X₁, hstep₁⟩ := X.invokevirtual hexec hown hlink hnamed hmethM hstM hkP hkPi hy (a := b) (cell := cellB) hcell
    (fun z h => by rw [h] at hobj; cases hobj) hselP hmethM habM hkP hkPi (g := g) hg (argsL := argsL) (rest := rest) (hlen _ hsigM) hstack hdg
  rcases hK m meth c ⟨T.setVm vm₁, locs, cells, slots⟩ { g with stack := rest } (.invokevirtual index) mk (Value.ref b :: argsL).toArray X₁ hg hsize hdg hW (X₁.named hnamed) (hpre vm₁ X₁.warmed) with ⟨v, B, X', hpost, hsteps⟩ | ⟨q, B, X', hpost, hsteps⟩
  · exact Or.inl ⟨v, vm₁, B, X₁.warmed, X', hpost, fun target h => hstep₁ _ fun acts => by rw [doInvoke_state]; exact hsteps.trans h⟩
  · exact Or.inr ⟨q, vm₁, B, X₁.warmed, X', hpost, hstep₁ _ fun acts => by rw [doInvoke_state]; exact hsteps⟩
theorem vx_callSX (X : Stand p l e R s m args below meth c T locs cells slots) (hexec : p.tables.exec = Jvm.exec) {own : String} {index : Nat} {y : MethodName} {bytes : ByteArray} {maxL : Nat} {ret : Option FieldType} {hh : List (Nat × Nat × Nat × Nat)}
    (hown : s.vm.findClass own = some m.cls) (hlink : (Cond.methodLink own index y).before args s = true) (hstat : (Cond.static y).before args s = true) (hinit : (Cond.initialized y.cls).before args s = true)
    (hcode : (Cond.codeWith y bytes maxL ret hh).before args s = true) (hy : y.cls ≠ "java/lang/invoke/MethodHandle" ∧ y.cls ≠ "java/lang/invoke/VarHandle")
    {W9 : Nat} {Pre : Pt → Array Value → Prop} {Post : Pt → Array Value → Option Value → Pt → Prop} {PostX : Pt → Array Value → Addr → Pt → Prop} (hK : vx_Back l R p e below s args y 3 W9 Pre Post PostX)
    {g : JFrame} (hg : g.method = m) (hsize : g.locals.size = c.maxLocals) {argsL rest : List Value} (hlen : ∀ sig, parseMethodDescriptor y.desc = some sig → argsL.length = sig.parameters.length)
    (hstack : g.stack = argsL.reverse ++ rest) (hW : 2 * g.monitorRoom + (rest.map fun v => v.category).sum ≤ W9) (hdg : decode c.code g.pc = .ok (.invokestatic index, 3))
    (hpre : ∀ vm₁, s.WarmedH vm₁ → Pre ⟨T.setVm vm₁, locs, cells, slots⟩ argsL.toArray) :
    (∃ (v : Option Value) (vm₁ : Vm) (B : Pt), s.WarmedH vm₁ ∧ Stand p l e R s m args below meth c B.U B.locs B.cells B.slots ∧ Post ⟨T.setVm vm₁, locs, cells, slots⟩ argsL.toArray v B ∧
      ∀ target, Steps p.tables e below (B.U.setTop { g with pc := g.pc + 3, stack := v.toList ++ rest }) target → Steps p.tables e below (T.setTop g) target) ∨
    (∃ (q : Addr) (vm₁ : Vm) (B : Pt), s.WarmedH vm₁ ∧ Stand p l e R s m args below meth c B.U B.locs B.cells B.slots ∧ PostX ⟨T.setVm vm₁, locs, cells, slots⟩ argsL.toArray q B ∧
      Steps p.tables e below (T.setTop g) ((B.U.setTop { g with stack := rest }).pushFrame (.throwing q))) := by
  obtain ⟨mk, methM, cM, hnamed, hmethM, -, -, -, -, -, -, hsigM⟩ := Cond.codeWith_spec hcode
  have hstatic : methM.isStatic = true := Cond.static_spec hnamed hmethM hstat
  obtain ⟨kP, hkP, -⟩ := className_of_methodNamed hnamed
  have hinitP : kP.init = .initialized := Cond.initialized_spec (findClass_of_methodNamed hnamed) hkP hinit
  obtain ⟨vm₁, X₁, hstep₁⟩ := X.invokestatic hexec hown hlink hnamed hmethM hstatic hkP hinitP hy (g := g) hg (argsL := argsL) (rest := rest) (hlen _ hsigM) hstack hdg
  rcases hK m meth c ⟨T.setVm vm₁, locs, cells, slots⟩ { g with stack := rest } (.invokestatic index) mk argsL.toArray X₁ hg hsize hdg hW (X₁.named hnamed) (hpre vm₁ X₁.warmed) with ⟨v, B, X', hpost, hsteps⟩ | ⟨q, B, X', hpost, hsteps⟩
  · exact Or.inl ⟨v, vm₁, B, X₁.warmed, X', hpost, fun target h => hstep₁ _ fun acts => by rw [doInvoke_state]; exact hsteps.trans h⟩
  · exact Or.inr ⟨q, vm₁, B, X₁.warmed, X', hpost, hstep₁ _ fun acts => by rw [doInvoke_state]; exact hsteps⟩
theorem vx_callVW (X : Stand p l e R s m args below meth c T locs cells slots) (hexec : p.tables.exec = Jvm.exec) {own C : String} {index : Nat} {y : MethodName} {bytes : ByteArray} {maxL : Nat} {ret : Option FieldType} {hh : List (Nat × Nat × Nat × Nat)}
    (hown : s.vm.findClass own = some m.cls) (hlink : (Cond.methodLink own index y).before args s = true) (hinst : (Cond.instanceMethod y).before args s = true) (hsel : (Cond.selects C y y).before args s = true)
    (hcode : (Cond.codeWith y bytes maxL ret hh).before args s = true) (hy : y.cls ≠ "java/lang/invoke/MethodHandle" ∧ y.cls ≠ "java/lang/invoke/VarHandle")
    {W9 : Nat} {Pre : Pt → Array Value → Prop} {Post : Pt → Array Value → Option Value → Pt → Prop} (hK : Back l R p e below s args y 3 W9 Pre Post)
    {b : Addr} {cellB : Cell} (hcell : T.heap[b]? = some cellB) (hobj : cellB.vm.isStatics = false) (hcls : s.vm.findClass C = some cellB.cls)
    {g : JFrame} (hg : g.method = m) (hsize : g.locals.size = c.maxLocals) {argsL rest : List Value} (hlen : ∀ sig, parseMethodDescriptor y.desc = some sig → argsL.length = sig.parameters.length)
    (hstack : g.stack = argsL.reverse ++ .ref b :: rest) (hW : 2 * g.monitorRoom + (rest.map fun v => v.category).sum ≤ W9) (hdg : decode c.code g.pc = .ok (.invokevirtual index, 3))
    (hpre : ∀ vm₁, s.WarmedH vm₁ → Pre ⟨T.setVm vm₁, locs, cells, slots⟩ (Value.ref b :: argsL).toArray) :
    ∃ (v : Option Value) (vm₁ : Vm) (B : Pt), s.WarmedH vm₁ ∧ Stand p l e R s m args below meth c B.U B.locs B.cells B.slots ∧ Post ⟨T.setVm vm₁, locs, cells, slots⟩ (Value.ref b :: argsL).toArray v B ∧
      ∀ target, Steps p.tables e below (B.U.setTop { g with pc := g.pc + 3, stack := v.toList ++ rest }) target → Steps p.tables e below (T.setTop g) target := by
  obtain ⟨mk, methM, hnamed, hmethM, hstM, habM⟩ := Cond.instanceMethod_spec hinst
  obtain ⟨m8, methM', cM, hn8, hmethM', -, -, -, -, -, -, hsigM⟩ := Cond.codeWith_spec hcode
  cases Option.some.inj (hn8.symm.trans hnamed)
  cases hmethM.symm.trans hmethM'
  obtain ⟨c2, r2, m2, q1, q2, q3, q4, kP, hkP, hkPi⟩ := Cond.selects_spec hsel
  cases hcls.symm.trans q1
  cases (State.methodFound?_of_named hnamed hy).symm.trans q2
  cases hnamed.symm.trans q3
  have hselP : selectMethod e.platform s.vm cellB.cls mk = .method mk := by rw [Launch.admits_selectMethod X.admits]; exact q4
  obtain ⟨vm₁, X₁, hstep₁⟩ := X.invokevirtual hexec hown hlink hnamed hmethM hstM hkP hkPi hy (a := b) (cell := cellB) hcell
    (fun z h => by rw [h] at hobj; cases hobj) hselP hmethM habM hkP hkPi (g := g) hg (argsL := argsL) (rest := rest) (hlen _ hsigM) hstack hdg
  obtain ⟨v, B, X', hpost, hsteps⟩ := hK m meth c ⟨T.setVm vm₁, locs, cells, slots⟩ { g with stack := rest } (.invokevirtual index) mk (Value.ref b :: argsL).toArray X₁ hg hsize hdg hW (X₁.named hnamed) (hpre vm₁ X₁.warmed)
  exact ⟨v, vm₁, B, X₁.warmed, X', hpost, fun target h => hstep₁ _ fun acts => by rw [doInvoke_state]; exact hsteps.trans h⟩
abbrev vx_CVW (R : Room) (s : State) (args : Array Value) (own C : String) (index : Nat) (y : MethodName) (bytes : ByteArray) (maxL : Nat) (ret : Option FieldType) (hh : List (Nat × Nat × Nat × Nat)) (ws : List Cond) (rm : Room) (mc ms n : Nat) : Prop :=
  (rm.cells = mc ∧ rm.slots = ms ∧ rm.frames + 1 ≤ R.frames ∧ 8 + (maxL + 11) + rm.locals ≤ R.locals ∧ (∀ w ∈ ws, ∀ (a' : Array Value) (U : State), s.WarmedH U.vm → w.before a' U = true) ∧ Cond.codeWith y bytes maxL ret hh ∈ ws) ∧
  (Cond.codeWith y bytes maxL ret hh).before args s = true ∧ (Cond.initialized y.cls).before args s = true ∧ (y.cls ≠ "java/lang/invoke/MethodHandle" ∧ y.cls ≠ "java/lang/invoke/VarHandle") ∧
  (∀ sig, parseMethodDescriptor y.desc = some sig → n = sig.parameters.length) ∧ (Cond.methodLink own index y).before args s = true ∧ (Cond.instanceMethod y).before args s = true ∧ (Cond.selects C y y).before args s = true
theorem vx_cwVW {own C : String} {index maxL mc ms : Nat} {y : MethodName} {bytes : ByteArray} {ret : Option FieldType} {hh : List (Nat × Nat × Nat × Nat)} {Ts ws ws' : List Cond} {rm : Room} (n : Nat) (ht : ∀ w ∈ Ts, w.before args s = true) (hT : GoodIn Ts (wsV own index C y ws)) (hw : ws = Cond.codeWith y bytes maxL ret hh :: ws') (hrc : rm.cells = mc) (hrs : rm.slots = ms)
    (hd : y.cls = C ∧ y.cls ≠ "java/lang/invoke/MethodHandle" ∧ y.cls ≠ "java/lang/invoke/VarHandle" ∧ (parseMethodDescriptor y.desc).map (fun d => d.parameters.length) = some n) (hR : rm.frames + 1 ≤ R.frames ∧ 8 + (maxL + 11) + rm.locals ≤ R.locals) :
    vx_CVW R s args own C index y bytes maxL ret hh ws rm mc ms n := by
  obtain ⟨hC, hd⟩ := hd
  subst hC
  have ok : ∀ w ∈ wsV own index y.cls y ws, w.before args s = true := fun w h => ht w (hT w h).1
  have hG : GoodIn Ts ws := fun w h => hT w (by unfold wsV; exact List.mem_append_right _ h)
  have hc : Cond.codeWith y bytes maxL ret hh ∈ ws := by rw [hw]; exact List.mem_cons_self
  refine ⟨⟨hrc, hrs, hR.1, hR.2, pay_in ht hG, hc⟩, ht _ (hG _ hc).1, ok _ (by simp [wsV]), ⟨hd.1, hd.2.1⟩, fun sig h => ?_, ok _ (by simp [wsV]), ok _ (by simp [wsV]), ok _ (by simp [wsV])⟩
  have h2 := hd.2.2
  rw [h] at h2
  exact (Option.some.inj h2).symm
theorem vx_runVW {y : MethodName} {bytes cc : ByteArray} {maxL nL mc ms n index : Nat} {ret : Option FieldType} {hh : List (Nat × Nat × Nat × Nat)} {ws : List Cond} {rm : Room} {Pc : Array Value → State → Prop} {Qc : Array Value → State → Outcome → State → Prop} {free : Addr → Prop} {Ts : List Cond} {own C : String} {b : Addr} {As rest : List Value} {g : JFrame}
    (S : CallFix p m c cc nL s args Ts own) (hM : Met l y ws rm Pc Qc mc ms free) (cw : vx_CVW R s args own C index y bytes maxL ret hh ws rm mc ms n) (hp : PreV s H C b Pc As)
    (hg : g.method = m) (hn : As.length = n) (hsize : g.locals.size = nL) (hstack : g.stack = As.reverse ++ .ref b :: rest) (hW : 2 * g.monitorRoom + (rest.map fun v => v.category).sum ≤ 8) (hdg : decode cc g.pc = .ok (.invokevirtual index, 3)) (hf : cells + mc ≤ R.cells ∧ slots + ms ≤ R.slots) :
    va_Run p l e R s m args below meth c H locs cells slots mc ms g rest (Qc (Value.ref b :: As).toArray) free := by
  obtain ⟨⟨hrc, hrs, hfr, hlo, hws, hcw⟩, hcode, hini, hy, hlen, hl, hin, hse⟩ := cw
  have hK : Back l R p e below s args y 3 8 (PreOf R mc ms Pc) (PostOf Qc mc ms free) := va_backW (hh := hh) (bytes := bytes) (maxL := maxL) (ret := ret) hM hp.1 hrc hrs hfr hlo hws hcw (fun a' U hW => word_at hW (Or.inl (by first | rfl | simp [Cond.onTables, Cond.keeps, Cond.steady])) hini)
  obtain ⟨hx, hb, hml, ho, -⟩ := S
  obtain ⟨-, ⟨cellB, hcB, hoB, hclB⟩, hPc⟩ := hp
  intro T hT X
  obtain ⟨v, vm₁, ⟨U', l2, c2, s2⟩, hW₁, X', ⟨g', mk, t, L, e1, e2, hq, h1, hL, h2, h3⟩, st⟩ := vx_callVW X hx (C := C) (hh := hh) (bytes := bytes) (maxL := maxL) (ret := ret) ho hl hin hse hcode hy hK (by rw [hT]; exact hcB) hoB hclB hg (hsize.trans hml.symm) (argsL := As) (rest := rest) (fun sig h => hn.trans (hlen sig h)) hstack hW (by rw [hb]; exact hdg)
    (fun vm₁ hW₁ => ⟨hf.1, hf.2, hPc (T.setVm vm₁) hT hW₁⟩)
  dsimp only [Pt.U, Pt.locs, Pt.cells, Pt.slots] at X' e1 e2 h1 h2 h3 st
  subst h1; subst h2; subst h3
  exact ⟨v, (T.setVm vm₁).calling g' mk (Value.ref b :: As).toArray, t, U', L, hT, X', hL, e1, e2, hq, st⟩
section
variable {y : MethodName} {bytes cc : ByteArray} {maxL nL mc ms n index : Nat} {ret : Option FieldType} {ws : List Cond} {rm : Room} {Pc : Array Value → State → Prop} {Qc : Array Value → State → Outcome → State → Prop} {XC : String → State → State → Prop} {free : Addr → Prop} {Ts : List Cond} {own C : String} {b : Addr} {As rest : List Value} {g : JFrame}
theorem vx_runVX {hh : List (Nat × Nat × Nat × Nat)} (S : CallFix p m c cc nL s args Ts own) (hM : vx_Met l y ws rm Pc Qc XC mc ms free) (cw : vx_CVW R s args own C index y bytes maxL ret hh ws rm mc ms n) (hp : PreV s H C b Pc As)
    (hg : g.method = m) (hn : As.length = n) (hsize : g.locals.size = nL) (hstack : g.stack = As.reverse ++ .ref b :: rest) (hW : 2 * g.monitorRoom + (rest.map fun v => v.category).sum ≤ 8) (hdg : decode cc g.pc = .ok (.invokevirtual index, 3)) (hf : cells + mc ≤ R.cells ∧ slots + ms ≤ R.slots) :
    vx_Run p l e R s m args below meth c H locs cells slots mc ms g rest (Qc (Value.ref b :: As).toArray) XC free := by
  obtain ⟨⟨hrc, hrs, hfr, hlo, hws, hcw⟩, hcode, hini, hy, hlen, hl, hin, hse⟩ := cw
  have hK : vx_Back l R p e below s args y 3 8 (PreOf R mc ms Pc) (PostOf Qc mc ms free) (vx_Post XC mc ms free) := vx_backW (hh := hh) (bytes := bytes) (maxL := maxL) (ret := ret) hM hp.1 hrc hrs hfr hlo hws hcw (fun a' U hW => word_at hW (Or.inl (by first | rfl | simp [Cond.onTables, Cond.keeps, Cond.steady])) hini)
  obtain ⟨hx, hb, hml, ho, -⟩ := S
  obtain ⟨-, ⟨cellB, hcB, hoB, hclB⟩, hPc⟩ := hp
  intro T hT X
  rcases vx_callVX X hx (C := C) (hh := hh) (bytes := bytes) (maxL := maxL) (ret := ret) ho hl hin hse hcode hy hK (by rw [hT]; exact hcB) hoB hclB hg (hsize.trans hml.symm) (argsL := As) (rest := rest) (fun sig h => hn.trans (hlen sig h)) hstack hW (by rw [hb]; exact hdg)
    (fun vm₁ hW₁ => ⟨hf.1, hf.2, hPc (T.setVm vm₁) hT hW₁⟩) with ⟨v, vm₁, ⟨U', l2, c2, s2⟩, hW₁, X', ⟨g', mk, t, L, e1, e2, hq, h1, hL, h2, h3⟩, st⟩ | ⟨q, vm₁, ⟨U', l2, c2, s2⟩, hW₁, X', ⟨g', mk, t, L, E, ce, e1, e2, hq, hce, hcv, hcl, h1, hL, h2, h3⟩, st⟩
  · dsimp only [Pt.U, Pt.locs, Pt.cells, Pt.slots] at X' e1 e2 h1 h2 h3 st
    subst h1; subst h2; subst h3
    exact Or.inl ⟨v, (T.setVm vm₁).calling g' mk (Value.ref b :: As).toArray, t, U', L, hT, X', hL, e1, e2, hq, st⟩
  · dsimp only [Pt.U, Pt.locs, Pt.cells, Pt.slots] at X' e1 e2 h1 h2 h3 st hcl
    subst h1; subst h2; subst h3
    exact Or.inr ⟨q, (T.setVm vm₁).calling g' mk (Value.ref b :: As).toArray, t, U', L, E, ce, hT, X', hL, e1, e2, hq, hce, hcv, vx_cls hW₁ hcl, st⟩
theorem vx_runSX {hh : List (Nat × Nat × Nat × Nat)} (S : CallFix p m c cc nL s args Ts own) (hM : vx_Met l y ws rm Pc Qc XC mc ms free) (cw : vx_CSW R s args own index y bytes maxL ret hh ws rm mc ms n) (hp : PreS s H Pc As)
    (hg : g.method = m) (hn : As.length = n) (hsize : g.locals.size = nL) (hstack : g.stack = As.reverse ++ rest) (hW : 2 * g.monitorRoom + (rest.map fun v => v.category).sum ≤ 8) (hdg : decode cc g.pc = .ok (.invokestatic index, 3)) (hf : cells + mc ≤ R.cells ∧ slots + ms ≤ R.slots) :
    vx_Run p l e R s m args below meth c H locs cells slots mc ms g rest (Qc As.toArray) XC free := by
  obtain ⟨⟨hrc, hrs, hfr, hlo, hws, hcw⟩, hcode, hini, hy, hlen, hl, hstt⟩ := cw
  have hK : vx_Back l R p e below s args y 3 8 (PreOf R mc ms Pc) (PostOf Qc mc ms free) (vx_Post XC mc ms free) := vx_backW (hh := hh) (bytes := bytes) (maxL := maxL) (ret := ret) hM hp.1 hrc hrs hfr hlo hws hcw (fun a' U hW => word_at hW (Or.inl (by first | rfl | simp [Cond.onTables, Cond.keeps, Cond.steady])) hini)
  obtain ⟨hx, hb, hml, ho, -⟩ := S
  intro T hT X
  rcases vx_callSX X hx (hh := hh) (bytes := bytes) (maxL := maxL) (ret := ret) ho hl hstt hini hcode hy hK hg (hsize.trans hml.symm) (argsL := As) (rest := rest) (fun sig h => hn.trans (hlen sig h)) hstack hW (by rw [hb]; exact hdg)
    (fun vm₁ hW₁ => ⟨hf.1, hf.2, hp.2 (T.setVm vm₁) hT hW₁⟩) with ⟨v, vm₁, ⟨U', l2, c2, s2⟩, hW₁, X', ⟨g', mk, t, L, e1, e2, hq, h1, hL, h2, h3⟩, st⟩ | ⟨q, vm₁, ⟨U', l2, c2, s2⟩, hW₁, X', ⟨g', mk, t, L, E, ce, e1, e2, hq, hce, hcv, hcl, h1, hL, h2, h3⟩, st⟩
  · dsimp only [Pt.U, Pt.locs, Pt.cells, Pt.slots] at X' e1 e2 h1 h2 h3 st
    subst h1; subst h2; subst h3
    exact Or.inl ⟨v, (T.setVm vm₁).calling g' mk As.toArray, t, U', L, hT, X', hL, e1, e2, hq, st⟩
  · dsimp only [Pt.U, Pt.locs, Pt.cells, Pt.slots] at X' e1 e2 h1 h2 h3 st hcl
    subst h1; subst h2; subst h3
    exact Or.inr ⟨q, (T.setVm vm₁).calling g' mk As.toArray, t, U', L, E, ce, hT, X', hL, e1, e2, hq, hce, hcv, vx_cls hW₁ hcl, st⟩
end
end VXH
theorem vx_ofWH {l : Launch} {y : MethodName} {ws ws' : List Cond} {rm : Room} {Pc : Array Value → State → Prop} {Qc : Array Value → State → Outcome → State → Prop} {XC : String → State → State → Prop} {mc ms : Nat} {free : Addr → Prop} {cc : ByteArray} {maxL : Nat} {ret : Option FieldType} {hh : List (Nat × Nat × Nat × Nat)}
    (hy : plainName y.cls = true) (hw : ws = Cond.codeWith y cc maxL ret hh :: ws')
    (body : ∀ p e s m args below meth c s₁, BodyLoose p l y (headSpec ws rm) cc maxL ret e s m args below meth c s₁ → c.maxLocals = maxL → Pc args s →
      W p l e (headSpec ws rm).room s m args below meth c s.heap [] 0 0 (vx_MQ below Qc XC args s mc ms free) (entryFrame m args maxL)) : vx_Met l y ws rm Pc Qc XC mc ms free := by
  refine MetFree.of_bodyS (code := cc) (maxLocals := maxL) (ret := ret) hy ?_ ?_
  · intro args s m h hn
    obtain ⟨m9, meth, c, hn9, h1, h2, h3, h4, -, h5, h6, -⟩ := Cond.codeWith_spec (atoms_spec (ws := ws) h _ (by rw [hw]; exact List.mem_cons_self))
    cases hn.symm.trans hn9
    exact ⟨meth, c, h1, h2, h3, h4, h5, h6⟩
  · intro p e s m args below meth c s₁ B hml hP _
    have hh0 : s₁.heap = s.heap := by rw [B.state]; rfl
    obtain ⟨t, a1, o, b1, b2, b3⟩ := body p e s m args below meth c s₁ B hml hP s₁ hh0 (Stand.of_body B)
    exact ⟨t, o, a1, b1, b2, b3⟩
/-! ===== END ===== -/
end
section
def RX0 : String := "MeetingNets$Acts"
def TX0 : u_T := fun k => match k with
  | 0 => ("MeetingNets$Acts", "shelf", "LMeetingNets$Shelf;", true)
  | 1 => ("MeetingNets$Acts", "oldest", "I", false)
  | _ => ("MeetingNets$Acts", "count", "I", false)
def tyX0 : Nat → FieldType := fun k => match k with
  | 0 => .object "MeetingNets$Shelf"
  | 1 => .int
  | _ => .int
abbrev wsX00 : List Cond := u_ws RX0 TX0 3
theorem nmX0 : ∀ a, a < 3 → ∀ b, b < 3 → a ≠ b → (TX0 a).2.1 ≠ (TX0 b).2.1 := by decide +kernel
theorem tyX0_ok : ∀ k, k < 3 → parseFieldDescriptor (TX0 k).2.2.1 = some (tyX0 k) := by decide +kernel
abbrev cX0_init : ByteArray := prog_2_method_1_code
def yX0_init : MethodName := ⟨RX0, "<init>", "()V"⟩
abbrev cX0_size : ByteArray := prog_2_method_2_code
def yX0_size : MethodName := ⟨RX0, "size", "()I"⟩
abbrev cX0_forget : ByteArray := prog_2_method_3_code
def yX0_forget : MethodName := ⟨RX0, "forget", "()V"⟩
abbrev cX0_keep : ByteArray := prog_2_method_4_code
def yX0_keep : MethodName := ⟨RX0, "keep", "(LMeetingNets$Net;)V"⟩
abbrev cX0_takeBack : ByteArray := prog_2_method_5_code
def yX0_takeBack : MethodName := ⟨RX0, "takeBack", "(LMeetingNets$Net;)I"⟩
def RX1 : String := "MeetingNets$Choice"
def TX1 : u_T := fun k => match k with
  | 0 => ("MeetingNets$Choice", "friends", "[I", true)
  | 1 => ("MeetingNets$Choice", "points", "I", false)
  | _ => ("MeetingNets$Choice", "all", "I", false)
def tyX1 : Nat → FieldType := fun k => match k with
  | 0 => .array .int
  | 1 => .int
  | _ => .int
abbrev wsX10 : List Cond := u_ws RX1 TX1 3
theorem nmX1 : ∀ a, a < 3 → ∀ b, b < 3 → a ≠ b → (TX1 a).2.1 ≠ (TX1 b).2.1 := by decide +kernel
theorem tyX1_ok : ∀ k, k < 3 → parseFieldDescriptor (TX1 k).2.2.1 = some (tyX1 k) := by decide +kernel
abbrev cX1_init : ByteArray := prog_3_method_1_code
def yX1_init : MethodName := ⟨RX1, "<init>", "()V"⟩
abbrev cX1_takeTied : ByteArray := prog_3_method_2_code
def yX1_takeTied : MethodName := ⟨RX1, "takeTied", "(LMeetingNets$Net;)V"⟩
abbrev cX1_takeUntied : ByteArray := prog_3_method_3_code
def yX1_takeUntied : MethodName := ⟨RX1, "takeUntied", "(LMeetingNets$Net;)V"⟩
abbrev cX1_most : ByteArray := prog_3_method_4_code
def yX1_most : MethodName := ⟨RX1, "most", "()I"⟩
abbrev cX1_leastSet : ByteArray := prog_3_method_5_code
def yX1_leastSet : MethodName := ⟨RX1, "leastSet", "()I"⟩
abbrev cX1_mostOf : ByteArray := prog_3_method_6_code
def yX1_mostOf : MethodName := ⟨RX1, "mostOf", "([III)I"⟩
def RX2 : String := "MeetingNets$Cover"
def TX2 : u_T := fun k => match k with
  | 0 => ("MeetingNets$Cover", "open", "[I", true)
  | 1 => ("MeetingNets$Cover", "seats", "[I", true)
  | 2 => ("MeetingNets$Cover", "row", "[I", true)
  | 3 => ("MeetingNets$Cover", "first", "[I", true)
  | 4 => ("MeetingNets$Cover", "points", "I", false)
  | 5 => ("MeetingNets$Cover", "size", "I", false)
  | _ => ("MeetingNets$Cover", "found", "I", false)
def tyX2 : Nat → FieldType := fun k => match k with
  | 0 => .array .int
  | 1 => .array .int
  | 2 => .array .int
  | 3 => .array .int
  | 4 => .int
  | 5 => .int
  | _ => .int
abbrev wsX20 : List Cond := u_ws RX2 TX2 7
theorem nmX2 : ∀ a, a < 7 → ∀ b, b < 7 → a ≠ b → (TX2 a).2.1 ≠ (TX2 b).2.1 := by decide +kernel
theorem tyX2_ok : ∀ k, k < 7 → parseFieldDescriptor (TX2 k).2.2.1 = some (tyX2 k) := by decide +kernel
abbrev cX2_init : ByteArray := prog_4_method_1_code
def yX2_init : MethodName := ⟨RX2, "<init>", "()V"⟩
abbrev cX2_found : ByteArray := prog_4_method_2_code
def yX2_found : MethodName := ⟨RX2, "found", "()I"⟩
abbrev cX2_size : ByteArray := prog_4_method_3_code
def yX2_size : MethodName := ⟨RX2, "size", "()I"⟩
abbrev cX2_cliqueAt : ByteArray := prog_4_method_4_code
def yX2_cliqueAt : MethodName := ⟨RX2, "cliqueAt", "(I)I"⟩
abbrev cX2_look : ByteArray := prog_4_method_5_code
def yX2_look : MethodName := ⟨RX2, "look", "(LMeetingNets$Net;)V"⟩
abbrev cX2_seek : ByteArray := prog_4_method_6_code
def yX2_seek : MethodName := ⟨RX2, "seek", "(LMeetingNets$Cover;I)V"⟩
abbrev cX2_firstOpen : ByteArray := prog_4_method_7_code
def yX2_firstOpen : MethodName := ⟨RX2, "firstOpen", "()I"⟩
abbrev cX2_keepRow : ByteArray := prog_4_method_8_code
def yX2_keepRow : MethodName := ⟨RX2, "keepRow", "(I)V"⟩
abbrev cX2_fits : ByteArray := prog_4_method_9_code
def yX2_fits : MethodName := ⟨RX2, "fits", "(I)Z"⟩
abbrev cX2_seat : ByteArray := prog_4_method_10_code
def yX2_seat : MethodName := ⟨RX2, "seat", "(II)V"⟩
abbrev cX2_leadsBack : ByteArray := prog_4_method_11_code
def yX2_leadsBack : MethodName := ⟨RX2, "leadsBack", "()Z"⟩
abbrev cX2_rootPoints : ByteArray := prog_4_method_12_code
def yX2_rootPoints : MethodName := ⟨RX2, "rootPoints", "()I"⟩
abbrev cX2_rootMostLines : ByteArray := prog_4_method_13_code
def yX2_rootMostLines : MethodName := ⟨RX2, "rootMostLines", "()I"⟩
abbrev cX2_rootEnd : ByteArray := prog_4_method_14_code
def yX2_rootEnd : MethodName := ⟨RX2, "rootEnd", "(II)I"⟩
abbrev cX2_writeRoot : ByteArray := prog_4_method_15_code
def yX2_writeRoot : MethodName := ⟨RX2, "writeRoot", "(LMeetingNets$Net;)V"⟩
abbrev cX2_cliquesOf : ByteArray := prog_4_method_16_code
def yX2_cliquesOf : MethodName := ⟨RX2, "cliquesOf", "(I)I"⟩
abbrev cX2_numberAhead : ByteArray := prog_4_method_17_code
def yX2_numberAhead : MethodName := ⟨RX2, "numberAhead", "(I)I"⟩
def RX3 : String := "MeetingNets$Net"
def TX3 : u_T := fun k => match k with
  | 0 => ("MeetingNets$Net", "points", "I", false)
  | _ => ("MeetingNets$Net", "ties", "[I", true)
def tyX3 : Nat → FieldType := fun k => match k with
  | 0 => .int
  | _ => .array .int
abbrev wsX30 : List Cond := u_ws RX3 TX3 2
theorem nmX3 : ∀ a, a < 2 → ∀ b, b < 2 → a ≠ b → (TX3 a).2.1 ≠ (TX3 b).2.1 := by decide +kernel
theorem tyX3_ok : ∀ k, k < 2 → parseFieldDescriptor (TX3 k).2.2.1 = some (tyX3 k) := by decide +kernel
abbrev cX3_init : ByteArray := prog_5_method_1_code
def yX3_init : MethodName := ⟨RX3, "<init>", "()V"⟩
abbrev cX3_size : ByteArray := prog_5_method_2_code
def yX3_size : MethodName := ⟨RX3, "size", "()I"⟩
abbrev cX3_all : ByteArray := prog_5_method_3_code
def yX3_all : MethodName := ⟨RX3, "all", "()I"⟩
abbrev cX3_holds : ByteArray := prog_5_method_4_code
def yX3_holds : MethodName := ⟨RX3, "holds", "(I)Z"⟩
abbrev cX3_holdsPair : ByteArray := prog_5_method_5_code
def yX3_holdsPair : MethodName := ⟨RX3, "holdsPair", "(II)Z"⟩
abbrev cX3_mayAdd : ByteArray := prog_5_method_6_code
def yX3_mayAdd : MethodName := ⟨RX3, "mayAdd", "(I)Z"⟩
abbrev cX3_tiesOf : ByteArray := prog_5_method_7_code
def yX3_tiesOf : MethodName := ⟨RX3, "tiesOf", "(I)I"⟩
abbrev cX3_tied : ByteArray := prog_5_method_8_code
def yX3_tied : MethodName := ⟨RX3, "tied", "(II)Z"⟩
abbrev cX3_equalTo : ByteArray := prog_5_method_9_code
def yX3_equalTo : MethodName := ⟨RX3, "equalTo", "(LMeetingNets$Net;)Z"⟩
abbrev cX3_clear : ByteArray := prog_5_method_10_code
def yX3_clear : MethodName := ⟨RX3, "clear", "(I)V"⟩
abbrev cX3_copy : ByteArray := prog_5_method_11_code
def yX3_copy : MethodName := ⟨RX3, "copy", "(LMeetingNets$Net;)V"⟩
abbrev cX3_setTies : ByteArray := prog_5_method_12_code
def yX3_setTies : MethodName := ⟨RX3, "setTies", "(II)V"⟩
abbrev cX3_flip : ByteArray := prog_5_method_13_code
def yX3_flip : MethodName := ⟨RX3, "flip", "(II)V"⟩
abbrev cX3_add : ByteArray := prog_5_method_14_code
def yX3_add : MethodName := ⟨RX3, "add", "(I)V"⟩
abbrev cX3_drop : ByteArray := prog_5_method_15_code
def yX3_drop : MethodName := ⟨RX3, "drop", "(I)V"⟩
abbrev cX3_lines : ByteArray := prog_5_method_16_code
def yX3_lines : MethodName := ⟨RX3, "lines", "()I"⟩
abbrev cX3_mostLines : ByteArray := prog_5_method_17_code
def yX3_mostLines : MethodName := ⟨RX3, "mostLines", "()I"⟩
abbrev cX3_parts : ByteArray := prog_5_method_18_code
def yX3_parts : MethodName := ⟨RX3, "parts", "()I"⟩
abbrev cX3_reach : ByteArray := prog_5_method_19_code
def yX3_reach : MethodName := ⟨RX3, "reach", "(I)I"⟩
abbrev cX3_endsOf : ByteArray := prog_5_method_20_code
def yX3_endsOf : MethodName := ⟨RX3, "endsOf", "(I)I"⟩
abbrev cX3_becomeMeetingOf : ByteArray := prog_5_method_21_code
def yX3_becomeMeetingOf : MethodName := ⟨RX3, "becomeMeetingOf", "(LMeetingNets$Net;)V"⟩
abbrev cX3_isOdd : ByteArray := prog_5_method_22_code
def yX3_isOdd : MethodName := ⟨RX3, "isOdd", "(III)Z"⟩
abbrev cX3_triangles : ByteArray := prog_5_method_23_code
def yX3_triangles : MethodName := ⟨RX3, "triangles", "(Z)I"⟩
abbrev cX3_claws : ByteArray := prog_5_method_24_code
def yX3_claws : MethodName := ⟨RX3, "claws", "()I"⟩
abbrev cX3_leastClaw : ByteArray := prog_5_method_25_code
def yX3_leastClaw : MethodName := ⟨RX3, "leastClaw", "()I"⟩
abbrev cX3_clawEnds : ByteArray := prog_5_method_26_code
def yX3_clawEnds : MethodName := ⟨RX3, "clawEnds", "(III)I"⟩
abbrev cX3_hasCover : ByteArray := prog_5_method_27_code
def yX3_hasCover : MethodName := ⟨RX3, "hasCover", "(I)Z"⟩
abbrev cX3_hasClaw : ByteArray := prog_5_method_28_code
def yX3_hasClaw : MethodName := ⟨RX3, "hasClaw", "(I)Z"⟩
abbrev cX3_hasThreeUntied : ByteArray := prog_5_method_29_code
def yX3_hasThreeUntied : MethodName := ⟨RX3, "hasThreeUntied", "(I)Z"⟩
abbrev cX3_hasOddPair : ByteArray := prog_5_method_30_code
def yX3_hasOddPair : MethodName := ⟨RX3, "hasOddPair", "(I)Z"⟩
abbrev cX3_oddTips : ByteArray := prog_5_method_31_code
def yX3_oddTips : MethodName := ⟨RX3, "oddTips", "(III)I"⟩
def RX4 : String := "MeetingNets$Palette"
def TX4 : u_T := fun k => match k with
  | 0 => ("MeetingNets$Palette", "colours", "[I", true)
  | _ => ("MeetingNets$Palette", "wearers", "[I", true)
def tyX4 : Nat → FieldType := fun k => match k with
  | 0 => .array .int
  | _ => .array .int
abbrev wsX40 : List Cond := u_ws RX4 TX4 2
theorem nmX4 : ∀ a, a < 2 → ∀ b, b < 2 → a ≠ b → (TX4 a).2.1 ≠ (TX4 b).2.1 := by decide +kernel
theorem tyX4_ok : ∀ k, k < 2 → parseFieldDescriptor (TX4 k).2.2.1 = some (tyX4 k) := by decide +kernel
abbrev cX4_init : ByteArray := prog_6_method_1_code
def yX4_init : MethodName := ⟨RX4, "<init>", "()V"⟩
abbrev cX4_colourOf : ByteArray := prog_6_method_2_code
def yX4_colourOf : MethodName := ⟨RX4, "colourOf", "(I)I"⟩
abbrev cX4_paint : ByteArray := prog_6_method_3_code
def yX4_paint : MethodName := ⟨RX4, "paint", "(LMeetingNets$Net;LMeetingNets$Choice;)I"⟩
abbrev cX4_clear : ByteArray := prog_6_method_4_code
def yX4_clear : MethodName := ⟨RX4, "clear", "()V"⟩
abbrev cX4_fill : ByteArray := prog_6_method_5_code
def yX4_fill : MethodName := ⟨RX4, "fill", "(LMeetingNets$Palette;LMeetingNets$Net;III)Z"⟩
def RX5 : String := "MeetingNets$Proof"
def TX5 : u_T := fun k => match k with
  | 0 => ("MeetingNets$Proof", "seen", "LMeetingNets$Net;", true)
  | 1 => ("MeetingNets$Proof", "coverless", "[I", true)
  | 2 => ("MeetingNets$Proof", "blames", "[I", true)
  | 3 => ("MeetingNets$Proof", "many", "I", false)
  | _ => ("MeetingNets$Proof", "least", "I", false)
def tyX5 : Nat → FieldType := fun k => match k with
  | 0 => .object "MeetingNets$Net"
  | 1 => .array .int
  | 2 => .array .int
  | 3 => .int
  | _ => .int
abbrev wsX50 : List Cond := u_ws RX5 TX5 5
theorem nmX5 : ∀ a, a < 5 → ∀ b, b < 5 → a ≠ b → (TX5 a).2.1 ≠ (TX5 b).2.1 := by decide +kernel
theorem tyX5_ok : ∀ k, k < 5 → parseFieldDescriptor (TX5 k).2.2.1 = some (tyX5 k) := by decide +kernel
abbrev cX5_init : ByteArray := prog_7_method_1_code
def yX5_init : MethodName := ⟨RX5, "<init>", "()V"⟩
abbrev cX5_many : ByteArray := prog_7_method_2_code
def yX5_many : MethodName := ⟨RX5, "many", "()I"⟩
abbrev cX5_least : ByteArray := prog_7_method_3_code
def yX5_least : MethodName := ⟨RX5, "least", "()I"⟩
abbrev cX5_blame : ByteArray := prog_7_method_4_code
def yX5_blame : MethodName := ⟨RX5, "blame", "(I)I"⟩
abbrev cX5_look : ByteArray := prog_7_method_5_code
def yX5_look : MethodName := ⟨RX5, "look", "(LMeetingNets$Net;)V"⟩
abbrev cX5_forget : ByteArray := prog_7_method_6_code
def yX5_forget : MethodName := ⟨RX5, "forget", "()V"⟩
abbrev cX5_weigh : ByteArray := prog_7_method_7_code
def yX5_weigh : MethodName := ⟨RX5, "weigh", "(II)V"⟩
abbrev cX5_hasCoverlessWithin : ByteArray := prog_7_method_8_code
def yX5_hasCoverlessWithin : MethodName := ⟨RX5, "hasCoverlessWithin", "(I)Z"⟩
abbrev cX5_note : ByteArray := prog_7_method_9_code
def yX5_note : MethodName := ⟨RX5, "note", "(II)V"⟩
def RX6 : String := "MeetingNets$Reader"
def TX6 : u_T := fun k => match k with
  | 0 => ("MeetingNets$Reader", "draft", "LMeetingNets$Net;", true)
  | 1 => ("MeetingNets$Reader", "names", "[J", true)
  | 2 => ("MeetingNets$Reader", "kind", "I", false)
  | 3 => ("MeetingNets$Reader", "rows", "I", false)
  | 4 => ("MeetingNets$Reader", "awaited", "I", false)
  | 5 => ("MeetingNets$Reader", "firstPoint", "I", false)
  | 6 => ("MeetingNets$Reader", "token", "I", false)
  | 7 => ("MeetingNets$Reader", "word", "J", false)
  | _ => ("MeetingNets$Reader", "after", "I", false)
def tyX6 : Nat → FieldType := fun k => match k with
  | 0 => .object "MeetingNets$Net"
  | 1 => .array .long
  | 2 => .int
  | 3 => .int
  | 4 => .int
  | 5 => .int
  | 6 => .int
  | 7 => .long
  | _ => .int
abbrev wsX60 : List Cond := u_ws RX6 TX6 9
theorem nmX6 : ∀ a, a < 9 → ∀ b, b < 9 → a ≠ b → (TX6 a).2.1 ≠ (TX6 b).2.1 := by decide +kernel
theorem tyX6_ok : ∀ k, k < 9 → parseFieldDescriptor (TX6 k).2.2.1 = some (tyX6 k) := by decide +kernel
abbrev cX6_init : ByteArray := prog_8_method_1_code
def yX6_init : MethodName := ⟨RX6, "<init>", "()V"⟩
abbrev cX6_draft : ByteArray := prog_8_method_2_code
def yX6_draft : MethodName := ⟨RX6, "draft", "()LMeetingNets$Net;"⟩
abbrev cX6_kind : ByteArray := prog_8_method_3_code
def yX6_kind : MethodName := ⟨RX6, "kind", "()I"⟩
abbrev cX6_read : ByteArray := prog_8_method_4_code
def yX6_read : MethodName := ⟨RX6, "read", "(LMeetingNets$Tape;)I"⟩
abbrev cX6_scan : ByteArray := prog_8_method_5_code
def yX6_scan : MethodName := ⟨RX6, "scan", "(LMeetingNets$Tape;I)V"⟩
abbrev cX6_take : ByteArray := prog_8_method_6_code
def yX6_take : MethodName := ⟨RX6, "take", "()I"⟩
abbrev cX6_takeSign : ByteArray := prog_8_method_7_code
def yX6_takeSign : MethodName := ⟨RX6, "takeSign", "()I"⟩
abbrev cX6_takeRowWord : ByteArray := prog_8_method_8_code
def yX6_takeRowWord : MethodName := ⟨RX6, "takeRowWord", "()I"⟩
abbrev cX6_takeName : ByteArray := prog_8_method_9_code
def yX6_takeName : MethodName := ⟨RX6, "takeName", "()I"⟩
abbrev cX6_takePoint : ByteArray := prog_8_method_10_code
def yX6_takePoint : MethodName := ⟨RX6, "takePoint", "()I"⟩
abbrev cX6_toldAs : ByteArray := prog_8_method_11_code
def yX6_toldAs : MethodName := ⟨RX6, "toldAs", "()I"⟩
def RX7 : String := "MeetingNets$Shelf"
def TX7 : u_T := fun k => match k with
  | _ => ("MeetingNets$Shelf", "cells", "[I", true)
def tyX7 : Nat → FieldType := fun k => match k with
  | _ => .array .int
abbrev wsX70 : List Cond := u_ws RX7 TX7 1
theorem nmX7 : ∀ a, a < 1 → ∀ b, b < 1 → a ≠ b → (TX7 a).2.1 ≠ (TX7 b).2.1 := by decide +kernel
theorem tyX7_ok : ∀ k, k < 1 → parseFieldDescriptor (TX7 k).2.2.1 = some (tyX7 k) := by decide +kernel
abbrev cX7_init : ByteArray := prog_9_method_1_code
def yX7_init : MethodName := ⟨RX7, "<init>", "()V"⟩
abbrev cX7_save : ByteArray := prog_9_method_2_code
def yX7_save : MethodName := ⟨RX7, "save", "(ILMeetingNets$Net;)V"⟩
abbrev cX7_load : ByteArray := prog_9_method_3_code
def yX7_load : MethodName := ⟨RX7, "load", "(ILMeetingNets$Net;)V"⟩
def RX8 : String := "MeetingNets$Tape"
def TX8 : u_T := fun k => match k with
  | 0 => ("MeetingNets$Tape", "count", "I", false)
  | _ => ("MeetingNets$Tape", "bytes", "[I", true)
def tyX8 : Nat → FieldType := fun k => match k with
  | 0 => .int
  | _ => .array .int
abbrev wsX80 : List Cond := u_ws RX8 TX8 2
theorem nmX8 : ∀ a, a < 2 → ∀ b, b < 2 → a ≠ b → (TX8 a).2.1 ≠ (TX8 b).2.1 := by decide +kernel
theorem tyX8_ok : ∀ k, k < 2 → parseFieldDescriptor (TX8 k).2.2.1 = some (tyX8 k) := by decide +kernel
abbrev cX8_init : ByteArray := prog_10_method_1_code
def yX8_init : MethodName := ⟨RX8, "<init>", "()V"⟩
abbrev cX8_size : ByteArray := prog_10_method_2_code
def yX8_size : MethodName := ⟨RX8, "size", "()I"⟩
abbrev cX8_byteAt : ByteArray := prog_10_method_3_code
def yX8_byteAt : MethodName := ⟨RX8, "byteAt", "(I)I"⟩
abbrev cX8_addFour : ByteArray := prog_10_method_4_code
def yX8_addFour : MethodName := ⟨RX8, "addFour", "(I)V"⟩
abbrev cX8_cut : ByteArray := prog_10_method_5_code
def yX8_cut : MethodName := ⟨RX8, "cut", "(I)Z"⟩
abbrev cX8_pastBlanks : ByteArray := prog_10_method_6_code
def yX8_pastBlanks : MethodName := ⟨RX8, "pastBlanks", "(I)I"⟩
abbrev cX8_isLetter : ByteArray := prog_10_method_7_code
def yX8_isLetter : MethodName := ⟨RX8, "isLetter", "(I)Z"⟩
abbrev cX8_pastLetters : ByteArray := prog_10_method_8_code
def yX8_pastLetters : MethodName := ⟨RX8, "pastLetters", "(I)I"⟩
def RX9 : String := "MeetingNets"
def TX9 : u_T := fun k => match k with
  | 0 => ("MeetingNets", "here", "LMeetingNets$Net;", true)
  | 1 => ("MeetingNets", "trial", "LMeetingNets$Net;", true)
  | 2 => ("MeetingNets", "tape", "LMeetingNets$Tape;", true)
  | 3 => ("MeetingNets", "reader", "LMeetingNets$Reader;", true)
  | 4 => ("MeetingNets", "cover", "LMeetingNets$Cover;", true)
  | 5 => ("MeetingNets", "proof", "LMeetingNets$Proof;", true)
  | 6 => ("MeetingNets", "palette", "LMeetingNets$Palette;", true)
  | 7 => ("MeetingNets", "choice", "LMeetingNets$Choice;", true)
  | 8 => ("MeetingNets", "acts", "LMeetingNets$Acts;", true)
  | 9 => ("MeetingNets", "places", "LMeetingNets$Shelf;", true)
  | 10 => ("MeetingNets", "placesFilled", "I", false)
  | 11 => ("MeetingNets", "faultKind", "I", false)
  | _ => ("MeetingNets", "seedNow", "I", false)
def tyX9 : Nat → FieldType := fun k => match k with
  | 0 => .object "MeetingNets$Net"
  | 1 => .object "MeetingNets$Net"
  | 2 => .object "MeetingNets$Tape"
  | 3 => .object "MeetingNets$Reader"
  | 4 => .object "MeetingNets$Cover"
  | 5 => .object "MeetingNets$Proof"
  | 6 => .object "MeetingNets$Palette"
  | 7 => .object "MeetingNets$Choice"
  | 8 => .object "MeetingNets$Acts"
  | 9 => .object "MeetingNets$Shelf"
  | 10 => .int
  | 11 => .int
  | _ => .int
abbrev wsX90 : List Cond := u_ws RX9 TX9 13
theorem nmX9 : ∀ a, a < 13 → ∀ b, b < 13 → a ≠ b → (TX9 a).2.1 ≠ (TX9 b).2.1 := by decide +kernel
theorem tyX9_ok : ∀ k, k < 13 → parseFieldDescriptor (TX9 k).2.2.1 = some (tyX9 k) := by decide +kernel
abbrev cX9_init : ByteArray := prog_1_method_1_code
def yX9_init : MethodName := ⟨RX9, "<init>", "()V"⟩
abbrev cX9_feed : ByteArray := prog_1_method_2_code
def yX9_feed : MethodName := ⟨RX9, "feed", "(IIIII)I"⟩
abbrev cX9_end : ByteArray := prog_1_method_3_code
def yX9_end : MethodName := ⟨RX9, "end", "(I)Z"⟩
abbrev cX9_net : ByteArray := prog_1_method_4_code
def yX9_net : MethodName := ⟨RX9, "net", "()I"⟩
abbrev cX9_fault : ByteArray := prog_1_method_5_code
def yX9_fault : MethodName := ⟨RX9, "fault", "()I"⟩
abbrev cX9_now : ByteArray := prog_1_method_6_code
def yX9_now : MethodName := ⟨RX9, "now", "(I)I"⟩
abbrev cX9_near : ByteArray := prog_1_method_7_code
def yX9_near : MethodName := ⟨RX9, "near", "(I)I"⟩
abbrev cX9_line : ByteArray := prog_1_method_8_code
def yX9_line : MethodName := ⟨RX9, "line", "(II)I"⟩
abbrev cX9_odd : ByteArray := prog_1_method_9_code
def yX9_odd : MethodName := ⟨RX9, "odd", "(III)I"⟩
abbrev cX9_claw : ByteArray := prog_1_method_10_code
def yX9_claw : MethodName := ⟨RX9, "claw", "()I"⟩
abbrev cX9_tie : ByteArray := prog_1_method_11_code
def yX9_tie : MethodName := ⟨RX9, "tie", "(II)I"⟩
abbrev cX9_part : ByteArray := prog_1_method_12_code
def yX9_part : MethodName := ⟨RX9, "part", "(II)I"⟩
abbrev cX9_come : ByteArray := prog_1_method_13_code
def yX9_come : MethodName := ⟨RX9, "come", "(I)I"⟩
abbrev cX9_go : ByteArray := prog_1_method_14_code
def yX9_go : MethodName := ⟨RX9, "go", "(I)I"⟩
abbrev cX9_meet : ByteArray := prog_1_method_15_code
def yX9_meet : MethodName := ⟨RX9, "meet", "()I"⟩
abbrev cX9_back : ByteArray := prog_1_method_16_code
def yX9_back : MethodName := ⟨RX9, "back", "()I"⟩
abbrev cX9_drawn : ByteArray := prog_1_method_17_code
def yX9_drawn : MethodName := ⟨RX9, "drawn", "(II)I"⟩
abbrev cX9_undo : ByteArray := prog_1_method_18_code
def yX9_undo : MethodName := ⟨RX9, "undo", "()I"⟩
abbrev cX9_image : ByteArray := prog_1_method_19_code
def yX9_image : MethodName := ⟨RX9, "image", "(I)Z"⟩
abbrev cX9_restore : ByteArray := prog_1_method_20_code
def yX9_restore : MethodName := ⟨RX9, "restore", "(I)Z"⟩
abbrev cX9_covers : ByteArray := prog_1_method_21_code
def yX9_covers : MethodName := ⟨RX9, "covers", "()I"⟩
abbrev cX9_cliques : ByteArray := prog_1_method_22_code
def yX9_cliques : MethodName := ⟨RX9, "cliques", "()I"⟩
abbrev cX9_clique : ByteArray := prog_1_method_23_code
def yX9_clique : MethodName := ⟨RX9, "clique", "(I)I"⟩
abbrev cX9_root : ByteArray := prog_1_method_24_code
def yX9_root : MethodName := ⟨RX9, "root", "(I)I"⟩
abbrev cX9_rootLine : ByteArray := prog_1_method_25_code
def yX9_rootLine : MethodName := ⟨RX9, "rootLine", "(II)I"⟩
abbrev cX9_piece : ByteArray := prog_1_method_26_code
def yX9_piece : MethodName := ⟨RX9, "piece", "()I"⟩
abbrev cX9_pieces : ByteArray := prog_1_method_27_code
def yX9_pieces : MethodName := ⟨RX9, "pieces", "()I"⟩
abbrev cX9_blamed : ByteArray := prog_1_method_28_code
def yX9_blamed : MethodName := ⟨RX9, "blamed", "(I)I"⟩
abbrev cX9_depth : ByteArray := prog_1_method_29_code
def yX9_depth : MethodName := ⟨RX9, "depth", "()I"⟩
abbrev cX9_mending : ByteArray := prog_1_method_30_code
def yX9_mending : MethodName := ⟨RX9, "mending", "(I)I"⟩
abbrev cX9_may : ByteArray := prog_1_method_31_code
def yX9_may : MethodName := ⟨RX9, "may", "(I)I"⟩
abbrev cX9_mays : ByteArray := prog_1_method_32_code
def yX9_mays : MethodName := ⟨RX9, "mays", "()I"⟩
abbrev cX9_colours : ByteArray := prog_1_method_33_code
def yX9_colours : MethodName := ⟨RX9, "colours", "()I"⟩
abbrev cX9_colourAt : ByteArray := prog_1_method_34_code
def yX9_colourAt : MethodName := ⟨RX9, "colourAt", "(I)I"⟩
abbrev cX9_apart : ByteArray := prog_1_method_35_code
def yX9_apart : MethodName := ⟨RX9, "apart", "(I)I"⟩
abbrev cX9_clump : ByteArray := prog_1_method_36_code
def yX9_clump : MethodName := ⟨RX9, "clump", "(I)I"⟩
abbrev cX9_change : ByteArray := prog_1_method_37_code
def yX9_change : MethodName := ⟨RX9, "change", "(IIZ)I"⟩
abbrev cX9_chosen : ByteArray := prog_1_method_38_code
def yX9_chosen : MethodName := ⟨RX9, "chosen", "(I)I"⟩
abbrev cX9_mendsByFlipping : ByteArray := prog_1_method_39_code
def yX9_mendsByFlipping : MethodName := ⟨RX9, "mendsByFlipping", "(II)Z"⟩
abbrev cX9_coversWith : ByteArray := prog_1_method_40_code
def yX9_coversWith : MethodName := ⟨RX9, "coversWith", "(I)Z"⟩
abbrev cX9_draw : ByteArray := prog_1_method_41_code
def yX9_draw : MethodName := ⟨RX9, "draw", "(I)I"⟩
abbrev cX9_didDeed : ByteArray := prog_1_method_42_code
def yX9_didDeed : MethodName := ⟨RX9, "didDeed", "()Z"⟩
abbrev cX9_didGo : ByteArray := prog_1_method_43_code
def yX9_didGo : MethodName := ⟨RX9, "didGo", "()Z"⟩
abbrev cX9_didCome : ByteArray := prog_1_method_44_code
def yX9_didCome : MethodName := ⟨RX9, "didCome", "()Z"⟩
abbrev cX9_didFlip : ByteArray := prog_1_method_45_code
def yX9_didFlip : MethodName := ⟨RX9, "didFlip", "()Z"⟩
abbrev cX9_at : ByteArray := prog_1_method_46_code
def yX9_at : MethodName := ⟨RX9, "at", "([II)I"⟩
abbrev cX9_put : ByteArray := prog_1_method_47_code
def yX9_put : MethodName := ⟨RX9, "put", "([III)V"⟩
abbrev cX9_has : ByteArray := prog_1_method_48_code
def yX9_has : MethodName := ⟨RX9, "has", "(II)Z"⟩
abbrev cX9_lowest : ByteArray := prog_1_method_49_code
def yX9_lowest : MethodName := ⟨RX9, "lowest", "(I)I"⟩
abbrev cX9_behind : ByteArray := prog_1_method_50_code
def yX9_behind : MethodName := ⟨RX9, "behind", "(I)I"⟩
abbrev cX9_eachTwo : ByteArray := prog_1_method_51_code
def yX9_eachTwo : MethodName := ⟨RX9, "eachTwo", "([II)Z"⟩
def RX10 : String := "MeetingNetsModel"
def TX10 : u_T := fun k => match k with
  | 0 => ("MeetingNetsModel", "thrown", "I", false)
  | 1 => ("MeetingNetsModel", "tape", "[I", true)
  | 2 => ("MeetingNetsModel", "taped", "I", false)
  | 3 => ("MeetingNetsModel", "size", "I", false)
  | 4 => ("MeetingNetsModel", "to", "I", false)
  | 5 => ("MeetingNetsModel", "from", "I", false)
  | 6 => ("MeetingNetsModel", "kind", "I", false)
  | 7 => ("MeetingNetsModel", "fault", "I", false)
  | 8 => ("MeetingNetsModel", "place", "I", false)
  | 9 => ("MeetingNetsModel", "word", "J", false)
  | 10 => ("MeetingNetsModel", "now", "[I", true)
  | 11 => ("MeetingNetsModel", "read", "[I", true)
  | 12 => ("MeetingNetsModel", "kept", "[I", true)
  | 13 => ("MeetingNetsModel", "snaps", "[I", true)
  | 14 => ("MeetingNetsModel", "before", "[I", true)
  | 15 => ("MeetingNetsModel", "live", "[I", true)
  | 16 => ("MeetingNetsModel", "trial", "[I", true)
  | 17 => ("MeetingNetsModel", "rooted", "[I", true)
  | 18 => ("MeetingNetsModel", "asked", "[I", true)
  | 19 => ("MeetingNetsModel", "names", "[J", true)
  | 20 => ("MeetingNetsModel", "isKept", "[Z", true)
  | 21 => ("MeetingNetsModel", "snapMany", "I", false)
  | 22 => ("MeetingNetsModel", "endsOf", "[I", true)
  | 23 => ("MeetingNetsModel", "users", "[I", true)
  | 24 => ("MeetingNetsModel", "row", "[I", true)
  | 25 => ("MeetingNetsModel", "best", "[I", true)
  | 26 => ("MeetingNetsModel", "found", "I", false)
  | 27 => ("MeetingNetsModel", "bestMany", "I", false)
  | 28 => ("MeetingNetsModel", "rowMany", "I", false)
  | 29 => ("MeetingNetsModel", "low", "[I", true)
  | 30 => ("MeetingNetsModel", "high", "[I", true)
  | 31 => ("MeetingNetsModel", "rootMany", "I", false)
  | 32 => ("MeetingNetsModel", "blames", "[I", true)
  | 33 => ("MeetingNetsModel", "pieceMany", "I", false)
  | 34 => ("MeetingNetsModel", "firstPiece", "I", false)
  | 35 => ("MeetingNetsModel", "lesser", "[I", true)
  | 36 => ("MeetingNetsModel", "other", "[I", true)
  | 37 => ("MeetingNetsModel", "colour", "[I", true)
  | _ => ("MeetingNetsModel", "seed", "I", false)
def tyX10 : Nat → FieldType := fun k => match k with
  | 0 => .int
  | 1 => .array .int
  | 2 => .int
  | 3 => .int
  | 4 => .int
  | 5 => .int
  | 6 => .int
  | 7 => .int
  | 8 => .int
  | 9 => .long
  | 10 => .array .int
  | 11 => .array .int
  | 12 => .array .int
  | 13 => .array .int
  | 14 => .array .int
  | 15 => .array .int
  | 16 => .array .int
  | 17 => .array .int
  | 18 => .array .int
  | 19 => .array .long
  | 20 => .array .boolean
  | 21 => .int
  | 22 => .array .int
  | 23 => .array .int
  | 24 => .array .int
  | 25 => .array .int
  | 26 => .int
  | 27 => .int
  | 28 => .int
  | 29 => .array .int
  | 30 => .array .int
  | 31 => .int
  | 32 => .array .int
  | 33 => .int
  | 34 => .int
  | 35 => .array .int
  | 36 => .array .int
  | 37 => .array .int
  | _ => .int
abbrev wsX100 : List Cond := u_ws RX10 TX10 39
theorem nmX10 : ∀ a, a < 39 → ∀ b, b < 39 → a ≠ b → (TX10 a).2.1 ≠ (TX10 b).2.1 := by decide +kernel
theorem tyX10_ok : ∀ k, k < 39 → parseFieldDescriptor (TX10 k).2.2.1 = some (tyX10 k) := by decide +kernel
abbrev cX10_thrown : ByteArray := prog_12_method_1_code
def yX10_thrown : MethodName := ⟨RX10, "thrown", "()I"⟩
abbrev cX10_refuse : ByteArray := prog_12_method_2_code
def yX10_refuse : MethodName := ⟨RX10, "refuse", "()I"⟩
abbrev cX10_isIn : ByteArray := prog_12_method_3_code
def yX10_isIn : MethodName := ⟨RX10, "isIn", "(III)Z"⟩
abbrev cX10_has : ByteArray := prog_12_method_4_code
def yX10_has : MethodName := ⟨RX10, "has", "(II)Z"⟩
abbrev cX10_bits : ByteArray := prog_12_method_5_code
def yX10_bits : MethodName := ⟨RX10, "bits", "(I)I"⟩
abbrev cX10_least : ByteArray := prog_12_method_6_code
def yX10_least : MethodName := ⟨RX10, "least", "(I)I"⟩
abbrev cX10_feedOne : ByteArray := prog_12_method_7_code
def yX10_feedOne : MethodName := ⟨RX10, "feedOne", "(I)V"⟩
abbrev cX10_feed : ByteArray := prog_12_method_8_code
def yX10_feed : MethodName := ⟨RX10, "feed", "(IIIII)I"⟩
abbrev cX10_end : ByteArray := prog_12_method_9_code
def yX10_end : MethodName := ⟨RX10, "end", "(I)Z"⟩
abbrev cX10_tapeAt : ByteArray := prog_12_method_10_code
def yX10_tapeAt : MethodName := ⟨RX10, "tapeAt", "(I)I"⟩
abbrev cX10_isLetter : ByteArray := prog_12_method_11_code
def yX10_isLetter : MethodName := ⟨RX10, "isLetter", "(I)Z"⟩
abbrev cX10_next : ByteArray := prog_12_method_12_code
def yX10_next : MethodName := ⟨RX10, "next", "()V"⟩
abbrev cX10_spelt : ByteArray := prog_12_method_13_code
def yX10_spelt : MethodName := ⟨RX10, "spelt", "(IIIII)J"⟩
abbrev cX10_isPointWord : ByteArray := prog_12_method_14_code
def yX10_isPointWord : MethodName := ⟨RX10, "isPointWord", "()Z"⟩
abbrev cX10_isLineWord : ByteArray := prog_12_method_15_code
def yX10_isLineWord : MethodName := ⟨RX10, "isLineWord", "()Z"⟩
abbrev cX10_isName : ByteArray := prog_12_method_16_code
def yX10_isName : MethodName := ⟨RX10, "isName", "()Z"⟩
abbrev cX10_bad : ByteArray := prog_12_method_17_code
def yX10_bad : MethodName := ⟨RX10, "bad", "(I)Z"⟩
abbrev cX10_init : ByteArray := prog_12_method_18_code
def yX10_init : MethodName := ⟨RX10, "<init>", "()V"⟩
abbrev cX10_copy : ByteArray := prog_12_method_19_code
def yX10_copy : MethodName := ⟨RX10, "copy", "([II[II)V"⟩
abbrev cX10_tied : ByteArray := prog_12_method_20_code
def yX10_tied : MethodName := ⟨RX10, "tied", "([III)Z"⟩
abbrev cX10_turns : ByteArray := prog_12_method_21_code
def yX10_turns : MethodName := ⟨RX10, "turns", "([III)V"⟩
abbrev cX10_named : ByteArray := prog_12_method_22_code
def yX10_named : MethodName := ⟨RX10, "named", "()I"⟩
abbrev cX10_readPoint : ByteArray := prog_12_method_23_code
def yX10_readPoint : MethodName := ⟨RX10, "readPoint", "()Z"⟩
abbrev cX10_readLine : ByteArray := prog_12_method_24_code
def yX10_readLine : MethodName := ⟨RX10, "readLine", "()Z"⟩
abbrev cX10_readEnd : ByteArray := prog_12_method_25_code
def yX10_readEnd : MethodName := ⟨RX10, "readEnd", "()Z"⟩
abbrev cX10_net : ByteArray := prog_12_method_26_code
def yX10_net : MethodName := ⟨RX10, "net", "()I"⟩
abbrev cX10_fault : ByteArray := prog_12_method_27_code
def yX10_fault : MethodName := ⟨RX10, "fault", "()I"⟩
abbrev cX10_isClaw : ByteArray := prog_12_method_28_code
def yX10_isClaw : MethodName := ⟨RX10, "isClaw", "([IIIII)Z"⟩
abbrev cX10_isTriangle : ByteArray := prog_12_method_29_code
def yX10_isTriangle : MethodName := ⟨RX10, "isTriangle", "([IIII)Z"⟩
abbrev cX10_isOdd : ByteArray := prog_12_method_30_code
def yX10_isOdd : MethodName := ⟨RX10, "isOdd", "([IIIII)Z"⟩
abbrev cX10_hasClaw : ByteArray := prog_12_method_31_code
def yX10_hasClaw : MethodName := ⟨RX10, "hasClaw", "([II)Z"⟩
abbrev cX10_hasOddTwo : ByteArray := prog_12_method_32_code
def yX10_hasOddTwo : MethodName := ⟨RX10, "hasOddTwo", "([II)Z"⟩
abbrev cX10_isCovered : ByteArray := prog_12_method_33_code
def yX10_isCovered : MethodName := ⟨RX10, "isCovered", "([II)Z"⟩
abbrev cX10_all : ByteArray := prog_12_method_34_code
def yX10_all : MethodName := ⟨RX10, "all", "([I)I"⟩
abbrev cX10_fits : ByteArray := prog_12_method_35_code
def yX10_fits : MethodName := ⟨RX10, "fits", "([IIII)Z"⟩
abbrev cX10_gives : ByteArray := prog_12_method_36_code
def yX10_gives : MethodName := ⟨RX10, "gives", "([IIII)V"⟩
abbrev cX10_goesOn : ByteArray := prog_12_method_37_code
def yX10_goesOn : MethodName := ⟨RX10, "goesOn", "([II)V"⟩
abbrev cX10_isFree : ByteArray := prog_12_method_38_code
def yX10_isFree : MethodName := ⟨RX10, "isFree", "(I)Z"⟩
abbrev cX10_endBoth : ByteArray := prog_12_method_39_code
def yX10_endBoth : MethodName := ⟨RX10, "endBoth", "(II)I"⟩
abbrev cX10_ends : ByteArray := prog_12_method_40_code
def yX10_ends : MethodName := ⟨RX10, "ends", "([I)V"⟩
abbrev cX10_isLess : ByteArray := prog_12_method_41_code
def yX10_isLess : MethodName := ⟨RX10, "isLess", "()Z"⟩
abbrev cX10_laysCovers : ByteArray := prog_12_method_42_code
def yX10_laysCovers : MethodName := ⟨RX10, "laysCovers", "([I)I"⟩
abbrev cX10_covers : ByteArray := prog_12_method_43_code
def yX10_covers : MethodName := ⟨RX10, "covers", "()I"⟩
abbrev cX10_cliques : ByteArray := prog_12_method_44_code
def yX10_cliques : MethodName := ⟨RX10, "cliques", "()I"⟩
abbrev cX10_clique : ByteArray := prog_12_method_45_code
def yX10_clique : MethodName := ⟨RX10, "clique", "(I)I"⟩
abbrev cX10_joins : ByteArray := prog_12_method_46_code
def yX10_joins : MethodName := ⟨RX10, "joins", "(II)V"⟩
abbrev cX10_laysRoot : ByteArray := prog_12_method_47_code
def yX10_laysRoot : MethodName := ⟨RX10, "laysRoot", "([I)Z"⟩
abbrev cX10_linesAt : ByteArray := prog_12_method_48_code
def yX10_linesAt : MethodName := ⟨RX10, "linesAt", "(I)I"⟩
abbrev cX10_parts : ByteArray := prog_12_method_49_code
def yX10_parts : MethodName := ⟨RX10, "parts", "([I)I"⟩
abbrev cX10_root : ByteArray := prog_12_method_50_code
def yX10_root : MethodName := ⟨RX10, "root", "(I)I"⟩
abbrev cX10_rootLine : ByteArray := prog_12_method_51_code
def yX10_rootLine : MethodName := ⟨RX10, "rootLine", "(II)I"⟩
abbrev cX10_isPiece : ByteArray := prog_12_method_52_code
def yX10_isPiece : MethodName := ⟨RX10, "isPiece", "([II)Z"⟩
abbrev cX10_laysPieces : ByteArray := prog_12_method_53_code
def yX10_laysPieces : MethodName := ⟨RX10, "laysPieces", "()V"⟩
abbrev cX10_piece : ByteArray := prog_12_method_54_code
def yX10_piece : MethodName := ⟨RX10, "piece", "()I"⟩
abbrev cX10_pieces : ByteArray := prog_12_method_55_code
def yX10_pieces : MethodName := ⟨RX10, "pieces", "()I"⟩
abbrev cX10_blamed : ByteArray := prog_12_method_56_code
def yX10_blamed : MethodName := ⟨RX10, "blamed", "(I)I"⟩
abbrev cX10_areThree : ByteArray := prog_12_method_57_code
def yX10_areThree : MethodName := ⟨RX10, "areThree", "(III)Z"⟩
abbrev cX10_odd : ByteArray := prog_12_method_58_code
def yX10_odd : MethodName := ⟨RX10, "odd", "(III)I"⟩
abbrev cX10_isClawSet : ByteArray := prog_12_method_59_code
def yX10_isClawSet : MethodName := ⟨RX10, "isClawSet", "(I)Z"⟩
abbrev cX10_claw : ByteArray := prog_12_method_60_code
def yX10_claw : MethodName := ⟨RX10, "claw", "()I"⟩
abbrev cX10_isPoint : ByteArray := prog_12_method_61_code
def yX10_isPoint : MethodName := ⟨RX10, "isPoint", "(I)Z"⟩
abbrev cX10_lineMany : ByteArray := prog_12_method_62_code
def yX10_lineMany : MethodName := ⟨RX10, "lineMany", "([I)I"⟩
abbrev cX10_triangles : ByteArray := prog_12_method_63_code
def yX10_triangles : MethodName := ⟨RX10, "triangles", "(Z)I"⟩
abbrev cX10_mostLines : ByteArray := prog_12_method_64_code
def yX10_mostLines : MethodName := ⟨RX10, "mostLines", "()I"⟩
abbrev cX10_claws : ByteArray := prog_12_method_65_code
def yX10_claws : MethodName := ⟨RX10, "claws", "()I"⟩
abbrev cX10_now : ByteArray := prog_12_method_66_code
def yX10_now : MethodName := ⟨RX10, "now", "(I)I"⟩
abbrev cX10_near : ByteArray := prog_12_method_67_code
def yX10_near : MethodName := ⟨RX10, "near", "(I)I"⟩
abbrev cX10_laysLines : ByteArray := prog_12_method_68_code
def yX10_laysLines : MethodName := ⟨RX10, "laysLines", "([I)I"⟩
abbrev cX10_line : ByteArray := prog_12_method_69_code
def yX10_line : MethodName := ⟨RX10, "line", "(II)I"⟩
abbrev cX10_snap : ByteArray := prog_12_method_70_code
def yX10_snap : MethodName := ⟨RX10, "snap", "()V"⟩
abbrev cX10_stay : ByteArray := prog_12_method_71_code
def yX10_stay : MethodName := ⟨RX10, "stay", "()V"⟩
abbrev cX10_turnsIf : ByteArray := prog_12_method_72_code
def yX10_turnsIf : MethodName := ⟨RX10, "turnsIf", "(IIZ)I"⟩
abbrev cX10_tie : ByteArray := prog_12_method_73_code
def yX10_tie : MethodName := ⟨RX10, "tie", "(II)I"⟩
abbrev cX10_part : ByteArray := prog_12_method_74_code
def yX10_part : MethodName := ⟨RX10, "part", "(II)I"⟩
abbrev cX10_mayCome : ByteArray := prog_12_method_75_code
def yX10_mayCome : MethodName := ⟨RX10, "mayCome", "([II)Z"⟩
abbrev cX10_comes : ByteArray := prog_12_method_76_code
def yX10_comes : MethodName := ⟨RX10, "comes", "([II)V"⟩
abbrev cX10_without : ByteArray := prog_12_method_77_code
def yX10_without : MethodName := ⟨RX10, "without", "(II)I"⟩
abbrev cX10_goes : ByteArray := prog_12_method_78_code
def yX10_goes : MethodName := ⟨RX10, "goes", "([II)V"⟩
abbrev cX10_come : ByteArray := prog_12_method_79_code
def yX10_come : MethodName := ⟨RX10, "come", "(I)I"⟩
abbrev cX10_go : ByteArray := prog_12_method_80_code
def yX10_go : MethodName := ⟨RX10, "go", "(I)I"⟩
abbrev cX10_meet : ByteArray := prog_12_method_81_code
def yX10_meet : MethodName := ⟨RX10, "meet", "()I"⟩
abbrev cX10_goesBack : ByteArray := prog_12_method_82_code
def yX10_goesBack : MethodName := ⟨RX10, "goesBack", "([I)Z"⟩
abbrev cX10_back : ByteArray := prog_12_method_83_code
def yX10_back : MethodName := ⟨RX10, "back", "()I"⟩
abbrev cX10_depth : ByteArray := prog_12_method_84_code
def yX10_depth : MethodName := ⟨RX10, "depth", "()I"⟩
abbrev cX10_mending : ByteArray := prog_12_method_85_code
def yX10_mending : MethodName := ⟨RX10, "mending", "(I)I"⟩
abbrev cX10_isMay : ByteArray := prog_12_method_86_code
def yX10_isMay : MethodName := ⟨RX10, "isMay", "(I)Z"⟩
abbrev cX10_may : ByteArray := prog_12_method_87_code
def yX10_may : MethodName := ⟨RX10, "may", "(I)I"⟩
abbrev cX10_mays : ByteArray := prog_12_method_88_code
def yX10_mays : MethodName := ⟨RX10, "mays", "()I"⟩
abbrev cX10_mayBe : ByteArray := prog_12_method_89_code
def yX10_mayBe : MethodName := ⟨RX10, "mayBe", "(II)Z"⟩
abbrev cX10_colours : ByteArray := prog_12_method_90_code
def yX10_colours : MethodName := ⟨RX10, "colours", "(II)Z"⟩
abbrev cX10_laysColours : ByteArray := prog_12_method_91_code
def yX10_laysColours : MethodName := ⟨RX10, "laysColours", "()I"⟩
abbrev cX10_colours_ : ByteArray := prog_12_method_92_code
def yX10_colours_ : MethodName := ⟨RX10, "colours", "()I"⟩
abbrev cX10_colourAt : ByteArray := prog_12_method_93_code
def yX10_colourAt : MethodName := ⟨RX10, "colourAt", "(I)I"⟩
abbrev cX10_isAlike : ByteArray := prog_12_method_94_code
def yX10_isAlike : MethodName := ⟨RX10, "isAlike", "(IZ)Z"⟩
abbrev cX10_most : ByteArray := prog_12_method_95_code
def yX10_most : MethodName := ⟨RX10, "most", "(ZI)I"⟩
abbrev cX10_apart : ByteArray := prog_12_method_96_code
def yX10_apart : MethodName := ⟨RX10, "apart", "(I)I"⟩
abbrev cX10_clump : ByteArray := prog_12_method_97_code
def yX10_clump : MethodName := ⟨RX10, "clump", "(I)I"⟩
abbrev cX10_draw : ByteArray := prog_12_method_98_code
def yX10_draw : MethodName := ⟨RX10, "draw", "(I)I"⟩
abbrev cX10_drawsOne : ByteArray := prog_12_method_99_code
def yX10_drawsOne : MethodName := ⟨RX10, "drawsOne", "()Z"⟩
abbrev cX10_drawn : ByteArray := prog_12_method_100_code
def yX10_drawn : MethodName := ⟨RX10, "drawn", "(II)I"⟩
abbrev cX10_undo : ByteArray := prog_12_method_101_code
def yX10_undo : MethodName := ⟨RX10, "undo", "()I"⟩
abbrev cX10_image : ByteArray := prog_12_method_102_code
def yX10_image : MethodName := ⟨RX10, "image", "(I)Z"⟩
abbrev cX10_restore : ByteArray := prog_12_method_103_code
def yX10_restore : MethodName := ⟨RX10, "restore", "(I)Z"⟩
def RJx145de : String := "java/io/Serializable"
def TJx145de : u_T := fun k => match k with
  | _ => ("", "", "", false)
def tyJx145de : Nat → FieldType := fun k => match k with
  | _ => .int
abbrev wsJx145de0 : List Cond := u_ws RJx145de TJx145de 0
theorem nmJx145de : ∀ a, a < 0 → ∀ b, b < 0 → a ≠ b → (TJx145de a).2.1 ≠ (TJx145de b).2.1 := by decide +kernel
theorem tyJx145de_ok : ∀ k, k < 0 → parseFieldDescriptor (TJx145de k).2.2.1 = some (tyJx145de k) := by decide +kernel
def RJ6 : String := "java/lang/Integer"
def TJ6 : u_T := fun k => match k with
  | _ => ("", "", "", false)
def tyJ6 : Nat → FieldType := fun k => match k with
  | _ => .int
abbrev wsJ60 : List Cond := u_ws RJ6 TJ6 0
theorem nmJ6 : ∀ a, a < 0 → ∀ b, b < 0 → a ≠ b → (TJ6 a).2.1 ≠ (TJ6 b).2.1 := by decide +kernel
theorem tyJ6_ok : ∀ k, k < 0 → parseFieldDescriptor (TJ6 k).2.2.1 = some (tyJ6 k) := by decide +kernel
abbrev cJ6_bitCount_0f7a4 : ByteArray := prog_15_method_49_code
def yJ6_bitCount_0f7a4 : MethodName := ⟨RJ6, "bitCount", "(I)I"⟩
def RJ9 : String := "java/lang/Math"
def TJ9 : u_T := fun k => match k with
  | _ => ("", "", "", false)
def tyJ9 : Nat → FieldType := fun k => match k with
  | _ => .int
abbrev wsJ90 : List Cond := u_ws RJ9 TJ9 0
theorem nmJ9 : ∀ a, a < 0 → ∀ b, b < 0 → a ≠ b → (TJ9 a).2.1 ≠ (TJ9 b).2.1 := by decide +kernel
theorem tyJ9_ok : ∀ k, k < 0 → parseFieldDescriptor (TJ9 k).2.2.1 = some (tyJ9 k) := by decide +kernel
abbrev cJ9_max_7cf53 : ByteArray := prog_16_method_65_code
def yJ9_max_7cf53 : MethodName := ⟨RJ9, "max", "(II)I"⟩
abbrev cJ9_min_7cf53 : ByteArray := prog_16_method_69_code
def yJ9_min_7cf53 : MethodName := ⟨RJ9, "min", "(II)I"⟩
def RL : String := "MeetingNetsLaw"
abbrev cL_near : ByteArray := method_3_code
def yL_near : MethodName := ⟨RL, "near", "(LMeetingNets;I[J)I"⟩
abbrev cL_line : ByteArray := method_4_code
def yL_line : MethodName := ⟨RL, "line", "(LMeetingNets;II[J)I"⟩
abbrev cL_rootLine : ByteArray := method_5_code
def yL_rootLine : MethodName := ⟨RL, "rootLine", "(LMeetingNets;II[J)I"⟩
abbrev cL_law : ByteArray := code
def yL_law : MethodName := ⟨RL, "law", "([I)Z"⟩
abbrev vwCl : List vw_C := [(RX0, TX0, 3), (RX1, TX1, 3), (RX2, TX2, 7), (RX3, TX3, 2), (RX4, TX4, 2), (RX5, TX5, 5), (RX6, TX6, 9), (RX7, TX7, 1), (RX8, TX8, 2), (RX9, TX9, 13), (RX10, TX10, 39)]
end
section
/-! THE ABSTRACT MACHINE'S JUDGEMENT. A memory gives each object of the system (by a number below 55) its contents; mm_X says of a place in a method, with locals, stack and memory, that from every machine state that holds them the method comes to its end with an answer and a memory that Q allows. One row an instruction, proved by the kit's rows; all later parts speak of mm_X, mm_S alone. -/
abbrev mm_AC : Type := (Nat × (Nat → Int32)) ⊕ ((Nat × (Nat → Int64)) ⊕ ((Nat × (Nat → Int32)) ⊕ (Nat × List Value)))
abbrev mm_aI (n : Nat) (f : Nat → Int32) : mm_AC := .inl (n, f)
abbrev mm_aJ (n : Nat) (f : Nat → Int64) : mm_AC := .inr (.inl (n, f))
abbrev mm_aZ (n : Nat) (f : Nat → Int32) : mm_AC := .inr (.inr (.inl (n, f)))
abbrev mm_aO (ci : Nat) (fs : List Value) : mm_AC := .inr (.inr (.inr (ci, fs)))
abbrev mm_Mem : Type := Nat → mm_AC
def mm_up (M : mm_Mem) (k : Nat) (c : mm_AC) : mm_Mem := fun j => if j = k then c else M j
theorem mm_up_s {M : mm_Mem} {k : Nat} {c : mm_AC} : mm_up M k c k = c := by simp [mm_up]
theorem mm_up_n {M : mm_Mem} {k j : Nat} {c : mm_AC} (h : j ≠ k) : mm_up M k c j = M j := by simp [mm_up, h]
theorem mm_up_up {M : mm_Mem} {k : Nat} {c c' : mm_AC} : mm_up (mm_up M k c) k c' = mm_up M k c' := by
  funext j
  by_cases h : j = k <;> simp [mm_up, h]
theorem mm_up_id {M : mm_Mem} {k : Nat} {c : mm_AC} (h : M k = c) : mm_up M k c = M := by
  funext j
  by_cases e : j = k
  · subst e
    simp [mm_up, h]
  · simp [mm_up, e]
theorem mm_up_comm {M : mm_Mem} {k j : Nat} {c c' : mm_AC} (h : j ≠ k) : mm_up (mm_up M k c) j c' = mm_up (mm_up M j c') k c := by
  funext i
  by_cases e : i = k
  · subst e
    have : ¬ i = j := fun q => h q.symm
    simp [mm_up, this]
  · simp [mm_up, e]
def mm_K : Nat := 55
/-- the abstract number of the script -/
def mm_scr : Nat := 1000
def mm_cv (ad : Nat → Nat) : Value → Value
  | .ref k => .ref (ad k)
  | v => v
def mm_cc (ad : Nat → Nat) (cy : Nat → ClassId) : mm_AC → va_E
  | .inl (n, f) => .inl (cy 0, n, .inl f)
  | .inr (.inl (n, f)) => .inl (cy 1, n, .inr (.inl f))
  | .inr (.inr (.inl (n, f))) => .inl (cy 2, n, .inl f)
  | .inr (.inr (.inr (ci, fs))) => .inr (ci, fs.map (mm_cv ad))
def mm_ws (ad : Nat → Nat) (cy : Nat → ClassId) (M : mm_Mem) : va_W := (List.range mm_K).map fun k => (ad k, mm_cc ad cy (M k))
def mm_tys (cy : Nat → ClassId) : List (ClassId × FieldType) := [(cy 0, .int), (cy 1, .long), (cy 2, .boolean)]
theorem mm_ws_at {ad : Nat → Nat} {cy : Nat → ClassId} {M : mm_Mem} {k : Nat} (h : k < mm_K) : (mm_ws ad cy M)[k]? = some (ad k, mm_cc ad cy (M k)) := by
  simp [mm_ws, h]
theorem mm_ws_up {ad : Nat → Nat} {cy : Nat → ClassId} {M : mm_Mem} {k : Nat} {c : mm_AC} (h : k < mm_K) : (mm_ws ad cy M).set k (ad k, mm_cc ad cy c) = mm_ws ad cy (mm_up M k c) := by
  apply List.ext_getElem?
  intro i
  by_cases hi : i < mm_K
  · by_cases e : k = i
    · subst e
      rw [List.getElem?_set_self (by simp [mm_ws, h]), mm_ws_at h, mm_up_s]
    · rw [List.getElem?_set_ne e, mm_ws_at hi, mm_ws_at hi, mm_up_n (Ne.symm e)]
  · simp [mm_ws, hi, List.getElem?_set]
/-- a method: its name, its code, its locals, what it returns -/
abbrev mm_MR : Type := MethodName × ByteArray × Nat × Option FieldType
/-- the words that every method has: all good ones of the tables -/
def mm_WS : List Cond := lw_tbl.filter goodWord
def mm_isN : Cond → Bool
  | .methodLinkNest _ _ _ _ => true
  | _ => false
def mm_NW : List Cond := tables_1.filter mm_isN
theorem mm_inW {w : Cond} (i : Nat) (h : lw_tbl[i]? = some w) (g : goodWord w = true) : w ∈ mm_WS := List.mem_filter.mpr ⟨List.mem_of_getElem? h, g⟩
theorem mm_inN {w : Cond} (i : Nat) (h : tables_1[i]? = some w) (g : mm_isN w = true) : w ∈ mm_NW := List.mem_filter.mpr ⟨List.mem_of_getElem? h, g⟩
def mm_NWs (U : State) : Prop := ∀ w ∈ mm_NW, va_Nw w U
theorem mm_NWs.warm {s U : State} (hW : s.WarmedH U.vm) (h : mm_NWs s) : mm_NWs U := by
  intro w hw
  have h1 := h w hw
  have h2 := (List.mem_filter.mp hw).2
  cases w <;> first | (exact va_Nw.warmM hW h1) | (simp [mm_isN] at h2)
theorem mm_NWs.same {s U : State} (e : s.vm = U.vm) (h : mm_NWs s) : mm_NWs U := by
  intro w hw
  have h1 := h w hw
  have h2 := (List.mem_filter.mp hw).2
  cases w <;> first | (exact va_Nw.same rfl e h1) | (simp [mm_isN] at h2)
/-- the two statics that a throw reads -/
def mm_E (A : Nat → Prop) (U : State) (H : Heap) : Prop := vx_Zq Bundle.tN "UNASSIGNED_STACK" Bundle.steD A U H ∧ vx_Zq Bundle.tN "SUPPRESSED_SENTINEL" Bundle.listD A U H
theorem mm_E.moved {A : Nat → Prop} {u U : State} {H : Heap} (hvm : u.vm.Alike U.vm) (h : mm_E A u H) : mm_E A U H := ⟨vx_Zq.moved hvm h.1, vx_Zq.moved hvm h.2⟩
theorem mm_E.kept {A : Nat → Prop} {U : State} {H H1 : Heap} (h : mm_E A U H) (hq : ∀ a : Nat, a < H.size → ¬ A a → H1[a]? = H[a]?) : mm_E A U H1 := ⟨vx_Zq.kept h.1 hq, vx_Zq.kept h.2 hq⟩
abbrev mm_SC : Type := Option (Nat × (Nat → Int32))
abbrev mm_T : Type := Program × Launch × Env × Room × State × MethodId × Array Value × List Frame × Method × Code × va_G × (Nat → Nat) × (Nat → ClassId) × (Nat → Prop)
def mm_W (t : mm_T) (H : Heap) (locs : List Loc) (z : Nat × Nat) (Z : State → Prop) (pc : Nat) (lsA : Array Slot) (st : List Value) : Prop :=
  match t with
  | (p, l, e, R, s, m, args, below, meth, c, _, _, _, _) => W p l e R s m args below meth c H locs z.1 z.2 Z (F0 m pc lsA st)
def mm_Cx (y : mm_MR) (d : Nat) (sc : mm_SC) (t : mm_T) : Prop :=
  match t with
  | (p, l, _, R, s, m, args, _, meth, c, D, ad, cy, A) =>
    p.tables.exec = Jvm.exec ∧ c.code = y.2.1 ∧ c.maxLocals = y.2.2.1 ∧ meth.sig.returnType = y.2.2.2 ∧ s.vm.findClass y.1.cls = some m.cls ∧ (∀ w ∈ mm_WS, w.before args s = true) ∧ meth.locks = false ∧
    va_K D vwCl (mm_tys cy) s ∧ mm_NWs s ∧ mm_E A s s.heap ∧ (∀ q, s.heap.size ≤ q → A q) ∧ d ≤ R.frames ∧ 40 * d ≤ R.locals ∧ l.flags = flags0 ∧
    (match sc with
      | none => True
      | some (L, xs) => va_X (ad mm_scr) L xs s s.heap ∧ ad mm_scr < s.heap.size ∧ ¬ A (ad mm_scr) ∧ R = room_1)
def mm_R (t : mm_T) (M : mm_Mem) (H : Heap) (locs : List Loc) : Prop :=
  match t with
  | (_, _, _, _, s, _, _, _, _, _, D, ad, cy, A) => va_P D vwCl (mm_ws ad cy M) H ∧ va_D A (mm_ws ad cy M) ∧ va_S A s.heap H locs
def mm_L (ad : Nat → Nat) (n : Nat) (lsA : Array Slot) (ls : List Value) : Prop := ls.length = n ∧ ∃ l, lv_has lsA n l ∧ ∀ (i : Nat) (v : Value), ls[i]? = some v → v ≠ .null → (i, mm_cv ad v) ∈ l
/-- how a method ends with r at pc: a return, or (a 'double') its throw -/
def mm_end (y : mm_MR) (pc : Nat) : Option Value → Prop
  | none => decode y.2.1 pc = .ok (.return_, 1) ∧ y.2.2.2 = none
  | some (.int x) => decode y.2.1 pc = .ok (.ireturn, 1) ∧ ∃ ty, y.2.2.2 = some ty ∧ narrow ty (.int x) = .int x
  | some (.long _) => decode y.2.1 pc = .ok (.lreturn, 1) ∧ y.2.2.2 = some .long
  | some (.ref _) => decode y.2.1 pc = .ok (.areturn, 1) ∧ ∃ n, y.2.2.2 = some (.object n)
  | some (.double _) => ∃ k, decode y.2.1 pc = .ok (.new k, 3)
  | _ => False
/-- what stands on the stack there -/
def mm_endS : Option Value → List Value
  | some (.double _) => []
  | r => r.toList
abbrev mm_thrown : Option Value := some (.double 0)
def mm_F (y : mm_MR) (t : mm_T) (Z : State → Prop) (Q : Option Value → mm_Mem → Prop) : Prop :=
  match t with
  | (_, _, _, R, _, _, _, _, _, _, _, ad, _, _) => ∀ (r : Option Value) (M : mm_Mem) (H : Heap) (locs : List Loc) (z : Nat × Nat) (pc : Nat) (lsA : Array Slot), Q r M → mm_R t M H locs → z.1 ≤ R.cells → z.2 ≤ R.slots → lsA.size = y.2.2.1 → mm_end y pc r → mm_W t H locs z Z pc lsA ((mm_endS r).map (mm_cv ad))
def mm_X (y : mm_MR) (d : Nat) (sc : mm_SC) (z : Nat × Nat) (pc : Nat) (ls st : List Value) (M : mm_Mem) (Q : Option Value → mm_Mem → Prop) : Prop :=
  ∀ (t : mm_T) (Z : State → Prop), mm_Cx y d sc t → mm_F y t Z Q → ∀ (H : Heap) (locs : List Loc) (lsA : Array Slot), z.1 ≤ t.2.2.2.1.cells → z.2 ≤ t.2.2.2.1.slots → mm_R t M H locs → mm_L t.2.2.2.2.2.2.2.2.2.2.2.1 y.2.2.1 lsA ls → mm_W t H locs z Z pc lsA (st.map (mm_cv t.2.2.2.2.2.2.2.2.2.2.2.1))
theorem mm_ld {ad : Nat → Nat} {n : Nat} {lsA : Array Slot} {ls : List Value} (h : mm_L ad n lsA ls) {i : Nat} {v : Value} (hl : ls[i]? = some v) (hv : v ≠ .null) : lsA[i]? = some (.val (mm_cv ad v)) := by
  obtain ⟨-, l, h1, h2⟩ := h
  exact h1.2.2 _ (h2 i v hl hv)
def mm_st1 (ls : List Value) (i : Nat) : Bool := decide (i < ls.length) && (i == 0 || match ls[i - 1]? with
  | some (.long _) => false
  | some (.double _) => false
  | _ => true)
theorem mm_cat {ad : Nat → Nat} (v : Value) : (mm_cv ad v).category = v.category := by cases v <;> rfl
theorem mm_st1_of {ls : List Value} {i : Nat} (h : mm_st1 ls i = true) : i < ls.length ∧ ∀ (j : Nat) (v : Value), j + 1 = i → ls[j]? = some v → v.category = 1 := by
  simp only [mm_st1, Bool.and_eq_true, decide_eq_true_eq, Bool.or_eq_true, beq_iff_eq] at h
  refine ⟨h.1, fun j v hj hv => ?_⟩
  subst hj
  rcases h.2 with h2 | h2
  · omega
  · rw [show j + 1 - 1 = j from by omega, hv] at h2
    cases v <;> first | rfl | (simp at h2)
theorem mm_L.set1 {ad : Nat → Nat} {n : Nat} {lsA lsB : Array Slot} {ls : List Value} {l : List (Nat × Value)} {i : Nat} {v : Value} (hn : ls.length = n) (hl : ∀ (i : Nat) (v : Value), ls[i]? = some v → v ≠ .null → (i, mm_cv ad v) ∈ l) (hs : mm_st1 ls i = true) (h : lv_has lsB n ((i, mm_cv ad v) :: l.filter (fun q => !(q.1 == i) && !(q.1 + 1 == i && q.2.category == 2)))) : mm_L ad n lsB (ls.set i v) := by
  obtain ⟨h1, h2⟩ := mm_st1_of hs
  refine ⟨by rw [List.length_set]; exact hn, _, h, fun j w hj hw => ?_⟩
  by_cases e : i = j
  · subst e
    rw [List.getElem?_set_self h1] at hj
    cases hj
    exact List.mem_cons_self
  · rw [List.getElem?_set_ne e] at hj
    refine List.mem_cons_of_mem _ (List.mem_filter.mpr ⟨hl j w hj hw, ?_⟩)
    have e' : ¬ j = i := fun q => e q.symm
    simp only [Bool.and_eq_true, Bool.not_eq_true', beq_eq_false_iff_ne, ne_eq, Bool.and_eq_false_iff]
    refine ⟨e', ?_⟩
    by_cases e2 : j + 1 = i
    · right
      rw [mm_cat, h2 j w e2 hj]
      decide
    · left
      exact e2
theorem mm_L.set2 {ad : Nat → Nat} {n : Nat} {lsA lsB : Array Slot} {ls : List Value} {l : List (Nat × Value)} {i : Nat} {v : Value} (hn : ls.length = n) (hl : ∀ (i : Nat) (v : Value), ls[i]? = some v → v ≠ .null → (i, mm_cv ad v) ∈ l) (hs : mm_st1 ls i = true) (h : lv_has lsB n ((i, mm_cv ad v) :: l.filter (fun q => !(q.1 == i) && (!(q.1 == i + 1) && !(q.1 + 1 == i && q.2.category == 2))))) : mm_L ad n lsB ((ls.set i v).set (i + 1) .null) := by
  obtain ⟨h1, h2⟩ := mm_st1_of hs
  refine ⟨by rw [List.length_set, List.length_set]; exact hn, _, h, fun j w hj hw => ?_⟩
  by_cases e0 : i + 1 = j
  · subst e0
    rw [List.getElem?_set] at hj
    simp only [if_true] at hj
    split at hj
    · cases hj
      exact absurd rfl hw
    · cases hj
  rw [List.getElem?_set_ne e0] at hj
  by_cases e : i = j
  · subst e
    rw [List.getElem?_set_self h1] at hj
    cases hj
    exact List.mem_cons_self
  · rw [List.getElem?_set_ne e] at hj
    refine List.mem_cons_of_mem _ (List.mem_filter.mpr ⟨hl j w hj hw, ?_⟩)
    have e' : ¬ j = i := fun q => e q.symm
    have e0' : ¬ j = i + 1 := fun q => e0 q.symm
    simp only [Bool.and_eq_true, Bool.not_eq_true', beq_eq_false_iff_ne, ne_eq, Bool.and_eq_false_iff]
    refine ⟨e', e0', ?_⟩
    by_cases e2 : j + 1 = i
    · right
      rw [mm_cat, h2 j w e2 hj]
      decide
    · left
      exact e2
section MM
variable {y : mm_MR} {d : Nat} {sc : mm_SC} {z : Nat × Nat} {pc : Nat} {ls st : List Value} {M : mm_Mem} {Q : Option Value → mm_Mem → Prop}
theorem mm_iconst {n : Int} (hd : decode y.2.1 pc = .ok (.iconst n, 1)) (h : mm_X y d sc z (pc + 1) ls (.int (Int32.ofInt n) :: st) M Q) : mm_X y d sc z pc ls (st) M Q := by
  intro t Z C F H locs lsA hz1 hz2 hR hL
  have K := h t Z C F H locs lsA hz1 hz2 hR hL
  obtain ⟨p, l, e, R, s, m, args, below, meth, c, D, ad, cy, A⟩ := t
  obtain ⟨hx, hb, hml, hr, hown, hts, hlk, hK, hN, hE, hA, hd1, hd2, hfl, hsc⟩ := C
  exact lv_iconst hx hb hd rfl K
theorem mm_bipush {n : Int} (hd : decode y.2.1 pc = .ok (.bipush n, 2)) (h : mm_X y d sc z (pc + 2) ls (.int (Int8.ofInt n).toInt32 :: st) M Q) : mm_X y d sc z pc ls (st) M Q := by
  intro t Z C F H locs lsA hz1 hz2 hR hL
  have K := h t Z C F H locs lsA hz1 hz2 hR hL
  obtain ⟨p, l, e, R, s, m, args, below, meth, c, D, ad, cy, A⟩ := t
  obtain ⟨hx, hb, hml, hr, hown, hts, hlk, hK, hN, hE, hA, hd1, hd2, hfl, hsc⟩ := C
  exact lv_bipush hx hb hd rfl K
theorem mm_sipush {n : Int} (hd : decode y.2.1 pc = .ok (.sipush n, 3)) (h : mm_X y d sc z (pc + 3) ls (.int (Int16.ofInt n).toInt32 :: st) M Q) : mm_X y d sc z pc ls (st) M Q := by
  intro t Z C F H locs lsA hz1 hz2 hR hL
  have K := h t Z C F H locs lsA hz1 hz2 hR hL
  obtain ⟨p, l, e, R, s, m, args, below, meth, c, D, ad, cy, A⟩ := t
  obtain ⟨hx, hb, hml, hr, hown, hts, hlk, hK, hN, hE, hA, hd1, hd2, hfl, hsc⟩ := C
  exact lv_sipush hx hb hd rfl K
theorem mm_lconst {n : Fin 2} (hd : decode y.2.1 pc = .ok (.lconst n, 1)) (h : mm_X y d sc z (pc + 1) ls (.long (Int64.ofNat (n : Nat)) :: st) M Q) : mm_X y d sc z pc ls (st) M Q := by
  intro t Z C F H locs lsA hz1 hz2 hR hL
  have K := h t Z C F H locs lsA hz1 hz2 hR hL
  obtain ⟨p, l, e, R, s, m, args, below, meth, c, D, ad, cy, A⟩ := t
  obtain ⟨hx, hb, hml, hr, hown, hts, hlk, hK, hN, hE, hA, hd1, hd2, hfl, hsc⟩ := C
  exact lv_lconst hx hb hd rfl K
theorem mm_iload_n {k : Fin 4} {x : Int32} (hd : decode y.2.1 pc = .ok (.iload_n k, 1)) (hl : ls[(k : Nat)]? = some (.int x)) (h : mm_X y d sc z (pc + 1) ls (.int x :: st) M Q) : mm_X y d sc z pc ls (st) M Q := by
  intro t Z C F H locs lsA hz1 hz2 hR hL
  have K := h t Z C F H locs lsA hz1 hz2 hR hL
  obtain ⟨p, l, e, R, s, m, args, below, meth, c, D, ad, cy, A⟩ := t
  obtain ⟨hx, hb, hml, hr, hown, hts, hlk, hK, hN, hE, hA, hd1, hd2, hfl, hsc⟩ := C
  exact lv_iload_n hx hb hd rfl (mm_ld hL hl (fun q => by cases q)) K
theorem mm_iload {i : Nat} {x : Int32} (hd : decode y.2.1 pc = .ok (.iload i, 2)) (hl : ls[i]? = some (.int x)) (h : mm_X y d sc z (pc + 2) ls (.int x :: st) M Q) : mm_X y d sc z pc ls (st) M Q := by
  intro t Z C F H locs lsA hz1 hz2 hR hL
  have K := h t Z C F H locs lsA hz1 hz2 hR hL
  obtain ⟨p, l, e, R, s, m, args, below, meth, c, D, ad, cy, A⟩ := t
  obtain ⟨hx, hb, hml, hr, hown, hts, hlk, hK, hN, hE, hA, hd1, hd2, hfl, hsc⟩ := C
  exact lv_iload hx hb hd (mm_ld hL hl (fun q => by cases q)) K
theorem mm_lload_n {k : Fin 4} {x : Int64} (hd : decode y.2.1 pc = .ok (.lload_n k, 1)) (hl : ls[(k : Nat)]? = some (.long x)) (h : mm_X y d sc z (pc + 1) ls (.long x :: st) M Q) : mm_X y d sc z pc ls (st) M Q := by
  intro t Z C F H locs lsA hz1 hz2 hR hL
  have K := h t Z C F H locs lsA hz1 hz2 hR hL
  obtain ⟨p, l, e, R, s, m, args, below, meth, c, D, ad, cy, A⟩ := t
  obtain ⟨hx, hb, hml, hr, hown, hts, hlk, hK, hN, hE, hA, hd1, hd2, hfl, hsc⟩ := C
  exact lv_lload_n hx hb hd rfl (mm_ld hL hl (fun q => by cases q)) K
theorem mm_lload {i : Nat} {x : Int64} (hd : decode y.2.1 pc = .ok (.lload i, 2)) (hl : ls[i]? = some (.long x)) (h : mm_X y d sc z (pc + 2) ls (.long x :: st) M Q) : mm_X y d sc z pc ls (st) M Q := by
  intro t Z C F H locs lsA hz1 hz2 hR hL
  have K := h t Z C F H locs lsA hz1 hz2 hR hL
  obtain ⟨p, l, e, R, s, m, args, below, meth, c, D, ad, cy, A⟩ := t
  obtain ⟨hx, hb, hml, hr, hown, hts, hlk, hK, hN, hE, hA, hd1, hd2, hfl, hsc⟩ := C
  exact lv_lload hx hb hd (mm_ld hL hl (fun q => by cases q)) K
theorem mm_aload_n {k : Fin 4} {x : Nat} (hd : decode y.2.1 pc = .ok (.aload_n k, 1)) (hl : ls[(k : Nat)]? = some (.ref x)) (h : mm_X y d sc z (pc + 1) ls (.ref x :: st) M Q) : mm_X y d sc z pc ls (st) M Q := by
  intro t Z C F H locs lsA hz1 hz2 hR hL
  have K := h t Z C F H locs lsA hz1 hz2 hR hL
  obtain ⟨p, l, e, R, s, m, args, below, meth, c, D, ad, cy, A⟩ := t
  obtain ⟨hx, hb, hml, hr, hown, hts, hlk, hK, hN, hE, hA, hd1, hd2, hfl, hsc⟩ := C
  exact lv_aload_n hx hb hd rfl (mm_ld hL hl (fun q => by cases q)) K
theorem mm_aload {i : Nat} {x : Nat} (hd : decode y.2.1 pc = .ok (.aload i, 2)) (hl : ls[i]? = some (.ref x)) (h : mm_X y d sc z (pc + 2) ls (.ref x :: st) M Q) : mm_X y d sc z pc ls (st) M Q := by
  intro t Z C F H locs lsA hz1 hz2 hR hL
  have K := h t Z C F H locs lsA hz1 hz2 hR hL
  obtain ⟨p, l, e, R, s, m, args, below, meth, c, D, ad, cy, A⟩ := t
  obtain ⟨hx, hb, hml, hr, hown, hts, hlk, hK, hN, hE, hA, hd1, hd2, hfl, hsc⟩ := C
  exact lv_aload hx hb hd (mm_ld hL hl (fun q => by cases q)) K
theorem mm_istore_n {k : Fin 4} {x : Int32} (hd : decode y.2.1 pc = .ok (.istore_n k, 1)) (hs1 : mm_st1 ls (k : Nat) = true) (h : mm_X y d sc z (pc + 1) (ls.set (k : Nat) (.int x)) st M Q) : mm_X y d sc z pc ls (.int x :: st) M Q := by
  intro t Z C F H locs lsA hz1 hz2 hR hL
  obtain ⟨p, l, e, R, s, m, args, below, meth, c, D, ad, cy, A⟩ := t
  obtain ⟨hx, hb, hml, hr, hown, hts, hlk, hK, hN, hE, hA, hd1, hd2, hfl, hsc⟩ := C
  obtain ⟨hn, l9, hv, hm⟩ := id hL
  refine lv_istore_n hx hb hd rfl hv (by have := (mm_st1_of hs1).1; omega) rfl (fun lsB hB => ?_)
  exact h (p, l, e, R, s, m, args, below, meth, c, D, ad, cy, A) Z ⟨hx, hb, hml, hr, hown, hts, hlk, hK, hN, hE, hA, hd1, hd2, hfl, hsc⟩ F H locs lsB hz1 hz2 hR (mm_L.set1 (lsA := lsA) hn hm hs1 hB)
theorem mm_istore {i : Nat} {x : Int32} (hd : decode y.2.1 pc = .ok (.istore i, 2)) (hs1 : mm_st1 ls i = true) (h : mm_X y d sc z (pc + 2) (ls.set i (.int x)) st M Q) : mm_X y d sc z pc ls (.int x :: st) M Q := by
  intro t Z C F H locs lsA hz1 hz2 hR hL
  obtain ⟨p, l, e, R, s, m, args, below, meth, c, D, ad, cy, A⟩ := t
  obtain ⟨hx, hb, hml, hr, hown, hts, hlk, hK, hN, hE, hA, hd1, hd2, hfl, hsc⟩ := C
  obtain ⟨hn, l9, hv, hm⟩ := id hL
  refine lv_istore hx hb hd hv (by have := (mm_st1_of hs1).1; omega) rfl (fun lsB hB => ?_)
  exact h (p, l, e, R, s, m, args, below, meth, c, D, ad, cy, A) Z ⟨hx, hb, hml, hr, hown, hts, hlk, hK, hN, hE, hA, hd1, hd2, hfl, hsc⟩ F H locs lsB hz1 hz2 hR (mm_L.set1 (lsA := lsA) hn hm hs1 hB)
theorem mm_astore_n {k : Fin 4} {x : Nat} (hd : decode y.2.1 pc = .ok (.astore_n k, 1)) (hs1 : mm_st1 ls (k : Nat) = true) (h : mm_X y d sc z (pc + 1) (ls.set (k : Nat) (.ref x)) st M Q) : mm_X y d sc z pc ls (.ref x :: st) M Q := by
  intro t Z C F H locs lsA hz1 hz2 hR hL
  obtain ⟨p, l, e, R, s, m, args, below, meth, c, D, ad, cy, A⟩ := t
  obtain ⟨hx, hb, hml, hr, hown, hts, hlk, hK, hN, hE, hA, hd1, hd2, hfl, hsc⟩ := C
  obtain ⟨hn, l9, hv, hm⟩ := id hL
  refine lv_astore_n hx hb hd rfl hv (by have := (mm_st1_of hs1).1; omega) rfl (fun lsB hB => ?_)
  exact h (p, l, e, R, s, m, args, below, meth, c, D, ad, cy, A) Z ⟨hx, hb, hml, hr, hown, hts, hlk, hK, hN, hE, hA, hd1, hd2, hfl, hsc⟩ F H locs lsB hz1 hz2 hR (mm_L.set1 (lsA := lsA) hn hm hs1 hB)
theorem mm_astore {i : Nat} {x : Nat} (hd : decode y.2.1 pc = .ok (.astore i, 2)) (hs1 : mm_st1 ls i = true) (h : mm_X y d sc z (pc + 2) (ls.set i (.ref x)) st M Q) : mm_X y d sc z pc ls (.ref x :: st) M Q := by
  intro t Z C F H locs lsA hz1 hz2 hR hL
  obtain ⟨p, l, e, R, s, m, args, below, meth, c, D, ad, cy, A⟩ := t
  obtain ⟨hx, hb, hml, hr, hown, hts, hlk, hK, hN, hE, hA, hd1, hd2, hfl, hsc⟩ := C
  obtain ⟨hn, l9, hv, hm⟩ := id hL
  refine lv_astore hx hb hd hv (by have := (mm_st1_of hs1).1; omega) rfl (fun lsB hB => ?_)
  exact h (p, l, e, R, s, m, args, below, meth, c, D, ad, cy, A) Z ⟨hx, hb, hml, hr, hown, hts, hlk, hK, hN, hE, hA, hd1, hd2, hfl, hsc⟩ F H locs lsB hz1 hz2 hR (mm_L.set1 (lsA := lsA) hn hm hs1 hB)
theorem mm_lstore {i : Nat} {x : Int64} (hd : decode y.2.1 pc = .ok (.lstore i, 2)) (hs1 : mm_st1 ls i = true) (hs2 : i + 1 < ls.length) (h : mm_X y d sc z (pc + 2) ((ls.set i (.long x)).set (i + 1) .null) st M Q) : mm_X y d sc z pc ls (.long x :: st) M Q := by
  intro t Z C F H locs lsA hz1 hz2 hR hL
  obtain ⟨p, l, e, R, s, m, args, below, meth, c, D, ad, cy, A⟩ := t
  obtain ⟨hx, hb, hml, hr, hown, hts, hlk, hK, hN, hE, hA, hd1, hd2, hfl, hsc⟩ := C
  obtain ⟨hn, l9, hv, hm⟩ := id hL
  refine lv_lstore hx hb hd hv (by omega) rfl (fun lsB hB => ?_)
  exact h (p, l, e, R, s, m, args, below, meth, c, D, ad, cy, A) Z ⟨hx, hb, hml, hr, hown, hts, hlk, hK, hN, hE, hA, hd1, hd2, hfl, hsc⟩ F H locs lsB hz1 hz2 hR (mm_L.set2 (lsA := lsA) hn hm hs1 hB)
theorem mm_lstore_n {k : Fin 4} {x : Int64} (hd : decode y.2.1 pc = .ok (.lstore_n k, 1)) (hs1 : mm_st1 ls (k : Nat) = true) (hs2 : (k : Nat) + 1 < ls.length) (h : mm_X y d sc z (pc + 1) ((ls.set (k : Nat) (.long x)).set ((k : Nat) + 1) .null) st M Q) : mm_X y d sc z pc ls (.long x :: st) M Q := by
  intro t Z C F H locs lsA hz1 hz2 hR hL
  obtain ⟨p, l, e, R, s, m, args, below, meth, c, D, ad, cy, A⟩ := t
  obtain ⟨hx, hb, hml, hr, hown, hts, hlk, hK, hN, hE, hA, hd1, hd2, hfl, hsc⟩ := C
  obtain ⟨hn, l9, hv, hm⟩ := id hL
  refine lv_lstore_n hx hb hd rfl hv (by omega) rfl (fun lsB hB => ?_)
  exact h (p, l, e, R, s, m, args, below, meth, c, D, ad, cy, A) Z ⟨hx, hb, hml, hr, hown, hts, hlk, hK, hN, hE, hA, hd1, hd2, hfl, hsc⟩ F H locs lsB hz1 hz2 hR (mm_L.set2 (lsA := lsA) hn hm hs1 hB)
theorem mm_iinc {i : Nat} {n : Int} {x : Int32} (hd : decode y.2.1 pc = .ok (.iinc i n, 3)) (hl : ls[i]? = some (.int x)) (hs1 : mm_st1 ls i = true) (h : mm_X y d sc z (pc + 3) (ls.set i (.int (x + Int32.ofInt n))) st M Q) : mm_X y d sc z pc ls st M Q := by
  intro t Z C F H locs lsA hz1 hz2 hR hL
  obtain ⟨p, l, e, R, s, m, args, below, meth, c, D, ad, cy, A⟩ := t
  obtain ⟨hx, hb, hml, hr, hown, hts, hlk, hK, hN, hE, hA, hd1, hd2, hfl, hsc⟩ := C
  obtain ⟨hn, l9, hv, hm⟩ := id hL
  obtain ⟨k9, hk9⟩ := List.getElem?_of_mem (hm i _ hl (fun q => by cases q))
  refine lv_iinc hx hb hd hv hk9 rfl (by have := (mm_st1_of hs1).1; omega) rfl (fun lsB hB => ?_)
  exact h (p, l, e, R, s, m, args, below, meth, c, D, ad, cy, A) Z ⟨hx, hb, hml, hr, hown, hts, hlk, hK, hN, hE, hA, hd1, hd2, hfl, hsc⟩ F H locs lsB hz1 hz2 hR (mm_L.set1 (lsA := lsA) hn hm hs1 hB)
theorem mm_iadd {x w : Int32} (hd : decode y.2.1 pc = .ok (.iadd, 1)) (h : mm_X y d sc z (pc + 1) ls (.int (x + w) :: st) M Q) : mm_X y d sc z pc ls (.int w :: .int x :: st) M Q := by
  intro t Z C F H locs lsA hz1 hz2 hR hL
  have K := h t Z C F H locs lsA hz1 hz2 hR hL
  obtain ⟨p, l, e, R, s, m, args, below, meth, c, D, ad, cy, A⟩ := t
  obtain ⟨hx, hb, hml, hr, hown, hts, hlk, hK, hN, hE, hA, hd1, hd2, hfl, hsc⟩ := C
  exact lv_iadd hx hb hd K
theorem mm_isub {x w : Int32} (hd : decode y.2.1 pc = .ok (.isub, 1)) (h : mm_X y d sc z (pc + 1) ls (.int (x - w) :: st) M Q) : mm_X y d sc z pc ls (.int w :: .int x :: st) M Q := by
  intro t Z C F H locs lsA hz1 hz2 hR hL
  have K := h t Z C F H locs lsA hz1 hz2 hR hL
  obtain ⟨p, l, e, R, s, m, args, below, meth, c, D, ad, cy, A⟩ := t
  obtain ⟨hx, hb, hml, hr, hown, hts, hlk, hK, hN, hE, hA, hd1, hd2, hfl, hsc⟩ := C
  exact lv_isub hx hb hd K
theorem mm_imul {x w : Int32} (hd : decode y.2.1 pc = .ok (.imul, 1)) (h : mm_X y d sc z (pc + 1) ls (.int (x * w) :: st) M Q) : mm_X y d sc z pc ls (.int w :: .int x :: st) M Q := by
  intro t Z C F H locs lsA hz1 hz2 hR hL
  have K := h t Z C F H locs lsA hz1 hz2 hR hL
  obtain ⟨p, l, e, R, s, m, args, below, meth, c, D, ad, cy, A⟩ := t
  obtain ⟨hx, hb, hml, hr, hown, hts, hlk, hK, hN, hE, hA, hd1, hd2, hfl, hsc⟩ := C
  exact lv_imul hx hb hd K
theorem mm_iand {x w : Int32} (hd : decode y.2.1 pc = .ok (.iand, 1)) (h : mm_X y d sc z (pc + 1) ls (.int (x &&& w) :: st) M Q) : mm_X y d sc z pc ls (.int w :: .int x :: st) M Q := by
  intro t Z C F H locs lsA hz1 hz2 hR hL
  have K := h t Z C F H locs lsA hz1 hz2 hR hL
  obtain ⟨p, l, e, R, s, m, args, below, meth, c, D, ad, cy, A⟩ := t
  obtain ⟨hx, hb, hml, hr, hown, hts, hlk, hK, hN, hE, hA, hd1, hd2, hfl, hsc⟩ := C
  exact lv_iand hx hb hd K
theorem mm_ior {x w : Int32} (hd : decode y.2.1 pc = .ok (.ior, 1)) (h : mm_X y d sc z (pc + 1) ls (.int (x ||| w) :: st) M Q) : mm_X y d sc z pc ls (.int w :: .int x :: st) M Q := by
  intro t Z C F H locs lsA hz1 hz2 hR hL
  have K := h t Z C F H locs lsA hz1 hz2 hR hL
  obtain ⟨p, l, e, R, s, m, args, below, meth, c, D, ad, cy, A⟩ := t
  obtain ⟨hx, hb, hml, hr, hown, hts, hlk, hK, hN, hE, hA, hd1, hd2, hfl, hsc⟩ := C
  exact lv_ior hx hb hd K
theorem mm_ixor {x w : Int32} (hd : decode y.2.1 pc = .ok (.ixor, 1)) (h : mm_X y d sc z (pc + 1) ls (.int (x ^^^ w) :: st) M Q) : mm_X y d sc z pc ls (.int w :: .int x :: st) M Q := by
  intro t Z C F H locs lsA hz1 hz2 hR hL
  have K := h t Z C F H locs lsA hz1 hz2 hR hL
  obtain ⟨p, l, e, R, s, m, args, below, meth, c, D, ad, cy, A⟩ := t
  obtain ⟨hx, hb, hml, hr, hown, hts, hlk, hK, hN, hE, hA, hd1, hd2, hfl, hsc⟩ := C
  exact lv_ixor hx hb hd K
theorem mm_ishl {x w : Int32} (hd : decode y.2.1 pc = .ok (.ishl, 1)) (h : mm_X y d sc z (pc + 1) ls (.int (x <<< (w &&& 31)) :: st) M Q) : mm_X y d sc z pc ls (.int w :: .int x :: st) M Q := by
  intro t Z C F H locs lsA hz1 hz2 hR hL
  have K := h t Z C F H locs lsA hz1 hz2 hR hL
  obtain ⟨p, l, e, R, s, m, args, below, meth, c, D, ad, cy, A⟩ := t
  obtain ⟨hx, hb, hml, hr, hown, hts, hlk, hK, hN, hE, hA, hd1, hd2, hfl, hsc⟩ := C
  exact lv_ishl hx hb hd K
theorem mm_ishr {x w : Int32} (hd : decode y.2.1 pc = .ok (.ishr, 1)) (h : mm_X y d sc z (pc + 1) ls (.int (x >>> (w &&& 31)) :: st) M Q) : mm_X y d sc z pc ls (.int w :: .int x :: st) M Q := by
  intro t Z C F H locs lsA hz1 hz2 hR hL
  have K := h t Z C F H locs lsA hz1 hz2 hR hL
  obtain ⟨p, l, e, R, s, m, args, below, meth, c, D, ad, cy, A⟩ := t
  obtain ⟨hx, hb, hml, hr, hown, hts, hlk, hK, hN, hE, hA, hd1, hd2, hfl, hsc⟩ := C
  exact lv_ishr hx hb hd K
theorem mm_idiv {x w : Int32} (hd : decode y.2.1 pc = .ok (.idiv, 1)) (hne : ¬ w = 0) (h : mm_X y d sc z (pc + 1) ls (.int (x / w) :: st) M Q) : mm_X y d sc z pc ls (.int w :: .int x :: st) M Q := by
  intro t Z C F H locs lsA hz1 hz2 hR hL
  have K := h t Z C F H locs lsA hz1 hz2 hR hL
  obtain ⟨p, l, e, R, s, m, args, below, meth, c, D, ad, cy, A⟩ := t
  obtain ⟨hx, hb, hml, hr, hown, hts, hlk, hK, hN, hE, hA, hd1, hd2, hfl, hsc⟩ := C
  exact lv_idiv hx hb hd hne K
theorem mm_irem {x w : Int32} (hd : decode y.2.1 pc = .ok (.irem, 1)) (hne : ¬ w = 0) (h : mm_X y d sc z (pc + 1) ls (.int (x - x / w * w) :: st) M Q) : mm_X y d sc z pc ls (.int w :: .int x :: st) M Q := by
  intro t Z C F H locs lsA hz1 hz2 hR hL
  have K := h t Z C F H locs lsA hz1 hz2 hR hL
  obtain ⟨p, l, e, R, s, m, args, below, meth, c, D, ad, cy, A⟩ := t
  obtain ⟨hx, hb, hml, hr, hown, hts, hlk, hK, hN, hE, hA, hd1, hd2, hfl, hsc⟩ := C
  exact lv_irem hx hb hd hne K
theorem mm_iushr {x w : Int32} (hd : decode y.2.1 pc = .ok (.iushr, 1)) (h : mm_X y d sc z (pc + 1) ls (.int (x.toUInt32 >>> (w.toUInt32 &&& Int32.toUInt32 31)).toInt32 :: st) M Q) : mm_X y d sc z pc ls (.int w :: .int x :: st) M Q := by
  intro t Z C F H locs lsA hz1 hz2 hR hL
  have K := h t Z C F H locs lsA hz1 hz2 hR hL
  obtain ⟨p, l, e, R, s, m, args, below, meth, c, D, ad, cy, A⟩ := t
  obtain ⟨hx, hb, hml, hr, hown, hts, hlk, hK, hN, hE, hA, hd1, hd2, hfl, hsc⟩ := C
  exact lv_iushr hx hb hd rfl K
theorem mm_ineg {x : Int32} (hd : decode y.2.1 pc = .ok (.ineg, 1)) (h : mm_X y d sc z (pc + 1) ls (.int (-x) :: st) M Q) : mm_X y d sc z pc ls (.int x :: st) M Q := by
  intro t Z C F H locs lsA hz1 hz2 hR hL
  have K := h t Z C F H locs lsA hz1 hz2 hR hL
  obtain ⟨p, l, e, R, s, m, args, below, meth, c, D, ad, cy, A⟩ := t
  obtain ⟨hx, hb, hml, hr, hown, hts, hlk, hK, hN, hE, hA, hd1, hd2, hfl, hsc⟩ := C
  exact lv_ineg hx hb hd K
theorem mm_i2l {x : Int32} (hd : decode y.2.1 pc = .ok (.i2l, 1)) (h : mm_X y d sc z (pc + 1) ls (.long x.toInt64 :: st) M Q) : mm_X y d sc z pc ls (.int x :: st) M Q := by
  intro t Z C F H locs lsA hz1 hz2 hR hL
  have K := h t Z C F H locs lsA hz1 hz2 hR hL
  obtain ⟨p, l, e, R, s, m, args, below, meth, c, D, ad, cy, A⟩ := t
  obtain ⟨hx, hb, hml, hr, hown, hts, hlk, hK, hN, hE, hA, hd1, hd2, hfl, hsc⟩ := C
  exact lv_i2l hx hb hd rfl K
theorem mm_ladd {x w : Int64} (hd : decode y.2.1 pc = .ok (.ladd, 1)) (h : mm_X y d sc z (pc + 1) ls (.long (x + w) :: st) M Q) : mm_X y d sc z pc ls (.long w :: .long x :: st) M Q := by
  intro t Z C F H locs lsA hz1 hz2 hR hL
  have K := h t Z C F H locs lsA hz1 hz2 hR hL
  obtain ⟨p, l, e, R, s, m, args, below, meth, c, D, ad, cy, A⟩ := t
  obtain ⟨hx, hb, hml, hr, hown, hts, hlk, hK, hN, hE, hA, hd1, hd2, hfl, hsc⟩ := C
  exact lv_ladd hx hb hd K
theorem mm_lsub {x w : Int64} (hd : decode y.2.1 pc = .ok (.lsub, 1)) (h : mm_X y d sc z (pc + 1) ls (.long (x - w) :: st) M Q) : mm_X y d sc z pc ls (.long w :: .long x :: st) M Q := by
  intro t Z C F H locs lsA hz1 hz2 hR hL
  have K := h t Z C F H locs lsA hz1 hz2 hR hL
  obtain ⟨p, l, e, R, s, m, args, below, meth, c, D, ad, cy, A⟩ := t
  obtain ⟨hx, hb, hml, hr, hown, hts, hlk, hK, hN, hE, hA, hd1, hd2, hfl, hsc⟩ := C
  exact lv_lsub hx hb hd K
theorem mm_lmul {x w : Int64} (hd : decode y.2.1 pc = .ok (.lmul, 1)) (h : mm_X y d sc z (pc + 1) ls (.long (x * w) :: st) M Q) : mm_X y d sc z pc ls (.long w :: .long x :: st) M Q := by
  intro t Z C F H locs lsA hz1 hz2 hR hL
  have K := h t Z C F H locs lsA hz1 hz2 hR hL
  obtain ⟨p, l, e, R, s, m, args, below, meth, c, D, ad, cy, A⟩ := t
  obtain ⟨hx, hb, hml, hr, hown, hts, hlk, hK, hN, hE, hA, hd1, hd2, hfl, hsc⟩ := C
  exact lv_lmul hx hb hd K
theorem mm_lcmp {x w : Int64} (hd : decode y.2.1 pc = .ok (.lcmp, 1)) (h : mm_X y d sc z (pc + 1) ls (.int (lg_cmp x w) :: st) M Q) : mm_X y d sc z pc ls (.long w :: .long x :: st) M Q := by
  intro t Z C F H locs lsA hz1 hz2 hR hL
  have K := h t Z C F H locs lsA hz1 hz2 hR hL
  obtain ⟨p, l, e, R, s, m, args, below, meth, c, D, ad, cy, A⟩ := t
  obtain ⟨hx, hb, hml, hr, hown, hts, hlk, hK, hN, hE, hA, hd1, hd2, hfl, hsc⟩ := C
  exact W.lcmp hx hb hd K
theorem mm_dup {v : Value} (hd : decode y.2.1 pc = .ok (.dup, 1)) (hv : v.category = 1) (h : mm_X y d sc z (pc + 1) ls (v :: v :: st) M Q) : mm_X y d sc z pc ls (v :: st) M Q := by
  intro t Z C F H locs lsA hz1 hz2 hR hL
  have K := h t Z C F H locs lsA hz1 hz2 hR hL
  obtain ⟨p, l, e, R, s, m, args, below, meth, c, D, ad, cy, A⟩ := t
  obtain ⟨hx, hb, hml, hr, hown, hts, hlk, hK, hN, hE, hA, hd1, hd2, hfl, hsc⟩ := C
  exact lv_dup hx hb hd (by rw [mm_cat]; exact hv) K
theorem mm_pop {v : Value} (hd : decode y.2.1 pc = .ok (.pop, 1)) (hv : v.category = 1) (h : mm_X y d sc z (pc + 1) ls (st) M Q) : mm_X y d sc z pc ls (v :: st) M Q := by
  intro t Z C F H locs lsA hz1 hz2 hR hL
  have K := h t Z C F H locs lsA hz1 hz2 hR hL
  obtain ⟨p, l, e, R, s, m, args, below, meth, c, D, ad, cy, A⟩ := t
  obtain ⟨hx, hb, hml, hr, hown, hts, hlk, hK, hN, hE, hA, hd1, hd2, hfl, hsc⟩ := C
  exact lv_pop hx hb hd (by rw [mm_cat]; exact hv) K
theorem mm_dup2 {v w : Value} (hd : decode y.2.1 pc = .ok (.dup2, 1)) (hv : v.category = 1) (hw : w.category = 1) (h : mm_X y d sc z (pc + 1) ls (v :: w :: v :: w :: st) M Q) : mm_X y d sc z pc ls (v :: w :: st) M Q := by
  intro t Z C F H locs lsA hz1 hz2 hR hL
  have K := h t Z C F H locs lsA hz1 hz2 hR hL
  obtain ⟨p, l, e, R, s, m, args, below, meth, c, D, ad, cy, A⟩ := t
  obtain ⟨hx, hb, hml, hr, hown, hts, hlk, hK, hN, hE, hA, hd1, hd2, hfl, hsc⟩ := C
  exact lv_dup2_11 hx hb hd (by rw [mm_cat]; exact hv) (by rw [mm_cat]; exact hw) K
theorem mm_goto {off : Int} {tgt : Nat} (hd : decode y.2.1 pc = .ok (.goto off, 3)) (ht : (pc : Int) + off = (tgt : Int)) (h : mm_X y d sc z tgt ls (st) M Q) : mm_X y d sc z pc ls (st) M Q := by
  intro t Z C F H locs lsA hz1 hz2 hR hL
  have K := h t Z C F H locs lsA hz1 hz2 hR hL
  obtain ⟨p, l, e, R, s, m, args, below, meth, c, D, ad, cy, A⟩ := t
  obtain ⟨hx, hb, hml, hr, hown, hts, hlk, hK, hN, hE, hA, hd1, hd2, hfl, hsc⟩ := C
  exact lv_goto hx hb hd ht K
theorem mm_ifnull {x : Nat} {off : Int} (hd : decode y.2.1 pc = .ok (.ifnull off, 3)) (h : mm_X y d sc z (pc + 3) ls (st) M Q) : mm_X y d sc z pc ls (.ref x :: st) M Q := by
  intro t Z C F H locs lsA hz1 hz2 hR hL
  have K := h t Z C F H locs lsA hz1 hz2 hR hL
  obtain ⟨p, l, e, R, s, m, args, below, meth, c, D, ad, cy, A⟩ := t
  obtain ⟨hx, hb, hml, hr, hown, hts, hlk, hK, hN, hE, hA, hd1, hd2, hfl, hsc⟩ := C
  exact lv_ifnull hx hb hd K
theorem mm_ldcw {i : Nat} {v : Int32} (hd : decode y.2.1 pc = .ok (.ldc_w i, 3)) (hc : Jvm.Cond.constant y.1.cls i v ∈ mm_WS) (h : mm_X y d sc z (pc + 3) ls (.int v :: st) M Q) : mm_X y d sc z pc ls (st) M Q := by
  intro t Z C F H locs lsA hz1 hz2 hR hL
  have K := h t Z C F H locs lsA hz1 hz2 hR hL
  obtain ⟨p, l, e, R, s, m, args, below, meth, c, D, ad, cy, A⟩ := t
  obtain ⟨hx, hb, hml, hr, hown, hts, hlk, hK, hN, hE, hA, hd1, hd2, hfl, hsc⟩ := C
  exact lv_ldcw hx hb hown (hts _ hc) hd K
theorem mm_ldc {i : Nat} {v : Int32} (hd : decode y.2.1 pc = .ok (.ldc i, 2)) (hc : Jvm.Cond.constant y.1.cls i v ∈ mm_WS) (h : mm_X y d sc z (pc + 2) ls (.int v :: st) M Q) : mm_X y d sc z pc ls (st) M Q := by
  intro t Z C F H locs lsA hz1 hz2 hR hL
  have K := h t Z C F H locs lsA hz1 hz2 hR hL
  obtain ⟨p, l, e, R, s, m, args, below, meth, c, D, ad, cy, A⟩ := t
  obtain ⟨hx, hb, hml, hr, hown, hts, hlk, hK, hN, hE, hA, hd1, hd2, hfl, hsc⟩ := C
  exact lv_ldc hx hb hown (hts _ hc) hd K
theorem mm_ldc2 {i : Nat} {v : Int64} (hd : decode y.2.1 pc = .ok (.ldc2_w i, 3)) (hc : Jvm.Cond.constantLong y.1.cls i v ∈ mm_WS) (h : mm_X y d sc z (pc + 3) ls (.long v :: st) M Q) : mm_X y d sc z pc ls (st) M Q := by
  intro t Z C F H locs lsA hz1 hz2 hR hL
  have K := h t Z C F H locs lsA hz1 hz2 hR hL
  obtain ⟨p, l, e, R, s, m, args, below, meth, c, D, ad, cy, A⟩ := t
  obtain ⟨hx, hb, hml, hr, hown, hts, hlk, hK, hN, hE, hA, hd1, hd2, hfl, hsc⟩ := C
  exact lv_ldc2 hx hb hown (hts _ hc) hd K
theorem mm_if_eq {x : Int32} {off : Int} {tgt : Nat} (hd : decode y.2.1 pc = .ok (.ifCond .eq off, 3)) (ht : (pc : Int) + off = (tgt : Int)) (h1 : x = 0 → mm_X y d sc z tgt ls st M Q) (h2 : ¬ x = 0 → mm_X y d sc z (pc + 3) ls st M Q) : mm_X y d sc z pc ls (.int x :: st) M Q := by
  intro t Z C F H locs lsA hz1 hz2 hR hL
  obtain ⟨p, l, e, R, s, m, args, below, meth, c, D, ad, cy, A⟩ := t
  obtain ⟨hx, hb, hml, hr, hown, hts, hlk, hK, hN, hE, hA, hd1, hd2, hfl, hsc⟩ := C
  exact lv_if_eq hx hb hd ht (fun q => h1 q (p, l, e, R, s, m, args, below, meth, c, D, ad, cy, A) Z ⟨hx, hb, hml, hr, hown, hts, hlk, hK, hN, hE, hA, hd1, hd2, hfl, hsc⟩ F H locs lsA hz1 hz2 hR hL) (fun q => h2 q (p, l, e, R, s, m, args, below, meth, c, D, ad, cy, A) Z ⟨hx, hb, hml, hr, hown, hts, hlk, hK, hN, hE, hA, hd1, hd2, hfl, hsc⟩ F H locs lsA hz1 hz2 hR hL)
theorem mm_icmp_eq {x w : Int32} {off : Int} {tgt : Nat} (hd : decode y.2.1 pc = .ok (.if_icmp .eq off, 3)) (ht : (pc : Int) + off = (tgt : Int)) (h1 : x = w → mm_X y d sc z tgt ls st M Q) (h2 : ¬ x = w → mm_X y d sc z (pc + 3) ls st M Q) : mm_X y d sc z pc ls (.int w :: .int x :: st) M Q := by
  intro t Z C F H locs lsA hz1 hz2 hR hL
  obtain ⟨p, l, e, R, s, m, args, below, meth, c, D, ad, cy, A⟩ := t
  obtain ⟨hx, hb, hml, hr, hown, hts, hlk, hK, hN, hE, hA, hd1, hd2, hfl, hsc⟩ := C
  exact lv_icmp_eq hx hb hd ht (fun q => h1 q (p, l, e, R, s, m, args, below, meth, c, D, ad, cy, A) Z ⟨hx, hb, hml, hr, hown, hts, hlk, hK, hN, hE, hA, hd1, hd2, hfl, hsc⟩ F H locs lsA hz1 hz2 hR hL) (fun q => h2 q (p, l, e, R, s, m, args, below, meth, c, D, ad, cy, A) Z ⟨hx, hb, hml, hr, hown, hts, hlk, hK, hN, hE, hA, hd1, hd2, hfl, hsc⟩ F H locs lsA hz1 hz2 hR hL)
theorem mm_if_ne {x : Int32} {off : Int} {tgt : Nat} (hd : decode y.2.1 pc = .ok (.ifCond .ne off, 3)) (ht : (pc : Int) + off = (tgt : Int)) (h1 : ¬ x = 0 → mm_X y d sc z tgt ls st M Q) (h2 : x = 0 → mm_X y d sc z (pc + 3) ls st M Q) : mm_X y d sc z pc ls (.int x :: st) M Q := by
  intro t Z C F H locs lsA hz1 hz2 hR hL
  obtain ⟨p, l, e, R, s, m, args, below, meth, c, D, ad, cy, A⟩ := t
  obtain ⟨hx, hb, hml, hr, hown, hts, hlk, hK, hN, hE, hA, hd1, hd2, hfl, hsc⟩ := C
  exact lv_if_ne hx hb hd ht (fun q => h1 q (p, l, e, R, s, m, args, below, meth, c, D, ad, cy, A) Z ⟨hx, hb, hml, hr, hown, hts, hlk, hK, hN, hE, hA, hd1, hd2, hfl, hsc⟩ F H locs lsA hz1 hz2 hR hL) (fun q => h2 q (p, l, e, R, s, m, args, below, meth, c, D, ad, cy, A) Z ⟨hx, hb, hml, hr, hown, hts, hlk, hK, hN, hE, hA, hd1, hd2, hfl, hsc⟩ F H locs lsA hz1 hz2 hR hL)
theorem mm_icmp_ne {x w : Int32} {off : Int} {tgt : Nat} (hd : decode y.2.1 pc = .ok (.if_icmp .ne off, 3)) (ht : (pc : Int) + off = (tgt : Int)) (h1 : ¬ x = w → mm_X y d sc z tgt ls st M Q) (h2 : x = w → mm_X y d sc z (pc + 3) ls st M Q) : mm_X y d sc z pc ls (.int w :: .int x :: st) M Q := by
  intro t Z C F H locs lsA hz1 hz2 hR hL
  obtain ⟨p, l, e, R, s, m, args, below, meth, c, D, ad, cy, A⟩ := t
  obtain ⟨hx, hb, hml, hr, hown, hts, hlk, hK, hN, hE, hA, hd1, hd2, hfl, hsc⟩ := C
  exact lv_icmp_ne hx hb hd ht (fun q => h1 q (p, l, e, R, s, m, args, below, meth, c, D, ad, cy, A) Z ⟨hx, hb, hml, hr, hown, hts, hlk, hK, hN, hE, hA, hd1, hd2, hfl, hsc⟩ F H locs lsA hz1 hz2 hR hL) (fun q => h2 q (p, l, e, R, s, m, args, below, meth, c, D, ad, cy, A) Z ⟨hx, hb, hml, hr, hown, hts, hlk, hK, hN, hE, hA, hd1, hd2, hfl, hsc⟩ F H locs lsA hz1 hz2 hR hL)
theorem mm_if_lt {x : Int32} {off : Int} {tgt : Nat} (hd : decode y.2.1 pc = .ok (.ifCond .lt off, 3)) (ht : (pc : Int) + off = (tgt : Int)) (h1 : x < 0 → mm_X y d sc z tgt ls st M Q) (h2 : ¬ x < 0 → mm_X y d sc z (pc + 3) ls st M Q) : mm_X y d sc z pc ls (.int x :: st) M Q := by
  intro t Z C F H locs lsA hz1 hz2 hR hL
  obtain ⟨p, l, e, R, s, m, args, below, meth, c, D, ad, cy, A⟩ := t
  obtain ⟨hx, hb, hml, hr, hown, hts, hlk, hK, hN, hE, hA, hd1, hd2, hfl, hsc⟩ := C
  exact lv_if_lt hx hb hd ht (fun q => h1 q (p, l, e, R, s, m, args, below, meth, c, D, ad, cy, A) Z ⟨hx, hb, hml, hr, hown, hts, hlk, hK, hN, hE, hA, hd1, hd2, hfl, hsc⟩ F H locs lsA hz1 hz2 hR hL) (fun q => h2 q (p, l, e, R, s, m, args, below, meth, c, D, ad, cy, A) Z ⟨hx, hb, hml, hr, hown, hts, hlk, hK, hN, hE, hA, hd1, hd2, hfl, hsc⟩ F H locs lsA hz1 hz2 hR hL)
theorem mm_icmp_lt {x w : Int32} {off : Int} {tgt : Nat} (hd : decode y.2.1 pc = .ok (.if_icmp .lt off, 3)) (ht : (pc : Int) + off = (tgt : Int)) (h1 : x < w → mm_X y d sc z tgt ls st M Q) (h2 : ¬ x < w → mm_X y d sc z (pc + 3) ls st M Q) : mm_X y d sc z pc ls (.int w :: .int x :: st) M Q := by
  intro t Z C F H locs lsA hz1 hz2 hR hL
  obtain ⟨p, l, e, R, s, m, args, below, meth, c, D, ad, cy, A⟩ := t
  obtain ⟨hx, hb, hml, hr, hown, hts, hlk, hK, hN, hE, hA, hd1, hd2, hfl, hsc⟩ := C
  exact lv_icmp_lt hx hb hd ht (fun q => h1 q (p, l, e, R, s, m, args, below, meth, c, D, ad, cy, A) Z ⟨hx, hb, hml, hr, hown, hts, hlk, hK, hN, hE, hA, hd1, hd2, hfl, hsc⟩ F H locs lsA hz1 hz2 hR hL) (fun q => h2 q (p, l, e, R, s, m, args, below, meth, c, D, ad, cy, A) Z ⟨hx, hb, hml, hr, hown, hts, hlk, hK, hN, hE, hA, hd1, hd2, hfl, hsc⟩ F H locs lsA hz1 hz2 hR hL)
theorem mm_if_ge {x : Int32} {off : Int} {tgt : Nat} (hd : decode y.2.1 pc = .ok (.ifCond .ge off, 3)) (ht : (pc : Int) + off = (tgt : Int)) (h1 : 0 ≤ x → mm_X y d sc z tgt ls st M Q) (h2 : ¬ 0 ≤ x → mm_X y d sc z (pc + 3) ls st M Q) : mm_X y d sc z pc ls (.int x :: st) M Q := by
  intro t Z C F H locs lsA hz1 hz2 hR hL
  obtain ⟨p, l, e, R, s, m, args, below, meth, c, D, ad, cy, A⟩ := t
  obtain ⟨hx, hb, hml, hr, hown, hts, hlk, hK, hN, hE, hA, hd1, hd2, hfl, hsc⟩ := C
  exact lv_if_ge hx hb hd ht (fun q => h1 q (p, l, e, R, s, m, args, below, meth, c, D, ad, cy, A) Z ⟨hx, hb, hml, hr, hown, hts, hlk, hK, hN, hE, hA, hd1, hd2, hfl, hsc⟩ F H locs lsA hz1 hz2 hR hL) (fun q => h2 q (p, l, e, R, s, m, args, below, meth, c, D, ad, cy, A) Z ⟨hx, hb, hml, hr, hown, hts, hlk, hK, hN, hE, hA, hd1, hd2, hfl, hsc⟩ F H locs lsA hz1 hz2 hR hL)
theorem mm_icmp_ge {x w : Int32} {off : Int} {tgt : Nat} (hd : decode y.2.1 pc = .ok (.if_icmp .ge off, 3)) (ht : (pc : Int) + off = (tgt : Int)) (h1 : w ≤ x → mm_X y d sc z tgt ls st M Q) (h2 : ¬ w ≤ x → mm_X y d sc z (pc + 3) ls st M Q) : mm_X y d sc z pc ls (.int w :: .int x :: st) M Q := by
  intro t Z C F H locs lsA hz1 hz2 hR hL
  obtain ⟨p, l, e, R, s, m, args, below, meth, c, D, ad, cy, A⟩ := t
  obtain ⟨hx, hb, hml, hr, hown, hts, hlk, hK, hN, hE, hA, hd1, hd2, hfl, hsc⟩ := C
  exact lv_icmp_ge hx hb hd ht (fun q => h1 q (p, l, e, R, s, m, args, below, meth, c, D, ad, cy, A) Z ⟨hx, hb, hml, hr, hown, hts, hlk, hK, hN, hE, hA, hd1, hd2, hfl, hsc⟩ F H locs lsA hz1 hz2 hR hL) (fun q => h2 q (p, l, e, R, s, m, args, below, meth, c, D, ad, cy, A) Z ⟨hx, hb, hml, hr, hown, hts, hlk, hK, hN, hE, hA, hd1, hd2, hfl, hsc⟩ F H locs lsA hz1 hz2 hR hL)
theorem mm_if_gt {x : Int32} {off : Int} {tgt : Nat} (hd : decode y.2.1 pc = .ok (.ifCond .gt off, 3)) (ht : (pc : Int) + off = (tgt : Int)) (h1 : 0 < x → mm_X y d sc z tgt ls st M Q) (h2 : ¬ 0 < x → mm_X y d sc z (pc + 3) ls st M Q) : mm_X y d sc z pc ls (.int x :: st) M Q := by
  intro t Z C F H locs lsA hz1 hz2 hR hL
  obtain ⟨p, l, e, R, s, m, args, below, meth, c, D, ad, cy, A⟩ := t
  obtain ⟨hx, hb, hml, hr, hown, hts, hlk, hK, hN, hE, hA, hd1, hd2, hfl, hsc⟩ := C
  exact lv_if_gt hx hb hd ht (fun q => h1 q (p, l, e, R, s, m, args, below, meth, c, D, ad, cy, A) Z ⟨hx, hb, hml, hr, hown, hts, hlk, hK, hN, hE, hA, hd1, hd2, hfl, hsc⟩ F H locs lsA hz1 hz2 hR hL) (fun q => h2 q (p, l, e, R, s, m, args, below, meth, c, D, ad, cy, A) Z ⟨hx, hb, hml, hr, hown, hts, hlk, hK, hN, hE, hA, hd1, hd2, hfl, hsc⟩ F H locs lsA hz1 hz2 hR hL)
theorem mm_icmp_gt {x w : Int32} {off : Int} {tgt : Nat} (hd : decode y.2.1 pc = .ok (.if_icmp .gt off, 3)) (ht : (pc : Int) + off = (tgt : Int)) (h1 : w < x → mm_X y d sc z tgt ls st M Q) (h2 : ¬ w < x → mm_X y d sc z (pc + 3) ls st M Q) : mm_X y d sc z pc ls (.int w :: .int x :: st) M Q := by
  intro t Z C F H locs lsA hz1 hz2 hR hL
  obtain ⟨p, l, e, R, s, m, args, below, meth, c, D, ad, cy, A⟩ := t
  obtain ⟨hx, hb, hml, hr, hown, hts, hlk, hK, hN, hE, hA, hd1, hd2, hfl, hsc⟩ := C
  exact lv_icmp_gt hx hb hd ht (fun q => h1 q (p, l, e, R, s, m, args, below, meth, c, D, ad, cy, A) Z ⟨hx, hb, hml, hr, hown, hts, hlk, hK, hN, hE, hA, hd1, hd2, hfl, hsc⟩ F H locs lsA hz1 hz2 hR hL) (fun q => h2 q (p, l, e, R, s, m, args, below, meth, c, D, ad, cy, A) Z ⟨hx, hb, hml, hr, hown, hts, hlk, hK, hN, hE, hA, hd1, hd2, hfl, hsc⟩ F H locs lsA hz1 hz2 hR hL)
theorem mm_if_le {x : Int32} {off : Int} {tgt : Nat} (hd : decode y.2.1 pc = .ok (.ifCond .le off, 3)) (ht : (pc : Int) + off = (tgt : Int)) (h1 : x ≤ 0 → mm_X y d sc z tgt ls st M Q) (h2 : ¬ x ≤ 0 → mm_X y d sc z (pc + 3) ls st M Q) : mm_X y d sc z pc ls (.int x :: st) M Q := by
  intro t Z C F H locs lsA hz1 hz2 hR hL
  obtain ⟨p, l, e, R, s, m, args, below, meth, c, D, ad, cy, A⟩ := t
  obtain ⟨hx, hb, hml, hr, hown, hts, hlk, hK, hN, hE, hA, hd1, hd2, hfl, hsc⟩ := C
  exact lv_if_le hx hb hd ht (fun q => h1 q (p, l, e, R, s, m, args, below, meth, c, D, ad, cy, A) Z ⟨hx, hb, hml, hr, hown, hts, hlk, hK, hN, hE, hA, hd1, hd2, hfl, hsc⟩ F H locs lsA hz1 hz2 hR hL) (fun q => h2 q (p, l, e, R, s, m, args, below, meth, c, D, ad, cy, A) Z ⟨hx, hb, hml, hr, hown, hts, hlk, hK, hN, hE, hA, hd1, hd2, hfl, hsc⟩ F H locs lsA hz1 hz2 hR hL)
theorem mm_icmp_le {x w : Int32} {off : Int} {tgt : Nat} (hd : decode y.2.1 pc = .ok (.if_icmp .le off, 3)) (ht : (pc : Int) + off = (tgt : Int)) (h1 : x ≤ w → mm_X y d sc z tgt ls st M Q) (h2 : ¬ x ≤ w → mm_X y d sc z (pc + 3) ls st M Q) : mm_X y d sc z pc ls (.int w :: .int x :: st) M Q := by
  intro t Z C F H locs lsA hz1 hz2 hR hL
  obtain ⟨p, l, e, R, s, m, args, below, meth, c, D, ad, cy, A⟩ := t
  obtain ⟨hx, hb, hml, hr, hown, hts, hlk, hK, hN, hE, hA, hd1, hd2, hfl, hsc⟩ := C
  exact lv_icmp_le hx hb hd ht (fun q => h1 q (p, l, e, R, s, m, args, below, meth, c, D, ad, cy, A) Z ⟨hx, hb, hml, hr, hown, hts, hlk, hK, hN, hE, hA, hd1, hd2, hfl, hsc⟩ F H locs lsA hz1 hz2 hR hL) (fun q => h2 q (p, l, e, R, s, m, args, below, meth, c, D, ad, cy, A) Z ⟨hx, hb, hml, hr, hown, hts, hlk, hK, hN, hE, hA, hd1, hd2, hfl, hsc⟩ F H locs lsA hz1 hz2 hR hL)
theorem mm_tableOut {dflt lo hi : Int} {offs : Array Int} {len : Nat} {x : Int32} {tgt : Nat} (hd : decode y.2.1 pc = .ok (.tableswitch dflt lo hi offs, len)) (hx0 : x.toInt < lo ∨ hi < x.toInt) (ht : (pc : Int) + dflt = (tgt : Int)) (h : mm_X y d sc z tgt ls st M Q) : mm_X y d sc z pc ls (.int x :: st) M Q := by
  intro t Z C F H locs lsA hz1 hz2 hR hL
  have K := h t Z C F H locs lsA hz1 hz2 hR hL
  obtain ⟨p, l, e, R, s, m, args, below, meth, c, D, ad, cy, A⟩ := t
  obtain ⟨hx, hb, hml, hr, hown, hts, hlk, hK, hN, hE, hA, hd1, hd2, hfl, hsc⟩ := C
  exact lv_tableOut hx hb hd hx0 ht K
theorem mm_tableIn {dflt lo hi : Int} {offs : Array Int} {len : Nat} {x : Int32} {off : Int} {tgt : Nat} (hd : decode y.2.1 pc = .ok (.tableswitch dflt lo hi offs, len)) (h1 : ¬ x.toInt < lo) (h2 : ¬ hi < x.toInt) (ho : offs[(x.toInt - lo).toNat]? = some off) (ht : (pc : Int) + off = (tgt : Int)) (h : mm_X y d sc z tgt ls st M Q) : mm_X y d sc z pc ls (.int x :: st) M Q := by
  intro t Z C F H locs lsA hz1 hz2 hR hL
  have K := h t Z C F H locs lsA hz1 hz2 hR hL
  obtain ⟨p, l, e, R, s, m, args, below, meth, c, D, ad, cy, A⟩ := t
  obtain ⟨hx, hb, hml, hr, hown, hts, hlk, hK, hN, hE, hA, hd1, hd2, hfl, hsc⟩ := C
  exact lv_tableIn hx hb hd h1 h2 ho ht K
/-- field k of class ci, as class own's constant idx names it -/
def mm_FS (own : String) (idx ci k : Nat) : Prop := ∃ (C : String) (T : u_T) (N : Nat) (ty : Nat → FieldType), vwCl[ci]? = some (C, T, N) ∧ k < N ∧ Cond.fieldLink own idx C (T k).2.1 (T k).2.2.1 ∈ mm_WS ∧ (T k).1 = C ∧ (∀ w ∈ u_ws C T N, w ∈ mm_WS) ∧ (∀ k, k < N → parseFieldDescriptor (T k).2.2.1 = some (ty k)) ∧ (∀ a, a < N → ∀ b, b < N → a ≠ b → (T a).2.1 ≠ (T b).2.1)
/-- .. an int field that may be written -/
def mm_FI (own : String) (idx ci k : Nat) : Prop := mm_FS own idx ci k ∧ ∀ (C : String) (T : u_T) (N : Nat), vwCl[ci]? = some (C, T, N) → (T k).2.2.2 = false ∧ parseFieldDescriptor (T k).2.2.1 = some .int
def mm_FL (own : String) (idx ci k : Nat) : Prop := mm_FS own idx ci k ∧ ∀ (C : String) (T : u_T) (N : Nat), vwCl[ci]? = some (C, T, N) → (T k).2.2.2 = false ∧ parseFieldDescriptor (T k).2.2.1 = some .long
theorem mm_ob {D : va_G} {ad : Nat → Nat} {cy : Nat → ClassId} {M : mm_Mem} {a ci : Nat} {fs : List Value} (ha : a < mm_K) (hM : M a = mm_aO ci fs) : (mm_ws ad cy M)[a]? = some (ad a, .inr (ci, fs.map (mm_cv ad))) := by
  rw [mm_ws_at ha, hM]
  rfl
theorem mm_getfield {a idx ci k : Nat} {fs : List Value} {v : Value} (hd : decode y.2.1 pc = .ok (.getfield idx, 3)) (hF : mm_FS y.1.cls idx ci k) (ha : a < mm_K) (hM : M a = mm_aO ci fs) (hv : fs[k]? = some v) (h : mm_X y d sc z (pc + 3) ls (v :: st) M Q) : mm_X y d sc z pc ls (.ref a :: st) M Q := by
  intro t Z C F H locs lsA hz1 hz2 hR hL
  have K := h t Z C F H locs lsA hz1 hz2 hR hL
  obtain ⟨p, l, e, R, s, m, args, below, meth, c, D, ad, cy, A⟩ := t
  obtain ⟨hx, hb, hml, hr, hown, hts, hlk, hK, hN, hE, hA, hd1, hd2, hfl, hsc⟩ := C
  obtain ⟨C0, T, N, ty, c1, c2, c3, c4, c5, c6, c7⟩ := hF
  have hR1 := hR.1
  exact va_get hx hb hts c5 hown hK hR1 a (mm_ob (D := D) ha hM) c1 k c2 (hts _ c3) (fun x h => by rw [c4] at h; exact h) (v := mm_cv ad v) (by rw [List.getElem?_map, hv]; rfl) hd K
theorem mm_wsp {D : va_G} {ad : Nat → Nat} {cy : Nat → ClassId} {M : mm_Mem} {a ci k : Nat} {fs : List Value} {v : Value} (ha : a < mm_K) : (mm_ws ad cy M).set a (ad a, .inr (ci, (fs.map (mm_cv ad)).set k (mm_cv ad v))) = mm_ws ad cy (mm_up M a (mm_aO ci (fs.set k v))) := by
  rw [← mm_ws_up ha]
  simp [mm_cc, List.map_set]
theorem mm_puti {a idx ci k : Nat} {fs : List Value} {x : Int32} (hd : decode y.2.1 pc = .ok (.putfield idx, 3)) (hF : mm_FI y.1.cls idx ci k) (ha : a < mm_K) (hM : M a = mm_aO ci fs) (hl : k < fs.length) (h : mm_X y d sc z (pc + 3) ls st (mm_up M a (mm_aO ci (fs.set k (.int x)))) Q) : mm_X y d sc z pc ls (.int x :: .ref a :: st) M Q := by
  intro t Z C F H locs lsA hz1 hz2 hR hL
  obtain ⟨p, l, e, R, s, m, args, below, meth, c, D, ad, cy, A⟩ := t
  obtain ⟨hx, hb, hml, hr, hown, hts, hlk, hK, hN, hE, hA, hd1, hd2, hfl, hsc⟩ := C
  obtain ⟨⟨C0, T, N, ty, c1, c2, c3, c4, c5, c6, c7⟩, c8⟩ := hF
  obtain ⟨c9, c10⟩ := c8 _ _ _ c1
  obtain ⟨r1, r2, r3⟩ := hR
  refine va_put hx hb hts c5 ty c6 c7 hown hK r1 r2 r3 a (mm_ob (D := D) ha hM) c1 k c2 (hts _ c3) (fun x h => by rw [c4] at h; exact h) c9 c10 rfl rfl (by rw [List.length_map]; exact hl) hd (fun H1 locs1 q1 q2 q3 => ?_)
  rw [show Value.int x = mm_cv ad (.int x) from rfl, mm_wsp (D := D) ha] at q1 q2
  exact h (p, l, e, R, s, m, args, below, meth, c, D, ad, cy, A) Z ⟨hx, hb, hml, hr, hown, hts, hlk, hK, hN, hE, hA, hd1, hd2, hfl, hsc⟩ F H1 locs1 lsA hz1 hz2 ⟨q1, q2, q3⟩ hL
theorem mm_putl {a idx ci k : Nat} {fs : List Value} {x : Int64} (hd : decode y.2.1 pc = .ok (.putfield idx, 3)) (hF : mm_FL y.1.cls idx ci k) (ha : a < mm_K) (hM : M a = mm_aO ci fs) (hl : k < fs.length) (h : mm_X y d sc z (pc + 3) ls st (mm_up M a (mm_aO ci (fs.set k (.long x)))) Q) : mm_X y d sc z pc ls (.long x :: .ref a :: st) M Q := by
  intro t Z C F H locs lsA hz1 hz2 hR hL
  obtain ⟨p, l, e, R, s, m, args, below, meth, c, D, ad, cy, A⟩ := t
  obtain ⟨hx, hb, hml, hr, hown, hts, hlk, hK, hN, hE, hA, hd1, hd2, hfl, hsc⟩ := C
  obtain ⟨⟨C0, T, N, ty, c1, c2, c3, c4, c5, c6, c7⟩, c8⟩ := hF
  obtain ⟨c9, c10⟩ := c8 _ _ _ c1
  obtain ⟨r1, r2, r3⟩ := hR
  refine va_put hx hb hts c5 ty c6 c7 hown hK r1 r2 r3 a (mm_ob (D := D) ha hM) c1 k c2 (hts _ c3) (fun x h => by rw [c4] at h; exact h) c9 c10 rfl rfl (by rw [List.length_map]; exact hl) hd (fun H1 locs1 q1 q2 q3 => ?_)
  rw [show Value.long x = mm_cv ad (.long x) from rfl, mm_wsp (D := D) ha] at q1 q2
  exact h (p, l, e, R, s, m, args, below, meth, c, D, ad, cy, A) Z ⟨hx, hb, hml, hr, hown, hts, hlk, hK, hN, hE, hA, hd1, hd2, hfl, hsc⟩ F H1 locs1 lsA hz1 hz2 ⟨q1, q2, q3⟩ hL
theorem mm_iald {a n : Nat} {f : Nat → Int32} {i : Int32} (hd : decode y.2.1 pc = .ok (.iaload, 1)) (ha : a < mm_K) (hM : M a = mm_aI n f) (hi : vp_in i n) (h : mm_X y d sc z (pc + 1) ls (.int (f i.toNatClampNeg) :: st) M Q) : mm_X y d sc z pc ls (.int i :: .ref a :: st) M Q := by
  intro t Z C F H locs lsA hz1 hz2 hR hL
  have K := h t Z C F H locs lsA hz1 hz2 hR hL
  obtain ⟨p, l, e, R, s, m, args, below, meth, c, D, ad, cy, A⟩ := t
  obtain ⟨hx, hb, hml, hr, hown, hts, hlk, hK, hN, hE, hA, hd1, hd2, hfl, hsc⟩ := C
  exact va_iald hx hb hK hR.1 a 0 (by rw [mm_ws_at ha, hM]; rfl) rfl hi hd K
theorem mm_lald {a n : Nat} {f : Nat → Int64} {i : Int32} (hd : decode y.2.1 pc = .ok (.laload, 1)) (ha : a < mm_K) (hM : M a = mm_aJ n f) (hi : vp_in i n) (h : mm_X y d sc z (pc + 1) ls (.long (f i.toNatClampNeg) :: st) M Q) : mm_X y d sc z pc ls (.int i :: .ref a :: st) M Q := by
  intro t Z C F H locs lsA hz1 hz2 hR hL
  have K := h t Z C F H locs lsA hz1 hz2 hR hL
  obtain ⟨p, l, e, R, s, m, args, below, meth, c, D, ad, cy, A⟩ := t
  obtain ⟨hx, hb, hml, hr, hown, hts, hlk, hK, hN, hE, hA, hd1, hd2, hfl, hsc⟩ := C
  exact va_lald hx hb hK hR.1 a 1 (by rw [mm_ws_at ha, hM]; rfl) rfl hi hd K
theorem mm_zald {a n : Nat} {f : Nat → Int32} {i : Int32} (hd : decode y.2.1 pc = .ok (.baload, 1)) (ha : a < mm_K) (hM : M a = mm_aZ n f) (hi : vp_in i n) (h : mm_X y d sc z (pc + 1) ls (.int (f i.toNatClampNeg) :: st) M Q) : mm_X y d sc z pc ls (.int i :: .ref a :: st) M Q := by
  intro t Z C F H locs lsA hz1 hz2 hR hL
  have K := h t Z C F H locs lsA hz1 hz2 hR hL
  obtain ⟨p, l, e, R, s, m, args, below, meth, c, D, ad, cy, A⟩ := t
  obtain ⟨hx, hb, hml, hr, hown, hts, hlk, hK, hN, hE, hA, hd1, hd2, hfl, hsc⟩ := C
  exact va_zald hx hb hK hR.1 a 2 (by rw [mm_ws_at ha, hM]; rfl) rfl hi hd K
theorem mm_iast {a n : Nat} {f : Nat → Int32} {i : Int32} {x : Int32} (hd : decode y.2.1 pc = .ok (.iastore, 1)) (ha : a < mm_K) (hM : M a = mm_aI n f) (hi : vp_in i n) (h : mm_X y d sc z (pc + 1) ls st (mm_up M a (mm_aI n (upd f i.toNatClampNeg x))) Q) : mm_X y d sc z pc ls (.int x :: .int i :: .ref a :: st) M Q := by
  intro t Z C F H locs lsA hz1 hz2 hR hL
  obtain ⟨p, l, e, R, s, m, args, below, meth, c, D, ad, cy, A⟩ := t
  obtain ⟨hx, hb, hml, hr, hown, hts, hlk, hK, hN, hE, hA, hd1, hd2, hfl, hsc⟩ := C
  obtain ⟨r1, r2, r3⟩ := hR
  refine va_iast hx hb hK r1 r2 r3 a 0 (by rw [mm_ws_at ha, hM]; rfl) rfl hi hd (fun H1 locs1 q1 q2 q3 => ?_)
  have e7 := mm_ws_up (ad := ad) (cy := cy) (M := M) (c := mm_aI n (upd f i.toNatClampNeg x)) ha
  simp only [mm_cc] at e7
  rw [e7] at q1 q2
  exact h (p, l, e, R, s, m, args, below, meth, c, D, ad, cy, A) Z ⟨hx, hb, hml, hr, hown, hts, hlk, hK, hN, hE, hA, hd1, hd2, hfl, hsc⟩ F H1 locs1 lsA hz1 hz2 ⟨q1, q2, q3⟩ hL
theorem mm_last {a n : Nat} {f : Nat → Int64} {i : Int32} {x : Int64} (hd : decode y.2.1 pc = .ok (.lastore, 1)) (ha : a < mm_K) (hM : M a = mm_aJ n f) (hi : vp_in i n) (h : mm_X y d sc z (pc + 1) ls st (mm_up M a (mm_aJ n (vp_updL f i.toNatClampNeg x))) Q) : mm_X y d sc z pc ls (.long x :: .int i :: .ref a :: st) M Q := by
  intro t Z C F H locs lsA hz1 hz2 hR hL
  obtain ⟨p, l, e, R, s, m, args, below, meth, c, D, ad, cy, A⟩ := t
  obtain ⟨hx, hb, hml, hr, hown, hts, hlk, hK, hN, hE, hA, hd1, hd2, hfl, hsc⟩ := C
  obtain ⟨r1, r2, r3⟩ := hR
  refine va_last hx hb hK r1 r2 r3 a 1 (by rw [mm_ws_at ha, hM]; rfl) rfl hi hd (fun H1 locs1 q1 q2 q3 => ?_)
  have e7 := mm_ws_up (ad := ad) (cy := cy) (M := M) (c := mm_aJ n (vp_updL f i.toNatClampNeg x)) ha
  simp only [mm_cc] at e7
  rw [e7] at q1 q2
  exact h (p, l, e, R, s, m, args, below, meth, c, D, ad, cy, A) Z ⟨hx, hb, hml, hr, hown, hts, hlk, hK, hN, hE, hA, hd1, hd2, hfl, hsc⟩ F H1 locs1 lsA hz1 hz2 ⟨q1, q2, q3⟩ hL
theorem mm_zast {a n : Nat} {f : Nat → Int32} {i : Int32} {x : Int32} (hd : decode y.2.1 pc = .ok (.bastore, 1)) (ha : a < mm_K) (hM : M a = mm_aZ n f) (hi : vp_in i n) (h : mm_X y d sc z (pc + 1) ls st (mm_up M a (mm_aZ n (upd f i.toNatClampNeg (vp_nar .boolean x)))) Q) : mm_X y d sc z pc ls (.int x :: .int i :: .ref a :: st) M Q := by
  intro t Z C F H locs lsA hz1 hz2 hR hL
  obtain ⟨p, l, e, R, s, m, args, below, meth, c, D, ad, cy, A⟩ := t
  obtain ⟨hx, hb, hml, hr, hown, hts, hlk, hK, hN, hE, hA, hd1, hd2, hfl, hsc⟩ := C
  obtain ⟨r1, r2, r3⟩ := hR
  refine va_zast hx hb hK r1 r2 r3 a 2 (by rw [mm_ws_at ha, hM]; rfl) rfl hi hd (fun H1 locs1 q1 q2 q3 => ?_)
  have e7 := mm_ws_up (ad := ad) (cy := cy) (M := M) (c := mm_aZ n (upd f i.toNatClampNeg (vp_nar .boolean x))) ha
  simp only [mm_cc] at e7
  rw [e7] at q1 q2
  exact h (p, l, e, R, s, m, args, below, meth, c, D, ad, cy, A) Z ⟨hx, hb, hml, hr, hown, hts, hlk, hK, hN, hE, hA, hd1, hd2, hfl, hsc⟩ F H1 locs1 lsA hz1 hz2 ⟨q1, q2, q3⟩ hL
theorem mm_alen {a n : Nat} {f : Nat → Int32} (hd : decode y.2.1 pc = .ok (.arraylength, 1)) (ha : a < mm_K) (hM : M a = mm_aI n f) (h : mm_X y d sc z (pc + 1) ls (.int (Int32.ofNat n) :: st) M Q) : mm_X y d sc z pc ls (.ref a :: st) M Q := by
  intro t Z C F H locs lsA hz1 hz2 hR hL
  have K := h t Z C F H locs lsA hz1 hz2 hR hL
  obtain ⟨p, l, e, R, s, m, args, below, meth, c, D, ad, cy, A⟩ := t
  obtain ⟨hx, hb, hml, hr, hown, hts, hlk, hK, hN, hE, hA, hd1, hd2, hfl, hsc⟩ := C
  exact va_alen (x := (n, .inl f)) hx hb hK hR.1 a 0 (by rw [mm_ws_at ha, hM]; rfl) rfl rfl hd K
theorem mm_alenL {a n : Nat} {f : Nat → Int64} (hd : decode y.2.1 pc = .ok (.arraylength, 1)) (ha : a < mm_K) (hM : M a = mm_aJ n f) (h : mm_X y d sc z (pc + 1) ls (.int (Int32.ofNat n) :: st) M Q) : mm_X y d sc z pc ls (.ref a :: st) M Q := by
  intro t Z C F H locs lsA hz1 hz2 hR hL
  have K := h t Z C F H locs lsA hz1 hz2 hR hL
  obtain ⟨p, l, e, R, s, m, args, below, meth, c, D, ad, cy, A⟩ := t
  obtain ⟨hx, hb, hml, hr, hown, hts, hlk, hK, hN, hE, hA, hd1, hd2, hfl, hsc⟩ := C
  exact va_alen (x := (n, .inr (.inl f))) hx hb hK hR.1 a 1 (by rw [mm_ws_at ha, hM]; rfl) rfl rfl hd K
theorem mm_sld {L : Nat} {xs : Nat → Int32} {i : Int32} (hd : decode y.2.1 pc = .ok (.iaload, 1)) (hi : vp_in i L) (h : mm_X y d (some (L, xs)) z (pc + 1) ls (.int (xs i.toNatClampNeg) :: st) M Q) : mm_X y d (some (L, xs)) z pc ls (.int i :: .ref mm_scr :: st) M Q := by
  intro t Z C F H locs lsA hz1 hz2 hR hL
  have K := h t Z C F H locs lsA hz1 hz2 hR hL
  obtain ⟨p, l, e, R, s, m, args, below, meth, c, D, ad, cy, A⟩ := t
  obtain ⟨hx, hb, hml, hr, hown, hts, hlk, hK, hN, hE, hA, hd1, hd2, hfl, hsc⟩ := C
  obtain ⟨s1, s2, s3, -⟩ := hsc
  exact va_sld hx hb s1 s2 s3 hR.2.2 hi hd K
theorem mm_slen {L : Nat} {xs : Nat → Int32} (hd : decode y.2.1 pc = .ok (.arraylength, 1)) (h : mm_X y d (some (L, xs)) z (pc + 1) ls (.int (Int32.ofNat L) :: st) M Q) : mm_X y d (some (L, xs)) z pc ls (.ref mm_scr :: st) M Q := by
  intro t Z C F H locs lsA hz1 hz2 hR hL
  have K := h t Z C F H locs lsA hz1 hz2 hR hL
  obtain ⟨p, l, e, R, s, m, args, below, meth, c, D, ad, cy, A⟩ := t
  obtain ⟨hx, hb, hml, hr, hown, hts, hlk, hK, hN, hE, hA, hd1, hd2, hfl, hsc⟩ := C
  obtain ⟨s1, s2, s3, -⟩ := hsc
  exact va_slen hx hb s1 s2 s3 hR.2.2 hd K
theorem mm_stop {r : Option Value} (he : mm_end y pc r) (hs : st = mm_endS r) (hq : Q r M) : mm_X y d sc z pc ls st M Q := by
  intro t Z C F H locs lsA hz1 hz2 hR hL
  obtain ⟨p, l, e, R, s, m, args, below, meth, c, D, ad, cy, A⟩ := t
  obtain ⟨hx, hb, hml, hr, hown, hts, hlk, hK, hN, hE, hA, hd1, hd2, hfl, hsc⟩ := C
  subst hs
  obtain ⟨hn, l9, hv, hm⟩ := hL
  exact F r M H locs z pc lsA hq hR hz1 hz2 hv.1 he
theorem mm_ireturn {x : Int32} (hd : decode y.2.1 pc = .ok (.ireturn, 1)) (ty : FieldType) (hy : y.2.2.2 = some ty) (hn : narrow ty (.int x) = .int x) (hq : Q (some (.int x)) M) : mm_X y d sc z pc ls [.int x] M Q := mm_stop (r := some (.int x)) ⟨hd, ty, hy, hn⟩ rfl hq
theorem mm_lreturn {x : Int64} (hd : decode y.2.1 pc = .ok (.lreturn, 1)) (hy : y.2.2.2 = some .long) (hq : Q (some (.long x)) M) : mm_X y d sc z pc ls [.long x] M Q := mm_stop (r := some (.long x)) ⟨hd, hy⟩ rfl hq
theorem mm_areturn {x : Nat} (hd : decode y.2.1 pc = .ok (.areturn, 1)) (nm : String) (hy : y.2.2.2 = some (.object nm)) (hq : Q (some (.ref x)) M) : mm_X y d sc z pc ls [.ref x] M Q := mm_stop (r := some (.ref x)) ⟨hd, nm, hy⟩ rfl hq
theorem mm_return (hd : decode y.2.1 pc = .ok (.return_, 1)) (hy : y.2.2.2 = none) (hq : Q none M) : mm_X y d sc z pc ls [] M Q := mm_stop (r := none) ⟨hd, hy⟩ rfl hq
theorem mm_throw {k : Nat} (hd : decode y.2.1 pc = .ok (.new k, 3)) (hq : Q mm_thrown M) : mm_X y d sc z pc ls [] M Q := mm_stop (r := mm_thrown) ⟨k, hd⟩ rfl hq
theorem mm_X.mono {Q' : Option Value → mm_Mem → Prop} (h : mm_X y d sc z pc ls st M Q) (hq : ∀ r M', Q r M' → Q' r M') : mm_X y d sc z pc ls st M Q' := by
  intro t Z C F
  refine h t Z C ?_
  obtain ⟨p, l, e, R, s, m, args, below, meth, c, D, ad, cy, A⟩ := t
  exact fun r M1 H locs z pc lsA hq1 => F r M1 H locs z pc lsA (hq r M1 hq1)
end MM
/-! CONTRACTS: mm_S d y mc ms av M P: method y, called with av over the memory M, with d frames of room, returns r over M' with P r M' (at most mc new cells of ms slots) -/
def mm_rm (d mc ms : Nat) : Room := { frames := d, cells := mc, slots := ms, locals := 40 * d }
def mm_w (y : mm_MR) : List Cond := .code y.1 y.2.1 y.2.2.1 y.2.2.2 :: mm_WS
def mm_Pc (D : va_G) (ad : Nat → Nat) (cy : Nat → ClassId) (A : Nat → Prop) (av : List Value) (M : mm_Mem) : Array Value → State → Prop := fun a U =>
  a = (av.map (mm_cv ad)).toArray ∧ va_P D vwCl (mm_ws ad cy M) U.heap ∧ va_D A (mm_ws ad cy M) ∧ va_K D vwCl (mm_tys cy) U ∧ mm_NWs U ∧ mm_E A U U.heap ∧ ∀ q, U.heap.size ≤ q → A q
def mm_Qc (D : va_G) (ad : Nat → Nat) (cy : Nat → ClassId) (A : Nat → Prop) (P : Option Value → mm_Mem → Prop) : Array Value → State → Outcome → State → Prop := fun _ st o t =>
  (∃ (r : Option Value) (M' : mm_Mem), P r M' ∧ o = .returned (r.map (mm_cv ad)) ∧ va_P D vwCl (mm_ws ad cy M') t.heap ∧ va_D A (mm_ws ad cy M')) ∧ va_F A st t
def mm_S (d : Nat) (y : mm_MR) (mc ms : Nat) (av : List Value) (M : mm_Mem) (P : Option Value → mm_Mem → Prop) : Prop :=
  ∀ (l : Launch) (D : va_G) (ad : Nat → Nat) (cy : Nat → ClassId) (A : Nat → Prop), l.flags = flags0 → Met l y.1 (mm_w y) (mm_rm d mc ms) (mm_Pc D ad cy A av M) (mm_Qc D ad cy A P) mc ms A
theorem mm_blind {D : va_G} {ad : Nat → Nat} {cy : Nat → ClassId} {A : Nat → Prop} {av : List Value} {M : mm_Mem} : FrameBlind (mm_Pc D ad cy A av M) := by
  intro a U g mk h
  obtain ⟨h1, h2, h3, h4, h5, h6, h7⟩ := h
  exact ⟨h1, h2, h3, va_K.moved (u := U) (U := U.calling g mk a) (Vm.Alike.refl U.vm) h4, mm_NWs.same (s := U) rfl h5, mm_E.moved (u := U) (U := U.calling g mk a) (Vm.Alike.refl U.vm) h6, h7⟩
def mm_c1 (v : Value) : Bool := match v with
  | .int _ => true
  | .ref _ => true
  | _ => false
theorem mm_c1_of {v : Value} (h : mm_c1 v = true) : v ≠ .null ∧ v.category = 1 := by
  cases v <;> simp_all [mm_c1, Value.category]
theorem mm_lg {ad : Nat → Nat} : ∀ (av : List Value), (∀ v ∈ av, v.category = 1) → lg_sl (av.map (mm_cv ad)) = (av.map (mm_cv ad)).map Slot.val
  | [], _ => rfl
  | v :: vs, h => by
    have h1 : (mm_cv ad v).category = 1 := by rw [mm_cat]; exact h v List.mem_cons_self
    have h2 := mm_lg (ad := ad) vs (fun w hw => h w (List.mem_cons_of_mem _ hw))
    simp only [lg_sl, List.map_cons, List.flatMap_cons, h1] at h2 ⊢
    rw [h2]
    rfl
theorem mm_args {ad : Nat → Nat} : ∀ (av : List Value) (k : Nat), (∀ v ∈ av, v.category = 1) → ∀ (i : Nat) (v : Value), av[i]? = some v → (k + i, mm_cv ad v) ∈ lv_args k (av.map (mm_cv ad))
  | [], _, _, i, v, hi => by simp at hi
  | w :: ws, k, h, i, v, hi => by
    have h1 : (mm_cv ad w).category = 1 := by rw [mm_cat]; exact h w List.mem_cons_self
    simp only [List.map_cons, lv_args, h1]
    cases i with
    | zero =>
      rw [List.getElem?_cons_zero] at hi
      cases hi
      exact List.mem_cons_self
    | succ i =>
      rw [List.getElem?_cons_succ] at hi
      have h2 := mm_args (ad := ad) ws (k + 1) (fun w hw => h w (List.mem_cons_of_mem _ hw)) i v hi
      rw [show k + (i + 1) = k + 1 + i from by omega]
      exact List.mem_cons_of_mem _ h2
theorem mm_S.of {d : Nat} {y : mm_MR} {av : List Value} {M : mm_Mem} {P : Option Value → mm_Mem → Prop} (hp : plainName y.1.cls = true) (hav : av.all mm_c1 = true) (hlen : av.length ≤ y.2.2.1) (hthr : ∀ r M', P r M' → ∀ x, r ≠ some (.double x))
    (h : mm_X y d none (0, 0) 0 (av ++ List.replicate (y.2.2.1 - av.length) .null) [] M P) : mm_S d y 0 0 av M P := by
  intro l D ad cy A hfl
  have hc : ∀ v ∈ av, v.category = 1 := fun v hv => (mm_c1_of (List.all_eq_true.mp hav v hv)).2
  refine Met.ofW (cc := y.2.1) (maxL := y.2.2.1) (ret := y.2.2.2) hp rfl ?_
  intro p e s m args below meth c s₁ B hml hv
  obtain ⟨rfl, v1, v2, v3, v4, v5, v6⟩ := hv
  have hts := atoms_spec (ws := mm_w y) B.pre
  have hown : s.vm.findClass y.1.cls = some m.cls := findClass_of_methodNamed B.named
  have hl := lv_entry (av.map (mm_cv ad)) (n := y.2.2.1) (by rw [mm_lg av hc]; simpa using hlen)
  rw [lg_entry_eq]
  generalize (lg_sl (av.map (mm_cv ad)) ++ List.replicate (y.2.2.1 - (lg_sl (av.map (mm_cv ad))).length) Slot.unset).toArray = lsA at hl ⊢
  refine h (p, l, e, (headSpec (mm_w y) (mm_rm d 0 0)).room, s, m, (av.map (mm_cv ad)).toArray, below, meth, c, D, ad, cy, A) (MQ below (mm_Qc D ad cy A P) (av.map (mm_cv ad)).toArray s 0 0 A)
    ⟨B.exec, B.bytes, hml, B.returns, hown, fun w hw => hts w (List.mem_cons_of_mem _ hw), B.notSynchronized, v3, v4, v5, v6, Nat.le_refl d, Nat.le_refl (40 * d), hfl, trivial⟩ ?_ s.heap [] lsA (Nat.le_refl 0) (Nat.le_refl 0) ⟨v1, v2, va_S.rf⟩ ⟨?_, _, hl, ?_⟩
  · intro r M' H locs z pc lsB hq hR hz1 hz2 hsz hend
    obtain ⟨r1, r2, r3⟩ := hR
    have e1 : z.1 = 0 := Nat.le_zero.mp hz1
    have e2 : z.2 = 0 := Nat.le_zero.mp hz2
    have hx := B.exec
    have hb := B.bytes
    have hr := B.returns
    have hlocks := B.notSynchronized
    show W p l e _ s m _ below meth c H locs z.1 z.2 _ _
    rw [e1, e2]
    have hQ : ∀ t : State, t.heap = H → s.WarmedH t.vm → mm_Qc D ad cy A P (av.map (mm_cv ad)).toArray s (.returned (r.map (mm_cv ad))) t := fun t ht _ => ⟨⟨r, M', hq, rfl, by rw [ht]; exact r1, r2⟩, r3.F ht⟩
    cases r with
    | none =>
      obtain ⟨hd, hy⟩ := hend
      exact W.vret hx hb (hr.trans hy) hQ r3.2.2 hd hlocks
    | some v =>
      cases v with
      | int x =>
        obtain ⟨hd, ty, hy, hn⟩ := hend
        exact W.zret hx hb (hr.trans hy) hn hQ r3.2.2 hd hlocks
      | long x =>
        obtain ⟨hd, hy⟩ := hend
        exact W.lret hx hb (hr.trans hy) hQ r3.2.2 hd hlocks
      | ref x =>
        obtain ⟨hd, n, hy⟩ := hend
        exact W.aret hx hb (hr.trans hy) (Or.inl ⟨n, rfl⟩) (Or.inr ⟨_, rfl⟩) hQ r3.2.2 hd hlocks
      | double x => exact absurd rfl (hthr _ _ hq x)
      | _ => exact hend.elim
  · simp only [List.length_append, List.length_replicate]
    omega
  · intro i v hi hvn
    by_cases hil : i < av.length
    · rw [List.getElem?_append_left hil] at hi
      have := mm_args (ad := ad) av 0 hc i v hi
      rwa [Nat.zero_add] at this
    · rw [List.getElem?_append_right (by omega), List.getElem?_replicate] at hi
      split at hi
      · cases hi
        exact absurd rfl hvn
      · cases hi
theorem mm_S.mono {d : Nat} {y : mm_MR} {mc ms : Nat} {av : List Value} {M : mm_Mem} {P P' : Option Value → mm_Mem → Prop} (h : mm_S d y mc ms av M P) (hP : ∀ r M', P r M' → P' r M') : mm_S d y mc ms av M P' := by
  intro l D ad cy A hfl
  have hM := h l D ad cy A hfl
  unfold Met at hM ⊢
  intro p e h1 h2 h3 s m args below h4 h5 h6 h7
  obtain ⟨t, o, g1, g2, g3, ⟨⟨r, M', q1, q2, q3⟩, q4⟩, g5⟩ := hM p e h1 h2 h3 s m args below h4 h5 h6 h7
  exact ⟨t, o, g1, g2, g3, ⟨⟨r, M', hP _ _ q1, q2, q3⟩, q4⟩, g5⟩
/-! CALLS -/
theorem mm_good (y : mm_MR) (hc : Cond.code y.1 y.2.1 y.2.2.1 y.2.2.2 ∈ mm_WS) : GoodIn mm_WS (mm_w y) := by
  have h : ∀ w ∈ mm_WS, w ∈ mm_WS ∧ ((w.onTables && w.keeps) = true ∨ ∃ ty, w = .arrayClass ty) := fun w hw => ⟨hw, good_of_word (List.mem_filter.mp hw).2⟩
  intro w hw
  rcases List.mem_cons.mp hw with e | e
  · subst e
    exact h _ hc
  · exact h _ e
theorem mm_run {p : Program} {l : Launch} {e : Env} {R : Room} {s : State} {m : MethodId} {args : Array Value} {below : List Frame} {meth : Method} {c : Code} {H : Heap} {locs : List Loc} {cells slots mc ms : Nat} {Q : State → Prop} {pc : Nat} {ls : Array Slot} {st0 rest : List Value} {a : Array Value} {D : va_G} {ad : Nat → Nat} {cy : Nat → ClassId} {A : Nat → Prop} {P : Option Value → mm_Mem → Prop}
    (hr : va_Run p l e R s m args below meth c H locs cells slots mc ms (F0 m pc ls st0) rest (mm_Qc D ad cy A P a) A) (hS : va_S A s.heap H locs)
    (kk : ∀ (r : Option Value) (M' : mm_Mem) (H1 : Heap) (locs1 : List Loc), P r M' → va_P D vwCl (mm_ws ad cy M') H1 → va_D A (mm_ws ad cy M') → va_S A s.heap H1 locs1 → W p l e R s m args below meth c H1 locs1 (cells + mc) (slots + ms) Q (F0 m (pc + 3) ls ((r.map (mm_cv ad)).toList ++ rest))) : W p l e R s m args below meth c H locs cells slots Q (F0 m pc ls st0) := by
  intro T hT X
  obtain ⟨v, st₀, t, T', L, h0, X', hL, e1, e2, ⟨⟨r, M', hp, hv, q1, q2⟩, hz, hk⟩, st⟩ := hr T hT X
  cases hv
  rw [h0] at hz hk
  obtain ⟨t2, a1, b1⟩ := kk r M' T'.heap (locs ++ L) hp (by rw [e1]; exact q1) q2
    ⟨Nat.le_trans hS.1 (by rw [e1]; exact hz), fun q h1 h2 => by rw [e1, hk q (Nat.lt_of_lt_of_le h1 hS.1) h2]; exact hS.2.1 q h1 h2, fun q hq => by
      rcases List.mem_append.mp hq with h | h
      · exact hS.2.2 q h
      · exact hL q h⟩ T' rfl X'
  exact ⟨t2, st t2 a1, b1⟩
/-- what the tables say of a callee -/
def mm_CB (y : mm_MR) (n : Nat) : Prop := Cond.code y.1 y.2.1 y.2.2.1 y.2.2.2 ∈ mm_WS ∧ Cond.initialized y.1.cls ∈ mm_WS ∧ (y.1.cls ≠ "java/lang/invoke/MethodHandle" ∧ y.1.cls ≠ "java/lang/invoke/VarHandle" ∧ (parseMethodDescriptor y.1.desc).map (fun d => d.parameters.length) = some n) ∧ y.2.2.1 ≤ 21
def mm_CV (own : String) (idx : Nat) (y : mm_MR) (n : Nat) : Prop := Cond.methodLink own idx y.1 ∈ mm_WS ∧ Cond.instanceMethod y.1 ∈ mm_WS ∧ Cond.selects y.1.cls y.1 y.1 ∈ mm_WS ∧ mm_CB y n
def mm_CVN (own : String) (idx : Nat) (y : mm_MR) (n : Nat) : Prop := (∃ host, Cond.methodLinkNest own idx y.1 host ∈ mm_NW) ∧ Cond.instanceMethod y.1 ∈ mm_WS ∧ Cond.selects y.1.cls y.1 y.1 ∈ mm_WS ∧ mm_CB y n
def mm_CS (own : String) (idx : Nat) (y : mm_MR) (n : Nat) : Prop := Cond.methodLink own idx y.1 ∈ mm_WS ∧ Cond.static y.1 ∈ mm_WS ∧ mm_CB y n
def mm_CSN (own : String) (idx : Nat) (y : mm_MR) (n : Nat) : Prop := (∃ host, Cond.methodLinkNest own idx y.1 host ∈ mm_NW) ∧ Cond.static y.1 ∈ mm_WS ∧ mm_CB y n
section MC
variable {y y' : mm_MR} {d d' n idx : Nat} {sc : mm_SC} {z : Nat × Nat} {pc : Nat} {ls st rest As : List Value} {M : mm_Mem} {Q P : Option Value → mm_Mem → Prop}
theorem mm_pre {D : va_G} {ad : Nat → Nat} {cy : Nat → ClassId} {A : Nat → Prop} {s : State} {H : Heap} {locs : List Loc} (hK : va_K D vwCl (mm_tys cy) s) (hN : mm_NWs s) (hE : mm_E A s s.heap) (hA : ∀ q, s.heap.size ≤ q → A q) (r1 : va_P D vwCl (mm_ws ad cy M) H) (r2 : va_D A (mm_ws ad cy M)) (r3 : va_S A s.heap H locs) : ∀ U : State, U.heap = H → s.WarmedH U.vm → mm_Pc D ad cy A As M (As.map (mm_cv ad)).toArray U := by
  intro U hU hW
  refine ⟨rfl, by rw [hU]; exact r1, r2, va_K.moved hW.alike hK, mm_NWs.warm hW hN, ?_, fun q h => hA q (Nat.le_trans r3.1 (by rw [← hU]; exact h))⟩
  rw [hU]
  exact mm_E.moved hW.alike (mm_E.kept hE (fun a h1 h2 => r3.2.1 a h1 h2))
theorem mm_recv {D : va_G} {ad : Nat → Nat} {cy : Nat → ClassId} {s : State} {H : Heap} {b ci : Nat} {fs : List Value} {C : String} (hK : va_K D vwCl (mm_tys cy) s) (r1 : va_P D vwCl (mm_ws ad cy M) H) (hb : b < mm_K) (hM : M b = mm_aO ci fs) (hci : (vwCl[ci]?).map (fun q => q.1) = some C) : ∃ cell : Cell, H[ad b]? = some cell ∧ cell.vm.isStatics = false ∧ s.vm.findClass C = some cell.cls := by
  cases h : vwCl[ci]? with
  | none => rw [h] at hci; cases hci
  | some q =>
    rw [h] at hci
    cases hci
    exact va_recv hK r1 h (mm_ob (D := D) hb hM)
theorem mm_invV {b ci : Nat} {fs : List Value} (hb0 : b < mm_K) (hM : M b = mm_aO ci fs) (hci : (vwCl[ci]?).map (fun q => q.1) = some y'.1.cls) (hd : decode y.2.1 pc = .ok (.invokevirtual idx, 3)) (hC : mm_CV y.1.cls idx y' n) (hs : mm_S d' y' 0 0 (.ref b :: As) M P) (hn : As.length = n) (hst : st = As.reverse ++ .ref b :: rest) (hrest : (rest.map fun v => v.category).sum ≤ 8) (hdd : d' + 1 ≤ d) (h : ∀ r M', P r M' → mm_X y d sc z (pc + 3) ls (r.toList ++ rest) M' Q) : mm_X y d sc z pc ls st M Q := by
  subst hst
  intro t Z C F H locs lsA hz1 hz2 hR hL
  obtain ⟨p, l, e, R, s, m, args, below, meth, c, D, ad, cy, A⟩ := t
  obtain ⟨hx, hb, hml, hr, hown, hts, hlk, hK, hN, hE, hA, hd1, hd2, hfl, hsc⟩ := C
  obtain ⟨r1, r2, r3⟩ := hR
  obtain ⟨c1, c2, c3, c4, c5, c6, c7⟩ := hC
  have cb : CallB R s args y.1.cls idx y'.1 y'.2.1 y'.2.2.1 y'.2.2.2 (mm_w y') (mm_rm d' 0 0) 0 0 n := callB_of n hts (mm_good y' c4) rfl rfl rfl (hts _ c5) (hts _ c1) c6 ⟨Nat.le_trans hdd hd1, by show 8 + (y'.2.2.1 + 11) + 40 * d' ≤ R.locals; omega⟩
  have hrest' : ((rest.map (mm_cv ad)).map fun v => v.category).sum ≤ 8 := by
    rw [List.map_map]
    rw [show ((fun v : Value => v.category) ∘ mm_cv ad) = fun v => v.category from funext fun v => mm_cat v]
    exact hrest
  refine mm_run (D := D) (ad := ad) (cy := cy) (P := P) (mc := 0) (ms := 0) (rest := rest.map (mm_cv ad)) (va_runV (b := ad b) (As := As.map (mm_cv ad)) ⟨hx, hb, hml, hown, hts⟩ (hs l D ad cy A hfl) ⟨cb, hts _ c2, hts _ c3⟩ ⟨mm_blind, mm_recv hK r1 hb0 hM hci, mm_pre (As := .ref b :: As) hK hN hE hA r1 r2 r3⟩ rfl (by rw [List.length_map]; exact hn) (by obtain ⟨-, l9, hv, -⟩ := hL; exact hv.1) (by simp [mm_cv, List.map_reverse]) (lv_room hrest') hd ⟨hz1, hz2⟩) r3 (fun r M' H1 locs1 hp q1 q2 q3 => ?_)
  have k := h r M' hp (p, l, e, R, s, m, args, below, meth, c, D, ad, cy, A) Z ⟨hx, hb, hml, hr, hown, hts, hlk, hK, hN, hE, hA, hd1, hd2, hfl, hsc⟩ F H1 locs1 lsA hz1 hz2 ⟨q1, q2, q3⟩ hL
  have e9 : (r.toList ++ rest).map (mm_cv ad) = (r.map (mm_cv ad)).toList ++ rest.map (mm_cv ad) := by cases r <;> simp
  dsimp only at k
  rw [e9] at k
  exact k
theorem mm_invVN {b ci : Nat} {fs : List Value} (hb0 : b < mm_K) (hM : M b = mm_aO ci fs) (hci : (vwCl[ci]?).map (fun q => q.1) = some y'.1.cls) (hd : decode y.2.1 pc = .ok (.invokevirtual idx, 3)) (hC : mm_CVN y.1.cls idx y' n) (hs : mm_S d' y' 0 0 (.ref b :: As) M P) (hn : As.length = n) (hst : st = As.reverse ++ .ref b :: rest) (hrest : (rest.map fun v => v.category).sum ≤ 8) (hdd : d' + 1 ≤ d) (h : ∀ r M', P r M' → mm_X y d sc z (pc + 3) ls (r.toList ++ rest) M' Q) : mm_X y d sc z pc ls st M Q := by
  subst hst
  intro t Z C F H locs lsA hz1 hz2 hR hL
  obtain ⟨p, l, e, R, s, m, args, below, meth, c, D, ad, cy, A⟩ := t
  obtain ⟨hx, hb, hml, hr, hown, hts, hlk, hK, hN, hE, hA, hd1, hd2, hfl, hsc⟩ := C
  obtain ⟨r1, r2, r3⟩ := hR
  obtain ⟨⟨host, c1⟩, c2, c3, c4, c5, c6, c7⟩ := hC
  have cb : va_CN R s args y.1.cls idx y'.1 host y'.2.1 y'.2.2.1 y'.2.2.2 (mm_w y') (mm_rm d' 0 0) 0 0 n := va_cnB n hts (mm_good y' c4) rfl rfl rfl (hN _ c1) (hts _ c5) c6 ⟨Nat.le_trans hdd hd1, by show 8 + (y'.2.2.1 + 11) + 40 * d' ≤ R.locals; omega⟩
  have hrest' : ((rest.map (mm_cv ad)).map fun v => v.category).sum ≤ 8 := by
    rw [List.map_map]
    rw [show ((fun v : Value => v.category) ∘ mm_cv ad) = fun v => v.category from funext fun v => mm_cat v]
    exact hrest
  refine mm_run (D := D) (ad := ad) (cy := cy) (P := P) (mc := 0) (ms := 0) (rest := rest.map (mm_cv ad)) (va_runVN (b := ad b) (As := As.map (mm_cv ad)) ⟨hx, hb, hml, hown, hts⟩ (hs l D ad cy A hfl) ⟨cb, hts _ c2, hts _ c3⟩ ⟨mm_blind, mm_recv hK r1 hb0 hM hci, mm_pre (As := .ref b :: As) hK hN hE hA r1 r2 r3⟩ rfl (by rw [List.length_map]; exact hn) (by obtain ⟨-, l9, hv, -⟩ := hL; exact hv.1) (by simp [mm_cv, List.map_reverse]) (lv_room hrest') hd ⟨hz1, hz2⟩) r3 (fun r M' H1 locs1 hp q1 q2 q3 => ?_)
  have k := h r M' hp (p, l, e, R, s, m, args, below, meth, c, D, ad, cy, A) Z ⟨hx, hb, hml, hr, hown, hts, hlk, hK, hN, hE, hA, hd1, hd2, hfl, hsc⟩ F H1 locs1 lsA hz1 hz2 ⟨q1, q2, q3⟩ hL
  have e9 : (r.toList ++ rest).map (mm_cv ad) = (r.map (mm_cv ad)).toList ++ rest.map (mm_cv ad) := by cases r <;> simp
  dsimp only at k
  rw [e9] at k
  exact k
theorem mm_invS (hd : decode y.2.1 pc = .ok (.invokestatic idx, 3)) (hC : mm_CS y.1.cls idx y' n) (hs : mm_S d' y' 0 0 As M P) (hn : As.length = n) (hst : st = As.reverse ++ rest) (hrest : (rest.map fun v => v.category).sum ≤ 8) (hdd : d' + 1 ≤ d) (h : ∀ r M', P r M' → mm_X y d sc z (pc + 3) ls (r.toList ++ rest) M' Q) : mm_X y d sc z pc ls st M Q := by
  subst hst
  intro t Z C F H locs lsA hz1 hz2 hR hL
  obtain ⟨p, l, e, R, s, m, args, below, meth, c, D, ad, cy, A⟩ := t
  obtain ⟨hx, hb, hml, hr, hown, hts, hlk, hK, hN, hE, hA, hd1, hd2, hfl, hsc⟩ := C
  obtain ⟨r1, r2, r3⟩ := hR
  obtain ⟨c1, c2, c4, c5, c6, c7⟩ := hC
  have cb : CallB R s args y.1.cls idx y'.1 y'.2.1 y'.2.2.1 y'.2.2.2 (mm_w y') (mm_rm d' 0 0) 0 0 n := callB_of n hts (mm_good y' c4) rfl rfl rfl (hts _ c5) (hts _ c1) c6 ⟨Nat.le_trans hdd hd1, by show 8 + (y'.2.2.1 + 11) + 40 * d' ≤ R.locals; omega⟩
  have hrest' : ((rest.map (mm_cv ad)).map fun v => v.category).sum ≤ 8 := by
    rw [List.map_map]
    rw [show ((fun v : Value => v.category) ∘ mm_cv ad) = fun v => v.category from funext fun v => mm_cat v]
    exact hrest
  refine mm_run (D := D) (ad := ad) (cy := cy) (P := P) (mc := 0) (ms := 0) (rest := rest.map (mm_cv ad)) (va_runS (As := As.map (mm_cv ad)) ⟨hx, hb, hml, hown, hts⟩ (hs l D ad cy A hfl) ⟨cb, hts _ c2⟩ ⟨mm_blind, mm_pre (As := As) hK hN hE hA r1 r2 r3⟩ rfl (by rw [List.length_map]; exact hn) (by obtain ⟨-, l9, hv, -⟩ := hL; exact hv.1) (by simp [List.map_reverse]) (lv_room hrest') hd ⟨hz1, hz2⟩) r3 (fun r M' H1 locs1 hp q1 q2 q3 => ?_)
  have k := h r M' hp (p, l, e, R, s, m, args, below, meth, c, D, ad, cy, A) Z ⟨hx, hb, hml, hr, hown, hts, hlk, hK, hN, hE, hA, hd1, hd2, hfl, hsc⟩ F H1 locs1 lsA hz1 hz2 ⟨q1, q2, q3⟩ hL
  have e9 : (r.toList ++ rest).map (mm_cv ad) = (r.map (mm_cv ad)).toList ++ rest.map (mm_cv ad) := by cases r <;> simp
  dsimp only at k
  rw [e9] at k
  exact k
theorem mm_invSN (hd : decode y.2.1 pc = .ok (.invokestatic idx, 3)) (hC : mm_CSN y.1.cls idx y' n) (hs : mm_S d' y' 0 0 As M P) (hn : As.length = n) (hst : st = As.reverse ++ rest) (hrest : (rest.map fun v => v.category).sum ≤ 8) (hdd : d' + 1 ≤ d) (h : ∀ r M', P r M' → mm_X y d sc z (pc + 3) ls (r.toList ++ rest) M' Q) : mm_X y d sc z pc ls st M Q := by
  subst hst
  intro t Z C F H locs lsA hz1 hz2 hR hL
  obtain ⟨p, l, e, R, s, m, args, below, meth, c, D, ad, cy, A⟩ := t
  obtain ⟨hx, hb, hml, hr, hown, hts, hlk, hK, hN, hE, hA, hd1, hd2, hfl, hsc⟩ := C
  obtain ⟨r1, r2, r3⟩ := hR
  obtain ⟨⟨host, c1⟩, c2, c4, c5, c6, c7⟩ := hC
  have cb : va_CN R s args y.1.cls idx y'.1 host y'.2.1 y'.2.2.1 y'.2.2.2 (mm_w y') (mm_rm d' 0 0) 0 0 n := va_cnB n hts (mm_good y' c4) rfl rfl rfl (hN _ c1) (hts _ c5) c6 ⟨Nat.le_trans hdd hd1, by show 8 + (y'.2.2.1 + 11) + 40 * d' ≤ R.locals; omega⟩
  have hrest' : ((rest.map (mm_cv ad)).map fun v => v.category).sum ≤ 8 := by
    rw [List.map_map]
    rw [show ((fun v : Value => v.category) ∘ mm_cv ad) = fun v => v.category from funext fun v => mm_cat v]
    exact hrest
  refine mm_run (D := D) (ad := ad) (cy := cy) (P := P) (mc := 0) (ms := 0) (rest := rest.map (mm_cv ad)) (va_runSN (As := As.map (mm_cv ad)) ⟨hx, hb, hml, hown, hts⟩ (hs l D ad cy A hfl) ⟨cb, hts _ c2, trivial⟩ ⟨mm_blind, mm_pre (As := As) hK hN hE hA r1 r2 r3⟩ rfl (by rw [List.length_map]; exact hn) (by obtain ⟨-, l9, hv, -⟩ := hL; exact hv.1) (by simp [List.map_reverse]) (lv_room hrest') hd ⟨hz1, hz2⟩) r3 (fun r M' H1 locs1 hp q1 q2 q3 => ?_)
  have k := h r M' hp (p, l, e, R, s, m, args, below, meth, c, D, ad, cy, A) Z ⟨hx, hb, hml, hr, hown, hts, hlk, hK, hN, hE, hA, hd1, hd2, hfl, hsc⟩ F H1 locs1 lsA hz1 hz2 ⟨q1, q2, q3⟩ hL
  have e9 : (r.toList ++ rest).map (mm_cv ad) = (r.map (mm_cv ad)).toList ++ rest.map (mm_cv ad) := by cases r <;> simp
  dsimp only at k
  rw [e9] at k
  exact k
end MC
end
