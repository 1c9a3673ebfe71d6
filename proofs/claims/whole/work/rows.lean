section
-- ===== PART A: goes FIRST, ahead of the names: the tables' words, and 'selects' of the private methods out of them =====
/-- a private method of a class that the tables say can be made, by its rows of tables_1 -/
def lw_okq (q : MethodName × Nat) : Prop := (q.1.cls ≠ "java/lang/invoke/MethodHandle" ∧ q.1.cls ≠ "java/lang/invoke/VarHandle") ∧ Cond.instantiable q.1.cls q.2 ∈ tables_1 ∧ Cond.privateMethod q.1 ∈ tables_1 ∧ Cond.instanceMethod q.1 ∈ tables_1
theorem lw_p0 : lw_okq (⟨"TentMiddle", "makeIn", "(LTentMiddle$Shelf;III)I"⟩, 13) := ⟨⟨by decide +kernel, by decide +kernel⟩, List.mem_of_getElem? (i := 13) (by decide +kernel), List.mem_of_getElem? (i := 228) (by decide +kernel), List.mem_of_getElem? (i := 229) (by decide +kernel)⟩
theorem lw_p1 : lw_okq (⟨"TentMiddle", "found", "(I)I"⟩, 13) := ⟨⟨by decide +kernel, by decide +kernel⟩, List.mem_of_getElem? (i := 13) (by decide +kernel), List.mem_of_getElem? (i := 236) (by decide +kernel), List.mem_of_getElem? (i := 237) (by decide +kernel)⟩
theorem lw_p2 : lw_okq (⟨"TentMiddle", "refusePlace", "(LTentMiddle$Shelf;II)I"⟩, 13) := ⟨⟨by decide +kernel, by decide +kernel⟩, List.mem_of_getElem? (i := 13) (by decide +kernel), List.mem_of_getElem? (i := 255) (by decide +kernel), List.mem_of_getElem? (i := 256) (by decide +kernel)⟩
theorem lw_p3 : lw_okq (⟨"TentMiddle", "refuseMissing", "(LTentMiddle$Shelf;I)I"⟩, 13) := ⟨⟨by decide +kernel, by decide +kernel⟩, List.mem_of_getElem? (i := 13) (by decide +kernel), List.mem_of_getElem? (i := 259) (by decide +kernel), List.mem_of_getElem? (i := 260) (by decide +kernel)⟩
theorem lw_p4 : lw_okq (⟨"TentMiddle$Reader", "take", "(LTentMiddle$Shelf;I)V"⟩, 4) := ⟨⟨by decide +kernel, by decide +kernel⟩, List.mem_of_getElem? (i := 114) (by decide +kernel), List.mem_of_getElem? (i := 338) (by decide +kernel), List.mem_of_getElem? (i := 339) (by decide +kernel)⟩
theorem lw_p5 : lw_okq (⟨"TentMiddle$Reader", "readCold", "()Z"⟩, 4) := ⟨⟨by decide +kernel, by decide +kernel⟩, List.mem_of_getElem? (i := 114) (by decide +kernel), List.mem_of_getElem? (i := 351) (by decide +kernel), List.mem_of_getElem? (i := 352) (by decide +kernel)⟩
theorem lw_p6 : lw_okq (⟨"TentMiddle$Reader", "skipBlanks", "()V"⟩, 4) := ⟨⟨by decide +kernel, by decide +kernel⟩, List.mem_of_getElem? (i := 114) (by decide +kernel), List.mem_of_getElem? (i := 355) (by decide +kernel), List.mem_of_getElem? (i := 356) (by decide +kernel)⟩
theorem lw_p7 : lw_okq (⟨"TentMiddle$Reader", "sign", "()I"⟩, 4) := ⟨⟨by decide +kernel, by decide +kernel⟩, List.mem_of_getElem? (i := 114) (by decide +kernel), List.mem_of_getElem? (i := 359) (by decide +kernel), List.mem_of_getElem? (i := 360) (by decide +kernel)⟩
theorem lw_p8 : lw_okq (⟨"TentMiddle$Reader", "readFigure", "(I)I"⟩, 4) := ⟨⟨by decide +kernel, by decide +kernel⟩, List.mem_of_getElem? (i := 114) (by decide +kernel), List.mem_of_getElem? (i := 363) (by decide +kernel), List.mem_of_getElem? (i := 364) (by decide +kernel)⟩
theorem lw_p9 : lw_okq (⟨"TentMiddle$Reader", "readSleeper", "()Z"⟩, 4) := ⟨⟨by decide +kernel, by decide +kernel⟩, List.mem_of_getElem? (i := 114) (by decide +kernel), List.mem_of_getElem? (i := 367) (by decide +kernel), List.mem_of_getElem? (i := 368) (by decide +kernel)⟩
theorem lw_p10 : lw_okq (⟨"TentMiddle$Camp", "givenFrom", "(I)I"⟩, 17) := ⟨⟨by decide +kernel, by decide +kernel⟩, List.mem_of_getElem? (i := 42) (by decide +kernel), List.mem_of_getElem? (i := 405) (by decide +kernel), List.mem_of_getElem? (i := 406) (by decide +kernel)⟩
theorem lw_p11 : lw_okq (⟨"TentMiddle$Camp", "isWithin", "(III)Z"⟩, 17) := ⟨⟨by decide +kernel, by decide +kernel⟩, List.mem_of_getElem? (i := 42) (by decide +kernel), List.mem_of_getElem? (i := 428) (by decide +kernel), List.mem_of_getElem? (i := 429) (by decide +kernel)⟩
theorem lw_p12 : lw_okq (⟨"TentMiddle", "refuseRowForPlaces", "(I)I"⟩, 13) := ⟨⟨by decide +kernel, by decide +kernel⟩, List.mem_of_getElem? (i := 13) (by decide +kernel), List.mem_of_getElem? (i := 481) (by decide +kernel), List.mem_of_getElem? (i := 482) (by decide +kernel)⟩
theorem lw_p13 : lw_okq (⟨"TentMiddle", "refuseRowToFill", "(I)I"⟩, 13) := ⟨⟨by decide +kernel, by decide +kernel⟩, List.mem_of_getElem? (i := 13) (by decide +kernel), List.mem_of_getElem? (i := 485) (by decide +kernel), List.mem_of_getElem? (i := 486) (by decide +kernel)⟩
theorem lw_p14 : lw_okq (⟨"TentMiddle", "holdsOrder", "(I)Z"⟩, 13) := ⟨⟨by decide +kernel, by decide +kernel⟩, List.mem_of_getElem? (i := 13) (by decide +kernel), List.mem_of_getElem? (i := 489) (by decide +kernel), List.mem_of_getElem? (i := 490) (by decide +kernel)⟩
theorem lw_p15 : lw_okq (⟨"TentMiddle$Camp", "steadyFeeling", "(I)I"⟩, 17) := ⟨⟨by decide +kernel, by decide +kernel⟩, List.mem_of_getElem? (i := 42) (by decide +kernel), List.mem_of_getElem? (i := 523) (by decide +kernel), List.mem_of_getElem? (i := 524) (by decide +kernel)⟩
def lw_privs_1 : List (MethodName × Nat) := [(⟨"TentMiddle", "makeIn", "(LTentMiddle$Shelf;III)I"⟩, 13), (⟨"TentMiddle", "found", "(I)I"⟩, 13), (⟨"TentMiddle", "refusePlace", "(LTentMiddle$Shelf;II)I"⟩, 13), (⟨"TentMiddle", "refuseMissing", "(LTentMiddle$Shelf;I)I"⟩, 13), (⟨"TentMiddle$Reader", "take", "(LTentMiddle$Shelf;I)V"⟩, 4), (⟨"TentMiddle$Reader", "readCold", "()Z"⟩, 4), (⟨"TentMiddle$Reader", "skipBlanks", "()V"⟩, 4), (⟨"TentMiddle$Reader", "sign", "()I"⟩, 4), (⟨"TentMiddle$Reader", "readFigure", "(I)I"⟩, 4), (⟨"TentMiddle$Reader", "readSleeper", "()Z"⟩, 4), (⟨"TentMiddle$Camp", "givenFrom", "(I)I"⟩, 17), (⟨"TentMiddle$Camp", "isWithin", "(III)Z"⟩, 17), (⟨"TentMiddle", "refuseRowForPlaces", "(I)I"⟩, 13), (⟨"TentMiddle", "refuseRowToFill", "(I)I"⟩, 13), (⟨"TentMiddle", "holdsOrder", "(I)Z"⟩, 13), (⟨"TentMiddle$Camp", "steadyFeeling", "(I)I"⟩, 17)]
theorem lw_r1 : ∀ q ∈ lw_privs_1, lw_okq q := List.forall_mem_cons.mpr ⟨lw_p0, List.forall_mem_cons.mpr ⟨lw_p1, List.forall_mem_cons.mpr ⟨lw_p2, List.forall_mem_cons.mpr ⟨lw_p3, List.forall_mem_cons.mpr ⟨lw_p4, List.forall_mem_cons.mpr ⟨lw_p5, List.forall_mem_cons.mpr ⟨lw_p6, List.forall_mem_cons.mpr ⟨lw_p7, List.forall_mem_cons.mpr ⟨lw_p8, List.forall_mem_cons.mpr ⟨lw_p9, List.forall_mem_cons.mpr ⟨lw_p10, List.forall_mem_cons.mpr ⟨lw_p11, List.forall_mem_cons.mpr ⟨lw_p12, List.forall_mem_cons.mpr ⟨lw_p13, List.forall_mem_cons.mpr ⟨lw_p14, List.forall_mem_cons.mpr ⟨lw_p15, fun _ h => absurd h List.not_mem_nil⟩⟩⟩⟩⟩⟩⟩⟩⟩⟩⟩⟩⟩⟩⟩⟩
theorem lw_p16 : lw_okq (⟨"TentMiddle$Camp", "hourlyFeeling", "(II)I"⟩, 17) := ⟨⟨by decide +kernel, by decide +kernel⟩, List.mem_of_getElem? (i := 42) (by decide +kernel), List.mem_of_getElem? (i := 531) (by decide +kernel), List.mem_of_getElem? (i := 532) (by decide +kernel)⟩
theorem lw_p17 : lw_okq (⟨"TentMiddle$Camp", "hearsAny", "(I)Z"⟩, 17) := ⟨⟨by decide +kernel, by decide +kernel⟩, List.mem_of_getElem? (i := 42) (by decide +kernel), List.mem_of_getElem? (i := 535) (by decide +kernel), List.mem_of_getElem? (i := 536) (by decide +kernel)⟩
theorem lw_p18 : lw_okq (⟨"TentMiddle$Camp", "soreHours", "()I"⟩, 17) := ⟨⟨by decide +kernel, by decide +kernel⟩, List.mem_of_getElem? (i := 42) (by decide +kernel), List.mem_of_getElem? (i := 539) (by decide +kernel), List.mem_of_getElem? (i := 540) (by decide +kernel)⟩
theorem lw_p19 : lw_okq (⟨"TentMiddle$Camp", "wokenHours", "(I)I"⟩, 17) := ⟨⟨by decide +kernel, by decide +kernel⟩, List.mem_of_getElem? (i := 42) (by decide +kernel), List.mem_of_getElem? (i := 543) (by decide +kernel), List.mem_of_getElem? (i := 544) (by decide +kernel)⟩
theorem lw_p20 : lw_okq (⟨"TentMiddle$Camp", "remember", "()V"⟩, 17) := ⟨⟨by decide +kernel, by decide +kernel⟩, List.mem_of_getElem? (i := 42) (by decide +kernel), List.mem_of_getElem? (i := 547) (by decide +kernel), List.mem_of_getElem? (i := 548) (by decide +kernel)⟩
theorem lw_p21 : lw_okq (⟨"TentMiddle", "isKept", "(I)Z"⟩, 13) := ⟨⟨by decide +kernel, by decide +kernel⟩, List.mem_of_getElem? (i := 13) (by decide +kernel), List.mem_of_getElem? (i := 576) (by decide +kernel), List.mem_of_getElem? (i := 577) (by decide +kernel)⟩
theorem lw_p22 : lw_okq (⟨"TentMiddle$Camp", "calmHours", "(I)I"⟩, 17) := ⟨⟨by decide +kernel, by decide +kernel⟩, List.mem_of_getElem? (i := 42) (by decide +kernel), List.mem_of_getElem? (i := 610) (by decide +kernel), List.mem_of_getElem? (i := 611) (by decide +kernel)⟩
theorem lw_p23 : lw_okq (⟨"TentMiddle", "seekOrder", "(II)I"⟩, 13) := ⟨⟨by decide +kernel, by decide +kernel⟩, List.mem_of_getElem? (i := 13) (by decide +kernel), List.mem_of_getElem? (i := 646) (by decide +kernel), List.mem_of_getElem? (i := 647) (by decide +kernel)⟩
theorem lw_p24 : lw_okq (⟨"TentMiddle$Plan", "isNeedless", "()Z"⟩, 9) := ⟨⟨by decide +kernel, by decide +kernel⟩, List.mem_of_getElem? (i := 150) (by decide +kernel), List.mem_of_getElem? (i := 721) (by decide +kernel), List.mem_of_getElem? (i := 722) (by decide +kernel)⟩
theorem lw_p25 : lw_okq (⟨"TentMiddle$Plan", "chooseFrom", "(III)V"⟩, 9) := ⟨⟨by decide +kernel, by decide +kernel⟩, List.mem_of_getElem? (i := 150) (by decide +kernel), List.mem_of_getElem? (i := 729) (by decide +kernel), List.mem_of_getElem? (i := 730) (by decide +kernel)⟩
theorem lw_p26 : lw_okq (⟨"TentMiddle$Plan", "bound", "(II)I"⟩, 9) := ⟨⟨by decide +kernel, by decide +kernel⟩, List.mem_of_getElem? (i := 150) (by decide +kernel), List.mem_of_getElem? (i := 733) (by decide +kernel), List.mem_of_getElem? (i := 734) (by decide +kernel)⟩
theorem lw_p27 : lw_okq (⟨"TentMiddle", "suspects", "(II)I"⟩, 13) := ⟨⟨by decide +kernel, by decide +kernel⟩, List.mem_of_getElem? (i := 13) (by decide +kernel), List.mem_of_getElem? (i := 758) (by decide +kernel), List.mem_of_getElem? (i := 759) (by decide +kernel)⟩
theorem lw_p28 : lw_okq (⟨"TentMiddle", "fitsWhatWasHeard", "(III)Z"⟩, 13) := ⟨⟨by decide +kernel, by decide +kernel⟩, List.mem_of_getElem? (i := 13) (by decide +kernel), List.mem_of_getElem? (i := 762) (by decide +kernel), List.mem_of_getElem? (i := 763) (by decide +kernel)⟩
theorem lw_p29 : lw_okq (⟨"TentMiddle", "tellPower", "(II)V"⟩, 13) := ⟨⟨by decide +kernel, by decide +kernel⟩, List.mem_of_getElem? (i := 13) (by decide +kernel), List.mem_of_getElem? (i := 775) (by decide +kernel), List.mem_of_getElem? (i := 776) (by decide +kernel)⟩
theorem lw_p30 : lw_okq (⟨"TentMiddle", "keptTents", "()I"⟩, 13) := ⟨⟨by decide +kernel, by decide +kernel⟩, List.mem_of_getElem? (i := 13) (by decide +kernel), List.mem_of_getElem? (i := 815) (by decide +kernel), List.mem_of_getElem? (i := 816) (by decide +kernel)⟩
theorem lw_p31 : lw_okq (⟨"TentMiddleModel", "find", "(I)I"⟩, 29) := ⟨⟨by decide +kernel, by decide +kernel⟩, List.mem_of_getElem? (i := 839) (by decide +kernel), List.mem_of_getElem? (i := 944) (by decide +kernel), List.mem_of_getElem? (i := 945) (by decide +kernel)⟩
def lw_privs_2 : List (MethodName × Nat) := [(⟨"TentMiddle$Camp", "hourlyFeeling", "(II)I"⟩, 17), (⟨"TentMiddle$Camp", "hearsAny", "(I)Z"⟩, 17), (⟨"TentMiddle$Camp", "soreHours", "()I"⟩, 17), (⟨"TentMiddle$Camp", "wokenHours", "(I)I"⟩, 17), (⟨"TentMiddle$Camp", "remember", "()V"⟩, 17), (⟨"TentMiddle", "isKept", "(I)Z"⟩, 13), (⟨"TentMiddle$Camp", "calmHours", "(I)I"⟩, 17), (⟨"TentMiddle", "seekOrder", "(II)I"⟩, 13), (⟨"TentMiddle$Plan", "isNeedless", "()Z"⟩, 9), (⟨"TentMiddle$Plan", "chooseFrom", "(III)V"⟩, 9), (⟨"TentMiddle$Plan", "bound", "(II)I"⟩, 9), (⟨"TentMiddle", "suspects", "(II)I"⟩, 13), (⟨"TentMiddle", "fitsWhatWasHeard", "(III)Z"⟩, 13), (⟨"TentMiddle", "tellPower", "(II)V"⟩, 13), (⟨"TentMiddle", "keptTents", "()I"⟩, 13), (⟨"TentMiddleModel", "find", "(I)I"⟩, 29)]
theorem lw_r2 : ∀ q ∈ lw_privs_2, lw_okq q := List.forall_mem_cons.mpr ⟨lw_p16, List.forall_mem_cons.mpr ⟨lw_p17, List.forall_mem_cons.mpr ⟨lw_p18, List.forall_mem_cons.mpr ⟨lw_p19, List.forall_mem_cons.mpr ⟨lw_p20, List.forall_mem_cons.mpr ⟨lw_p21, List.forall_mem_cons.mpr ⟨lw_p22, List.forall_mem_cons.mpr ⟨lw_p23, List.forall_mem_cons.mpr ⟨lw_p24, List.forall_mem_cons.mpr ⟨lw_p25, List.forall_mem_cons.mpr ⟨lw_p26, List.forall_mem_cons.mpr ⟨lw_p27, List.forall_mem_cons.mpr ⟨lw_p28, List.forall_mem_cons.mpr ⟨lw_p29, List.forall_mem_cons.mpr ⟨lw_p30, List.forall_mem_cons.mpr ⟨lw_p31, fun _ h => absurd h List.not_mem_nil⟩⟩⟩⟩⟩⟩⟩⟩⟩⟩⟩⟩⟩⟩⟩⟩
theorem lw_p32 : lw_okq (⟨"TentMiddleModel", "makeRow", "(II)V"⟩, 29) := ⟨⟨by decide +kernel, by decide +kernel⟩, List.mem_of_getElem? (i := 839) (by decide +kernel), List.mem_of_getElem? (i := 948) (by decide +kernel), List.mem_of_getElem? (i := 949) (by decide +kernel)⟩
theorem lw_p33 : lw_okq (⟨"TentMiddleModel", "refused", "(II)I"⟩, 29) := ⟨⟨by decide +kernel, by decide +kernel⟩, List.mem_of_getElem? (i := 839) (by decide +kernel), List.mem_of_getElem? (i := 956) (by decide +kernel), List.mem_of_getElem? (i := 957) (by decide +kernel)⟩
theorem lw_p34 : lw_okq (⟨"TentMiddleModel", "tell", "(I)I"⟩, 29) := ⟨⟨by decide +kernel, by decide +kernel⟩, List.mem_of_getElem? (i := 839) (by decide +kernel), List.mem_of_getElem? (i := 960) (by decide +kernel), List.mem_of_getElem? (i := 961) (by decide +kernel)⟩
theorem lw_p35 : lw_okq (⟨"TentMiddleModel", "isSpan", "(III)Z"⟩, 29) := ⟨⟨by decide +kernel, by decide +kernel⟩, List.mem_of_getElem? (i := 839) (by decide +kernel), List.mem_of_getElem? (i := 976) (by decide +kernel), List.mem_of_getElem? (i := 977) (by decide +kernel)⟩
theorem lw_p36 : lw_okq (⟨"TentMiddleModel", "faultOf", "(I)I"⟩, 29) := ⟨⟨by decide +kernel, by decide +kernel⟩, List.mem_of_getElem? (i := 839) (by decide +kernel), List.mem_of_getElem? (i := 1000) (by decide +kernel), List.mem_of_getElem? (i := 1001) (by decide +kernel)⟩
theorem lw_p37 : lw_okq (⟨"TentMiddleModel", "readsCold", "()Z"⟩, 29) := ⟨⟨by decide +kernel, by decide +kernel⟩, List.mem_of_getElem? (i := 839) (by decide +kernel), List.mem_of_getElem? (i := 1004) (by decide +kernel), List.mem_of_getElem? (i := 1005) (by decide +kernel)⟩
theorem lw_p38 : lw_okq (⟨"TentMiddleModel", "skip", "()V"⟩, 29) := ⟨⟨by decide +kernel, by decide +kernel⟩, List.mem_of_getElem? (i := 839) (by decide +kernel), List.mem_of_getElem? (i := 1008) (by decide +kernel), List.mem_of_getElem? (i := 1009) (by decide +kernel)⟩
theorem lw_p39 : lw_okq (⟨"TentMiddleModel", "here", "()I"⟩, 29) := ⟨⟨by decide +kernel, by decide +kernel⟩, List.mem_of_getElem? (i := 839) (by decide +kernel), List.mem_of_getElem? (i := 1012) (by decide +kernel), List.mem_of_getElem? (i := 1013) (by decide +kernel)⟩
theorem lw_p40 : lw_okq (⟨"TentMiddleModel", "figure", "(I)I"⟩, 29) := ⟨⟨by decide +kernel, by decide +kernel⟩, List.mem_of_getElem? (i := 839) (by decide +kernel), List.mem_of_getElem? (i := 1016) (by decide +kernel), List.mem_of_getElem? (i := 1017) (by decide +kernel)⟩
theorem lw_p41 : lw_okq (⟨"TentMiddleModel", "readsSleeper", "()Z"⟩, 29) := ⟨⟨by decide +kernel, by decide +kernel⟩, List.mem_of_getElem? (i := 839) (by decide +kernel), List.mem_of_getElem? (i := 1021) (by decide +kernel), List.mem_of_getElem? (i := 1022) (by decide +kernel)⟩
theorem lw_p42 : lw_okq (⟨"TentMiddleModel", "kindHere", "()I"⟩, 29) := ⟨⟨by decide +kernel, by decide +kernel⟩, List.mem_of_getElem? (i := 839) (by decide +kernel), List.mem_of_getElem? (i := 1025) (by decide +kernel), List.mem_of_getElem? (i := 1026) (by decide +kernel)⟩
theorem lw_p43 : lw_okq (⟨"TentMiddleModel", "isSleeper", "(I)Z"⟩, 29) := ⟨⟨by decide +kernel, by decide +kernel⟩, List.mem_of_getElem? (i := 839) (by decide +kernel), List.mem_of_getElem? (i := 1037) (by decide +kernel), List.mem_of_getElem? (i := 1038) (by decide +kernel)⟩
theorem lw_p44 : lw_okq (⟨"TentMiddleModel", "toldOf", "(II)I"⟩, 29) := ⟨⟨by decide +kernel, by decide +kernel⟩, List.mem_of_getElem? (i := 839) (by decide +kernel), List.mem_of_getElem? (i := 1041) (by decide +kernel), List.mem_of_getElem? (i := 1042) (by decide +kernel)⟩
theorem lw_p45 : lw_okq (⟨"TentMiddleModel", "layNow", "()V"⟩, 29) := ⟨⟨by decide +kernel, by decide +kernel⟩, List.mem_of_getElem? (i := 839) (by decide +kernel), List.mem_of_getElem? (i := 1045) (by decide +kernel), List.mem_of_getElem? (i := 1046) (by decide +kernel)⟩
theorem lw_p46 : lw_okq (⟨"TentMiddleModel", "givesOf", "(I)I"⟩, 29) := ⟨⟨by decide +kernel, by decide +kernel⟩, List.mem_of_getElem? (i := 839) (by decide +kernel), List.mem_of_getElem? (i := 1049) (by decide +kernel), List.mem_of_getElem? (i := 1050) (by decide +kernel)⟩
theorem lw_p47 : lw_okq (⟨"TentMiddleModel", "kindOf", "(I)I"⟩, 29) := ⟨⟨by decide +kernel, by decide +kernel⟩, List.mem_of_getElem? (i := 839) (by decide +kernel), List.mem_of_getElem? (i := 1053) (by decide +kernel), List.mem_of_getElem? (i := 1054) (by decide +kernel)⟩
def lw_privs_3 : List (MethodName × Nat) := [(⟨"TentMiddleModel", "makeRow", "(II)V"⟩, 29), (⟨"TentMiddleModel", "refused", "(II)I"⟩, 29), (⟨"TentMiddleModel", "tell", "(I)I"⟩, 29), (⟨"TentMiddleModel", "isSpan", "(III)Z"⟩, 29), (⟨"TentMiddleModel", "faultOf", "(I)I"⟩, 29), (⟨"TentMiddleModel", "readsCold", "()Z"⟩, 29), (⟨"TentMiddleModel", "skip", "()V"⟩, 29), (⟨"TentMiddleModel", "here", "()I"⟩, 29), (⟨"TentMiddleModel", "figure", "(I)I"⟩, 29), (⟨"TentMiddleModel", "readsSleeper", "()Z"⟩, 29), (⟨"TentMiddleModel", "kindHere", "()I"⟩, 29), (⟨"TentMiddleModel", "isSleeper", "(I)Z"⟩, 29), (⟨"TentMiddleModel", "toldOf", "(II)I"⟩, 29), (⟨"TentMiddleModel", "layNow", "()V"⟩, 29), (⟨"TentMiddleModel", "givesOf", "(I)I"⟩, 29), (⟨"TentMiddleModel", "kindOf", "(I)I"⟩, 29)]
theorem lw_r3 : ∀ q ∈ lw_privs_3, lw_okq q := List.forall_mem_cons.mpr ⟨lw_p32, List.forall_mem_cons.mpr ⟨lw_p33, List.forall_mem_cons.mpr ⟨lw_p34, List.forall_mem_cons.mpr ⟨lw_p35, List.forall_mem_cons.mpr ⟨lw_p36, List.forall_mem_cons.mpr ⟨lw_p37, List.forall_mem_cons.mpr ⟨lw_p38, List.forall_mem_cons.mpr ⟨lw_p39, List.forall_mem_cons.mpr ⟨lw_p40, List.forall_mem_cons.mpr ⟨lw_p41, List.forall_mem_cons.mpr ⟨lw_p42, List.forall_mem_cons.mpr ⟨lw_p43, List.forall_mem_cons.mpr ⟨lw_p44, List.forall_mem_cons.mpr ⟨lw_p45, List.forall_mem_cons.mpr ⟨lw_p46, List.forall_mem_cons.mpr ⟨lw_p47, fun _ h => absurd h List.not_mem_nil⟩⟩⟩⟩⟩⟩⟩⟩⟩⟩⟩⟩⟩⟩⟩⟩
theorem lw_p48 : lw_okq (⟨"TentMiddleModel", "placeOf", "(I)I"⟩, 29) := ⟨⟨by decide +kernel, by decide +kernel⟩, List.mem_of_getElem? (i := 839) (by decide +kernel), List.mem_of_getElem? (i := 1057) (by decide +kernel), List.mem_of_getElem? (i := 1058) (by decide +kernel)⟩
theorem lw_p49 : lw_okq (⟨"TentMiddleModel", "isOf", "(II)Z"⟩, 29) := ⟨⟨by decide +kernel, by decide +kernel⟩, List.mem_of_getElem? (i := 839) (by decide +kernel), List.mem_of_getElem? (i := 1065) (by decide +kernel), List.mem_of_getElem? (i := 1066) (by decide +kernel)⟩
theorem lw_p50 : lw_okq (⟨"TentMiddleModel", "heardBy", "(I)I"⟩, 29) := ⟨⟨by decide +kernel, by decide +kernel⟩, List.mem_of_getElem? (i := 839) (by decide +kernel), List.mem_of_getElem? (i := 1069) (by decide +kernel), List.mem_of_getElem? (i := 1070) (by decide +kernel)⟩
theorem lw_p51 : lw_okq (⟨"TentMiddleModel", "reaches", "(II)Z"⟩, 29) := ⟨⟨by decide +kernel, by decide +kernel⟩, List.mem_of_getElem? (i := 839) (by decide +kernel), List.mem_of_getElem? (i := 1076) (by decide +kernel), List.mem_of_getElem? (i := 1077) (by decide +kernel)⟩
theorem lw_p52 : lw_okq (⟨"TentMiddleModel", "snorersNear", "(I)I"⟩, 29) := ⟨⟨by decide +kernel, by decide +kernel⟩, List.mem_of_getElem? (i := 839) (by decide +kernel), List.mem_of_getElem? (i := 1083) (by decide +kernel), List.mem_of_getElem? (i := 1084) (by decide +kernel)⟩
theorem lw_p53 : lw_okq (⟨"TentMiddleModel", "beside", "(I)I"⟩, 29) := ⟨⟨by decide +kernel, by decide +kernel⟩, List.mem_of_getElem? (i := 839) (by decide +kernel), List.mem_of_getElem? (i := 1087) (by decide +kernel), List.mem_of_getElem? (i := 1088) (by decide +kernel)⟩
theorem lw_p54 : lw_okq (⟨"TentMiddleModel", "snorers", "()I"⟩, 29) := ⟨⟨by decide +kernel, by decide +kernel⟩, List.mem_of_getElem? (i := 839) (by decide +kernel), List.mem_of_getElem? (i := 1091) (by decide +kernel), List.mem_of_getElem? (i := 1092) (by decide +kernel)⟩
theorem lw_p55 : lw_okq (⟨"TentMiddleModel", "swap", "(II)V"⟩, 29) := ⟨⟨by decide +kernel, by decide +kernel⟩, List.mem_of_getElem? (i := 839) (by decide +kernel), List.mem_of_getElem? (i := 1115) (by decide +kernel), List.mem_of_getElem? (i := 1116) (by decide +kernel)⟩
theorem lw_p56 : lw_okq (⟨"TentMiddleModel", "isOrder", "(I)Z"⟩, 29) := ⟨⟨by decide +kernel, by decide +kernel⟩, List.mem_of_getElem? (i := 839) (by decide +kernel), List.mem_of_getElem? (i := 1127) (by decide +kernel), List.mem_of_getElem? (i := 1128) (by decide +kernel)⟩
theorem lw_p57 : lw_okq (⟨"TentMiddleModel", "sleepsIn", "(I)I"⟩, 29) := ⟨⟨by decide +kernel, by decide +kernel⟩, List.mem_of_getElem? (i := 839) (by decide +kernel), List.mem_of_getElem? (i := 1135) (by decide +kernel), List.mem_of_getElem? (i := 1136) (by decide +kernel)⟩
theorem lw_p58 : lw_okq (⟨"TentMiddleModel", "whyNot", "(II)I"⟩, 29) := ⟨⟨by decide +kernel, by decide +kernel⟩, List.mem_of_getElem? (i := 839) (by decide +kernel), List.mem_of_getElem? (i := 1139) (by decide +kernel), List.mem_of_getElem? (i := 1140) (by decide +kernel)⟩
theorem lw_p59 : lw_okq (⟨"TentMiddleModel", "feelsIn", "(II)I"⟩, 29) := ⟨⟨by decide +kernel, by decide +kernel⟩, List.mem_of_getElem? (i := 839) (by decide +kernel), List.mem_of_getElem? (i := 1143) (by decide +kernel), List.mem_of_getElem? (i := 1144) (by decide +kernel)⟩
theorem lw_p60 : lw_okq (⟨"TentMiddleModel", "isRim", "(I)Z"⟩, 29) := ⟨⟨by decide +kernel, by decide +kernel⟩, List.mem_of_getElem? (i := 839) (by decide +kernel), List.mem_of_getElem? (i := 1147) (by decide +kernel), List.mem_of_getElem? (i := 1148) (by decide +kernel)⟩
theorem lw_p61 : lw_okq (⟨"TentMiddleModel", "hears", "(I)Z"⟩, 29) := ⟨⟨by decide +kernel, by decide +kernel⟩, List.mem_of_getElem? (i := 839) (by decide +kernel), List.mem_of_getElem? (i := 1151) (by decide +kernel), List.mem_of_getElem? (i := 1152) (by decide +kernel)⟩
theorem lw_p62 : lw_okq (⟨"TentMiddleModel", "isSore", "(I)Z"⟩, 29) := ⟨⟨by decide +kernel, by decide +kernel⟩, List.mem_of_getElem? (i := 839) (by decide +kernel), List.mem_of_getElem? (i := 1155) (by decide +kernel), List.mem_of_getElem? (i := 1156) (by decide +kernel)⟩
theorem lw_p63 : lw_okq (⟨"TentMiddleModel", "copyTent", "(II)V"⟩, 29) := ⟨⟨by decide +kernel, by decide +kernel⟩, List.mem_of_getElem? (i := 839) (by decide +kernel), List.mem_of_getElem? (i := 1179) (by decide +kernel), List.mem_of_getElem? (i := 1180) (by decide +kernel)⟩
def lw_privs_4 : List (MethodName × Nat) := [(⟨"TentMiddleModel", "placeOf", "(I)I"⟩, 29), (⟨"TentMiddleModel", "isOf", "(II)Z"⟩, 29), (⟨"TentMiddleModel", "heardBy", "(I)I"⟩, 29), (⟨"TentMiddleModel", "reaches", "(II)Z"⟩, 29), (⟨"TentMiddleModel", "snorersNear", "(I)I"⟩, 29), (⟨"TentMiddleModel", "beside", "(I)I"⟩, 29), (⟨"TentMiddleModel", "snorers", "()I"⟩, 29), (⟨"TentMiddleModel", "swap", "(II)V"⟩, 29), (⟨"TentMiddleModel", "isOrder", "(I)Z"⟩, 29), (⟨"TentMiddleModel", "sleepsIn", "(I)I"⟩, 29), (⟨"TentMiddleModel", "whyNot", "(II)I"⟩, 29), (⟨"TentMiddleModel", "feelsIn", "(II)I"⟩, 29), (⟨"TentMiddleModel", "isRim", "(I)Z"⟩, 29), (⟨"TentMiddleModel", "hears", "(I)Z"⟩, 29), (⟨"TentMiddleModel", "isSore", "(I)Z"⟩, 29), (⟨"TentMiddleModel", "copyTent", "(II)V"⟩, 29)]
theorem lw_r4 : ∀ q ∈ lw_privs_4, lw_okq q := List.forall_mem_cons.mpr ⟨lw_p48, List.forall_mem_cons.mpr ⟨lw_p49, List.forall_mem_cons.mpr ⟨lw_p50, List.forall_mem_cons.mpr ⟨lw_p51, List.forall_mem_cons.mpr ⟨lw_p52, List.forall_mem_cons.mpr ⟨lw_p53, List.forall_mem_cons.mpr ⟨lw_p54, List.forall_mem_cons.mpr ⟨lw_p55, List.forall_mem_cons.mpr ⟨lw_p56, List.forall_mem_cons.mpr ⟨lw_p57, List.forall_mem_cons.mpr ⟨lw_p58, List.forall_mem_cons.mpr ⟨lw_p59, List.forall_mem_cons.mpr ⟨lw_p60, List.forall_mem_cons.mpr ⟨lw_p61, List.forall_mem_cons.mpr ⟨lw_p62, List.forall_mem_cons.mpr ⟨lw_p63, fun _ h => absurd h List.not_mem_nil⟩⟩⟩⟩⟩⟩⟩⟩⟩⟩⟩⟩⟩⟩⟩⟩
theorem lw_p64 : lw_okq (⟨"TentMiddleModel", "sleptBy", "(I)I"⟩, 29) := ⟨⟨by decide +kernel, by decide +kernel⟩, List.mem_of_getElem? (i := 839) (by decide +kernel), List.mem_of_getElem? (i := 1207) (by decide +kernel), List.mem_of_getElem? (i := 1208) (by decide +kernel)⟩
theorem lw_p65 : lw_okq (⟨"TentMiddleModel", "worthNow", "()I"⟩, 29) := ⟨⟨by decide +kernel, by decide +kernel⟩, List.mem_of_getElem? (i := 839) (by decide +kernel), List.mem_of_getElem? (i := 1219) (by decide +kernel), List.mem_of_getElem? (i := 1220) (by decide +kernel)⟩
theorem lw_p66 : lw_okq (⟨"TentMiddleModel", "leastNow", "()I"⟩, 29) := ⟨⟨by decide +kernel, by decide +kernel⟩, List.mem_of_getElem? (i := 839) (by decide +kernel), List.mem_of_getElem? (i := 1227) (by decide +kernel), List.mem_of_getElem? (i := 1228) (by decide +kernel)⟩
theorem lw_p67 : lw_okq (⟨"TentMiddleModel", "toBest", "(IZ)I"⟩, 29) := ⟨⟨by decide +kernel, by decide +kernel⟩, List.mem_of_getElem? (i := 839) (by decide +kernel), List.mem_of_getElem? (i := 1235) (by decide +kernel), List.mem_of_getElem? (i := 1236) (by decide +kernel)⟩
theorem lw_p68 : lw_okq (⟨"TentMiddleModel", "orderMany", "()I"⟩, 29) := ⟨⟨by decide +kernel, by decide +kernel⟩, List.mem_of_getElem? (i := 839) (by decide +kernel), List.mem_of_getElem? (i := 1239) (by decide +kernel), List.mem_of_getElem? (i := 1240) (by decide +kernel)⟩
theorem lw_p69 : lw_okq (⟨"TentMiddleModel", "lieBy", "(I)V"⟩, 29) := ⟨⟨by decide +kernel, by decide +kernel⟩, List.mem_of_getElem? (i := 839) (by decide +kernel), List.mem_of_getElem? (i := 1243) (by decide +kernel), List.mem_of_getElem? (i := 1244) (by decide +kernel)⟩
theorem lw_p70 : lw_okq (⟨"TentMiddleModel", "layOrder", "(I)V"⟩, 29) := ⟨⟨by decide +kernel, by decide +kernel⟩, List.mem_of_getElem? (i := 839) (by decide +kernel), List.mem_of_getElem? (i := 1247) (by decide +kernel), List.mem_of_getElem? (i := 1248) (by decide +kernel)⟩
theorem lw_p71 : lw_okq (⟨"TentMiddleModel", "orderTo", "(II)V"⟩, 29) := ⟨⟨by decide +kernel, by decide +kernel⟩, List.mem_of_getElem? (i := 839) (by decide +kernel), List.mem_of_getElem? (i := 1251) (by decide +kernel), List.mem_of_getElem? (i := 1252) (by decide +kernel)⟩
theorem lw_p72 : lw_okq (⟨"TentMiddleModel", "leastIn", "(III)I"⟩, 29) := ⟨⟨by decide +kernel, by decide +kernel⟩, List.mem_of_getElem? (i := 839) (by decide +kernel), List.mem_of_getElem? (i := 1275) (by decide +kernel), List.mem_of_getElem? (i := 1276) (by decide +kernel)⟩
theorem lw_p73 : lw_okq (⟨"TentMiddleModel", "areHeard", "(I)Z"⟩, 29) := ⟨⟨by decide +kernel, by decide +kernel⟩, List.mem_of_getElem? (i := 839) (by decide +kernel), List.mem_of_getElem? (i := 1291) (by decide +kernel), List.mem_of_getElem? (i := 1292) (by decide +kernel)⟩
theorem lw_p74 : lw_okq (⟨"TentMiddleModel", "fits", "(III)Z"⟩, 29) := ⟨⟨by decide +kernel, by decide +kernel⟩, List.mem_of_getElem? (i := 839) (by decide +kernel), List.mem_of_getElem? (i := 1295) (by decide +kernel), List.mem_of_getElem? (i := 1296) (by decide +kernel)⟩
theorem lw_p75 : lw_okq (⟨"TentMiddleModel", "countOf", "(I)I"⟩, 29) := ⟨⟨by decide +kernel, by decide +kernel⟩, List.mem_of_getElem? (i := 839) (by decide +kernel), List.mem_of_getElem? (i := 1335) (by decide +kernel), List.mem_of_getElem? (i := 1336) (by decide +kernel)⟩
theorem lw_p76 : lw_okq (⟨"TentMiddleModel", "thereOf", "(I)I"⟩, 29) := ⟨⟨by decide +kernel, by decide +kernel⟩, List.mem_of_getElem? (i := 839) (by decide +kernel), List.mem_of_getElem? (i := 1339) (by decide +kernel), List.mem_of_getElem? (i := 1340) (by decide +kernel)⟩
def lw_privs_5 : List (MethodName × Nat) := [(⟨"TentMiddleModel", "sleptBy", "(I)I"⟩, 29), (⟨"TentMiddleModel", "worthNow", "()I"⟩, 29), (⟨"TentMiddleModel", "leastNow", "()I"⟩, 29), (⟨"TentMiddleModel", "toBest", "(IZ)I"⟩, 29), (⟨"TentMiddleModel", "orderMany", "()I"⟩, 29), (⟨"TentMiddleModel", "lieBy", "(I)V"⟩, 29), (⟨"TentMiddleModel", "layOrder", "(I)V"⟩, 29), (⟨"TentMiddleModel", "orderTo", "(II)V"⟩, 29), (⟨"TentMiddleModel", "leastIn", "(III)I"⟩, 29), (⟨"TentMiddleModel", "areHeard", "(I)Z"⟩, 29), (⟨"TentMiddleModel", "fits", "(III)Z"⟩, 29), (⟨"TentMiddleModel", "countOf", "(I)I"⟩, 29), (⟨"TentMiddleModel", "thereOf", "(I)I"⟩, 29)]
theorem lw_r5 : ∀ q ∈ lw_privs_5, lw_okq q := List.forall_mem_cons.mpr ⟨lw_p64, List.forall_mem_cons.mpr ⟨lw_p65, List.forall_mem_cons.mpr ⟨lw_p66, List.forall_mem_cons.mpr ⟨lw_p67, List.forall_mem_cons.mpr ⟨lw_p68, List.forall_mem_cons.mpr ⟨lw_p69, List.forall_mem_cons.mpr ⟨lw_p70, List.forall_mem_cons.mpr ⟨lw_p71, List.forall_mem_cons.mpr ⟨lw_p72, List.forall_mem_cons.mpr ⟨lw_p73, List.forall_mem_cons.mpr ⟨lw_p74, List.forall_mem_cons.mpr ⟨lw_p75, List.forall_mem_cons.mpr ⟨lw_p76, fun _ h => absurd h List.not_mem_nil⟩⟩⟩⟩⟩⟩⟩⟩⟩⟩⟩⟩⟩
def lw_privs : List (MethodName × Nat) := lw_privs_1 ++ (lw_privs_2 ++ (lw_privs_3 ++ (lw_privs_4 ++ (lw_privs_5))))
def lw_tbl : List Cond := k2_sels lw_privs ++ tables_1
theorem lw_privs_ok : ∀ q ∈ lw_privs, lw_okq q := by
  show ∀ q ∈ lw_privs_1 ++ (lw_privs_2 ++ (lw_privs_3 ++ (lw_privs_4 ++ (lw_privs_5)))), lw_okq q
  exact List.forall_mem_append.mpr ⟨lw_r1, List.forall_mem_append.mpr ⟨lw_r2, List.forall_mem_append.mpr ⟨lw_r3, List.forall_mem_append.mpr ⟨lw_r4, lw_r5⟩⟩⟩⟩
-- ===== end of PART A; then your names; then what follows =====
end
section
def RX0 : String := "TentMiddle$Camp"
def TX0 : u_T := fun k => match k with
  | 0 => ("TentMiddle$Camp", "cold", "[I", true)
  | 1 => ("TentMiddle$Camp", "kind", "[I", true)
  | 2 => ("TentMiddle$Camp", "gives", "[I", true)
  | 3 => ("TentMiddle$Camp", "bag", "[I", true)
  | 4 => ("TentMiddle$Camp", "place", "[I", true)
  | 5 => ("TentMiddle$Camp", "who", "[I", true)
  | 6 => ("TentMiddle$Camp", "trulySlept", "[I", true)
  | 7 => ("TentMiddle$Camp", "trulyAtRim", "[I", true)
  | 8 => ("TentMiddle$Camp", "calm", "[I", true)
  | 9 => ("TentMiddle$Camp", "past", "[I", true)
  | 10 => ("TentMiddle$Camp", "size", "I", false)
  | 11 => ("TentMiddle$Camp", "vent", "I", false)
  | 12 => ("TentMiddle$Camp", "bottle", "I", false)
  | 13 => ("TentMiddle$Camp", "turns", "I", false)
  | 14 => ("TentMiddle$Camp", "hour", "I", false)
  | 15 => ("TentMiddle$Camp", "night", "I", false)
  | _ => ("TentMiddle$Camp", "hours", "I", false)
def tyX0 : Nat → FieldType := fun k => match k with
  | 0 => .array .int
  | 1 => .array .int
  | 2 => .array .int
  | 3 => .array .int
  | 4 => .array .int
  | 5 => .array .int
  | 6 => .array .int
  | 7 => .array .int
  | 8 => .array .int
  | 9 => .array .int
  | 10 => .int
  | 11 => .int
  | 12 => .int
  | 13 => .int
  | 14 => .int
  | 15 => .int
  | _ => .int
theorem nmX0 : ∀ a, a < 17 → ∀ b, b < 17 → a ≠ b → (TX0 a).2.1 ≠ (TX0 b).2.1 := by decide +kernel
theorem tyX0_ok : ∀ k, k < 17 → parseFieldDescriptor (TX0 k).2.2.1 = some (tyX0 k) := by decide +kernel
def RX1 : String := "TentMiddle$Orders"
def TX1 : u_T := fun k => match k with
  | 0 => ("TentMiddle$Orders", "order", "[I", true)
  | _ => ("TentMiddle$Orders", "size", "I", false)
def tyX1 : Nat → FieldType := fun k => match k with
  | 0 => .array .int
  | _ => .int
theorem nmX1 : ∀ a, a < 2 → ∀ b, b < 2 → a ≠ b → (TX1 a).2.1 ≠ (TX1 b).2.1 := by decide +kernel
theorem tyX1_ok : ∀ k, k < 2 → parseFieldDescriptor (TX1 k).2.2.1 = some (tyX1 k) := by decide +kernel
def RX2 : String := "TentMiddle$Plan"
def TX2 : u_T := fun k => match k with
  | 0 => ("TentMiddle$Plan", "numbers", "[I", true)
  | 1 => ("TentMiddle$Plan", "lines", "[I", true)
  | 2 => ("TentMiddle$Plan", "mostOf", "[I", true)
  | 3 => ("TentMiddle$Plan", "sums", "[I", true)
  | 4 => ("TentMiddle$Plan", "chosen", "[I", true)
  | 5 => ("TentMiddle$Plan", "best", "[I", true)
  | 6 => ("TentMiddle$Plan", "bestLeast", "I", false)
  | 7 => ("TentMiddle$Plan", "many", "I", false)
  | _ => ("TentMiddle$Plan", "size", "I", false)
def tyX2 : Nat → FieldType := fun k => match k with
  | 0 => .array .int
  | 1 => .array .int
  | 2 => .array .int
  | 3 => .array .int
  | 4 => .array .int
  | 5 => .array .int
  | 6 => .int
  | 7 => .int
  | _ => .int
theorem nmX2 : ∀ a, a < 9 → ∀ b, b < 9 → a ≠ b → (TX2 a).2.1 ≠ (TX2 b).2.1 := by decide +kernel
theorem tyX2_ok : ∀ k, k < 9 → parseFieldDescriptor (TX2 k).2.2.1 = some (tyX2 k) := by decide +kernel
def RX3 : String := "TentMiddle$Reader"
def TX3 : u_T := fun k => match k with
  | 0 => ("TentMiddle$Reader", "camp", "LTentMiddle$Camp;", true)
  | 1 => ("TentMiddle$Reader", "signs", "[I", true)
  | 2 => ("TentMiddle$Reader", "size", "I", false)
  | _ => ("TentMiddle$Reader", "next", "I", false)
def tyX3 : Nat → FieldType := fun k => match k with
  | 0 => .object "TentMiddle$Camp"
  | 1 => .array .int
  | 2 => .int
  | _ => .int
theorem nmX3 : ∀ a, a < 4 → ∀ b, b < 4 → a ≠ b → (TX3 a).2.1 ≠ (TX3 b).2.1 := by decide +kernel
theorem tyX3_ok : ∀ k, k < 4 → parseFieldDescriptor (TX3 k).2.2.1 = some (tyX3 k) := by decide +kernel
def RX4 : String := "TentMiddle$Shelf"
def TX4 : u_T := fun k => match k with
  | 0 => ("TentMiddle$Shelf", "limit", "I", true)
  | 1 => ("TentMiddle$Shelf", "sizes", "[I", true)
  | _ => ("TentMiddle$Shelf", "cells", "[I", true)
def tyX4 : Nat → FieldType := fun k => match k with
  | 0 => .int
  | 1 => .array .int
  | _ => .array .int
theorem nmX4 : ∀ a, a < 3 → ∀ b, b < 3 → a ≠ b → (TX4 a).2.1 ≠ (TX4 b).2.1 := by decide +kernel
theorem tyX4_ok : ∀ k, k < 3 → parseFieldDescriptor (TX4 k).2.2.1 = some (tyX4 k) := by decide +kernel
def RX5 : String := "TentMiddle"
def TX5 : u_T := fun k => match k with
  | 0 => ("TentMiddle", "rows", "LTentMiddle$Shelf;", true)
  | 1 => ("TentMiddle", "texts", "LTentMiddle$Shelf;", true)
  | 2 => ("TentMiddle", "camp", "LTentMiddle$Camp;", true)
  | 3 => ("TentMiddle", "kept", "[LTentMiddle$Camp;", true)
  | 4 => ("TentMiddle", "trial", "LTentMiddle$Camp;", true)
  | 5 => ("TentMiddle", "reader", "LTentMiddle$Reader;", true)
  | 6 => ("TentMiddle", "orders", "LTentMiddle$Orders;", true)
  | 7 => ("TentMiddle", "plan", "LTentMiddle$Plan;", true)
  | 8 => ("TentMiddle", "findingCounts", "[I", true)
  | 9 => ("TentMiddle", "lastFinding", "I", false)
  | 10 => ("TentMiddle", "told", "I", false)
  | 11 => ("TentMiddle", "chanceUpper", "J", false)
  | _ => ("TentMiddle", "chanceLower", "J", false)
def tyX5 : Nat → FieldType := fun k => match k with
  | 0 => .object "TentMiddle$Shelf"
  | 1 => .object "TentMiddle$Shelf"
  | 2 => .object "TentMiddle$Camp"
  | 3 => .array (.object "TentMiddle$Camp")
  | 4 => .object "TentMiddle$Camp"
  | 5 => .object "TentMiddle$Reader"
  | 6 => .object "TentMiddle$Orders"
  | 7 => .object "TentMiddle$Plan"
  | 8 => .array .int
  | 9 => .int
  | 10 => .int
  | 11 => .long
  | _ => .long
theorem nmX5 : ∀ a, a < 13 → ∀ b, b < 13 → a ≠ b → (TX5 a).2.1 ≠ (TX5 b).2.1 := by decide +kernel
theorem tyX5_ok : ∀ k, k < 13 → parseFieldDescriptor (TX5 k).2.2.1 = some (tyX5 k) := by decide +kernel
def RX6 : String := "TentMiddleModel"
def TX6 : u_T := fun k => match k with
  | 0 => ("TentMiddleModel", "tent", "[I", true)
  | 1 => ("TentMiddleModel", "sleepers", "I", false)
  | 2 => ("TentMiddleModel", "kinds", "[I", true)
  | 3 => ("TentMiddleModel", "gives", "[I", true)
  | 4 => ("TentMiddleModel", "cold", "[I", true)
  | 5 => ("TentMiddleModel", "sizes", "[I", true)
  | 6 => ("TentMiddleModel", "items", "[I", true)
  | 7 => ("TentMiddleModel", "lengths", "[I", true)
  | 8 => ("TentMiddleModel", "bytes", "[I", true)
  | 9 => ("TentMiddleModel", "asked", "I", false)
  | 10 => ("TentMiddleModel", "upper", "J", false)
  | 11 => ("TentMiddleModel", "lower", "J", false)
  | 12 => ("TentMiddleModel", "finding", "I", false)
  | 13 => ("TentMiddleModel", "findings", "[I", true)
  | 14 => ("TentMiddleModel", "from", "I", false)
  | 15 => ("TentMiddleModel", "place", "I", false)
  | 16 => ("TentMiddleModel", "end", "I", false)
  | 17 => ("TentMiddleModel", "readCold", "[I", true)
  | 18 => ("TentMiddleModel", "readSleepers", "[I", true)
  | 19 => ("TentMiddleModel", "readMany", "I", false)
  | 20 => ("TentMiddleModel", "lies", "[I", true)
  | 21 => ("TentMiddleModel", "bags", "[I", true)
  | 22 => ("TentMiddleModel", "turnSet", "I", false)
  | 23 => ("TentMiddleModel", "bottleAt", "I", false)
  | 24 => ("TentMiddleModel", "quiet", "I", false)
  | 25 => ("TentMiddleModel", "other", "I", false)
  | 26 => ("TentMiddleModel", "otherKind", "I", false)
  | 27 => ("TentMiddleModel", "order", "[I", true)
  | _ => ("TentMiddleModel", "sleptIn", "[I", true)
def tyX6 : Nat → FieldType := fun k => match k with
  | 0 => .array .int
  | 1 => .int
  | 2 => .array .int
  | 3 => .array .int
  | 4 => .array .int
  | 5 => .array .int
  | 6 => .array .int
  | 7 => .array .int
  | 8 => .array .int
  | 9 => .int
  | 10 => .long
  | 11 => .long
  | 12 => .int
  | 13 => .array .int
  | 14 => .int
  | 15 => .int
  | 16 => .int
  | 17 => .array .int
  | 18 => .array .int
  | 19 => .int
  | 20 => .array .int
  | 21 => .array .int
  | 22 => .int
  | 23 => .int
  | 24 => .int
  | 25 => .int
  | 26 => .int
  | 27 => .array .int
  | _ => .array .int
theorem nmX6 : ∀ a, a < 29 → ∀ b, b < 29 → a ≠ b → (TX6 a).2.1 ≠ (TX6 b).2.1 := by decide +kernel
theorem tyX6_ok : ∀ k, k < 29 → parseFieldDescriptor (TX6 k).2.2.1 = some (tyX6 k) := by decide +kernel
def mcl : List vw_C := [(RX0, TX0, 17), (RX1, TX1, 2), (RX2, TX2, 9), (RX3, TX3, 4), (RX4, TX4, 3), (RX5, TX5, 13), (RX6, TX6, 29)]
def tyF (a b : Nat) : FieldType × Bool := match a with
  | 0 => (tyX0 b, (TX0 b).2.2.2)
  | 1 => (tyX1 b, (TX1 b).2.2.2)
  | 2 => (tyX2 b, (TX2 b).2.2.2)
  | 3 => (tyX3 b, (TX3 b).2.2.2)
  | 4 => (tyX4 b, (TX4 b).2.2.2)
  | 5 => (tyX5 b, (TX5 b).2.2.2)
  | _ => (tyX6 b, (TX6 b).2.2.2)
theorem tyF_ok {a b : Nat} {C : String} {T : u_T} {N : Nat} {f : FieldType} (h1 : mcl[a]? = some (C, T, N)) (h2 : b < N) (hf : (tyF a b).1 = f ∧ (tyF a b).2 = false) : ∃ ty0 : Nat → FieldType, (∀ k, k < N → parseFieldDescriptor (T k).2.2.1 = some (ty0 k)) ∧ (∀ a, a < N → ∀ b, b < N → a ≠ b → (T a).2.1 ≠ (T b).2.1) ∧ parseFieldDescriptor (T b).2.2.1 = some f ∧ (T b).2.2.2 = false := by
  obtain ⟨rfl, hf⟩ := hf
  match a, h1 with
  | 0, h1 => cases h1; exact ⟨tyX0, tyX0_ok, nmX0, tyX0_ok b h2, hf⟩
  | 1, h1 => cases h1; exact ⟨tyX1, tyX1_ok, nmX1, tyX1_ok b h2, hf⟩
  | 2, h1 => cases h1; exact ⟨tyX2, tyX2_ok, nmX2, tyX2_ok b h2, hf⟩
  | 3, h1 => cases h1; exact ⟨tyX3, tyX3_ok, nmX3, tyX3_ok b h2, hf⟩
  | 4, h1 => cases h1; exact ⟨tyX4, tyX4_ok, nmX4, tyX4_ok b h2, hf⟩
  | 5, h1 => cases h1; exact ⟨tyX5, tyX5_ok, nmX5, tyX5_ok b h2, hf⟩
  | 6, h1 => cases h1; exact ⟨tyX6, tyX6_ok, nmX6, tyX6_ok b h2, hf⟩
  | k + 7, h1 => cases h1
def T1 : List Cond := lw_tbl.filter goodWord
theorem T1_in {i : Nat} {w : Cond} (h : lw_tbl[i]? = some w) (g : goodWord w = true) : w ∈ T1 := List.mem_filter.mpr ⟨List.mem_of_getElem? h, g⟩
theorem T1_in1 {i : Nat} {w : Cond} (h : tables_1_1[i]? = some w) (g : goodWord w = true) : w ∈ T1 := List.mem_filter.mpr ⟨by
  show w ∈ k2_sels lw_privs ++ tables_1
  unfold tables_1
  simp only [List.mem_append]
  have := List.mem_of_getElem? h
  simp only [this, true_or, or_true], g⟩
theorem T1_in2 {i : Nat} {w : Cond} (h : tables_1_2[i]? = some w) (g : goodWord w = true) : w ∈ T1 := List.mem_filter.mpr ⟨by
  show w ∈ k2_sels lw_privs ++ tables_1
  unfold tables_1
  simp only [List.mem_append]
  have := List.mem_of_getElem? h
  simp only [this, true_or, or_true], g⟩
theorem T1_in3 {i : Nat} {w : Cond} (h : tables_1_3[i]? = some w) (g : goodWord w = true) : w ∈ T1 := List.mem_filter.mpr ⟨by
  show w ∈ k2_sels lw_privs ++ tables_1
  unfold tables_1
  simp only [List.mem_append]
  have := List.mem_of_getElem? h
  simp only [this, true_or, or_true], g⟩
theorem T1_in4 {i : Nat} {w : Cond} (h : tables_1_4[i]? = some w) (g : goodWord w = true) : w ∈ T1 := List.mem_filter.mpr ⟨by
  show w ∈ k2_sels lw_privs ++ tables_1
  unfold tables_1
  simp only [List.mem_append]
  have := List.mem_of_getElem? h
  simp only [this, true_or, or_true], g⟩
theorem T1_in5 {i : Nat} {w : Cond} (h : tables_1_5[i]? = some w) (g : goodWord w = true) : w ∈ T1 := List.mem_filter.mpr ⟨by
  show w ∈ k2_sels lw_privs ++ tables_1
  unfold tables_1
  simp only [List.mem_append]
  have := List.mem_of_getElem? h
  simp only [this, true_or, or_true], g⟩
theorem T1_in6 {i : Nat} {w : Cond} (h : tables_1_6[i]? = some w) (g : goodWord w = true) : w ∈ T1 := List.mem_filter.mpr ⟨by
  show w ∈ k2_sels lw_privs ++ tables_1
  unfold tables_1
  simp only [List.mem_append]
  have := List.mem_of_getElem? h
  simp only [this, true_or, or_true], g⟩
theorem T1_inP {i : Nat} {q : MethodName × Nat} (h : lw_privs[i]? = some q) : Cond.selects q.1.cls q.1 q.1 ∈ T1 := List.mem_filter.mpr ⟨List.mem_append_left _ (List.mem_map.mpr ⟨q, List.mem_of_getElem? h, rfl⟩), rfl⟩
set_option maxRecDepth 100000 in
theorem iX0 : ∀ w ∈ u_ws RX0 TX0 17, w ∈ T1 := by
  intro w hw
  obtain ⟨k, hk, rfl⟩ := List.mem_map.mp hw
  have hk : k < 17 := List.mem_range.mp hk
  match k, hk with
  | 0, _ => exact T1_in1 (i := 77) rfl rfl
  | 1, _ => exact T1_in1 (i := 79) rfl rfl
  | 2, _ => exact T1_in1 (i := 81) rfl rfl
  | 3, _ => exact T1_in1 (i := 83) rfl rfl
  | 4, _ => exact T1_in1 (i := 85) rfl rfl
  | 5, _ => exact T1_in1 (i := 87) rfl rfl
  | 6, _ => exact T1_in1 (i := 89) rfl rfl
  | 7, _ => exact T1_in1 (i := 91) rfl rfl
  | 8, _ => exact T1_in1 (i := 93) rfl rfl
  | 9, _ => exact T1_in1 (i := 95) rfl rfl
  | 10, _ => exact T1_in1 (i := 97) rfl rfl
  | 11, _ => exact T1_in1 (i := 99) rfl rfl
  | 12, _ => exact T1_in1 (i := 101) rfl rfl
  | 13, _ => exact T1_in1 (i := 103) rfl rfl
  | 14, _ => exact T1_in1 (i := 105) rfl rfl
  | 15, _ => exact T1_in1 (i := 107) rfl rfl
  | 16, _ => exact T1_in1 (i := 109) rfl rfl
  | k + 17, h => exact absurd h (by omega)
set_option maxRecDepth 100000 in
theorem iX1 : ∀ w ∈ u_ws RX1 TX1 2, w ∈ T1 := by
  intro w hw
  obtain ⟨k, hk, rfl⟩ := List.mem_map.mp hw
  have hk : k < 2 := List.mem_range.mp hk
  match k, hk with
  | 0, _ => exact T1_in1 (i := 144) rfl rfl
  | 1, _ => exact T1_in1 (i := 146) rfl rfl
  | k + 2, h => exact absurd h (by omega)
set_option maxRecDepth 100000 in
theorem iX2 : ∀ w ∈ u_ws RX2 TX2 9, w ∈ T1 := by
  intro w hw
  obtain ⟨k, hk, rfl⟩ := List.mem_map.mp hw
  have hk : k < 9 := List.mem_range.mp hk
  match k, hk with
  | 0, _ => exact T1_in1 (i := 164) rfl rfl
  | 1, _ => exact T1_in1 (i := 166) rfl rfl
  | 2, _ => exact T1_in1 (i := 168) rfl rfl
  | 3, _ => exact T1_in1 (i := 170) rfl rfl
  | 4, _ => exact T1_in1 (i := 172) rfl rfl
  | 5, _ => exact T1_in1 (i := 174) rfl rfl
  | 6, _ => exact T1_in1 (i := 176) rfl rfl
  | 7, _ => exact T1_in1 (i := 178) rfl rfl
  | 8, _ => exact T1_in1 (i := 180) rfl rfl
  | k + 9, h => exact absurd h (by omega)
set_option maxRecDepth 100000 in
theorem iX3 : ∀ w ∈ u_ws RX3 TX3 4, w ∈ T1 := by
  intro w hw
  obtain ⟨k, hk, rfl⟩ := List.mem_map.mp hw
  have hk : k < 4 := List.mem_range.mp hk
  match k, hk with
  | 0, _ => exact T1_in1 (i := 126) rfl rfl
  | 1, _ => exact T1_in1 (i := 128) rfl rfl
  | 2, _ => exact T1_in1 (i := 130) rfl rfl
  | 3, _ => exact T1_in1 (i := 132) rfl rfl
  | k + 4, h => exact absurd h (by omega)
set_option maxRecDepth 100000 in
theorem iX4 : ∀ w ∈ u_ws RX4 TX4 3, w ∈ T1 := by
  intro w hw
  obtain ⟨k, hk, rfl⟩ := List.mem_map.mp hw
  have hk : k < 3 := List.mem_range.mp hk
  match k, hk with
  | 0, _ => exact T1_in1 (i := 33) rfl rfl
  | 1, _ => exact T1_in1 (i := 35) rfl rfl
  | 2, _ => exact T1_in1 (i := 37) rfl rfl
  | k + 3, h => exact absurd h (by omega)
set_option maxRecDepth 100000 in
theorem iX5 : ∀ w ∈ u_ws RX5 TX5 13, w ∈ T1 := by
  intro w hw
  obtain ⟨k, hk, rfl⟩ := List.mem_map.mp hw
  have hk : k < 13 := List.mem_range.mp hk
  match k, hk with
  | 0, _ => exact T1_in1 (i := 196) rfl rfl
  | 1, _ => exact T1_in1 (i := 198) rfl rfl
  | 2, _ => exact T1_in1 (i := 200) rfl rfl
  | 3, _ => exact T1_in1 (i := 202) rfl rfl
  | 4, _ => exact T1_in1 (i := 204) rfl rfl
  | 5, _ => exact T1_in1 (i := 206) rfl rfl
  | 6, _ => exact T1_in1 (i := 208) rfl rfl
  | 7, _ => exact T1_in1 (i := 210) rfl rfl
  | 8, _ => exact T1_in1 (i := 212) rfl rfl
  | 9, _ => exact T1_in1 (i := 214) rfl rfl
  | 10, _ => exact T1_in1 (i := 216) rfl rfl
  | 11, _ => exact T1_in1 (i := 218) rfl rfl
  | 12, _ => exact T1_in1 (i := 220) rfl rfl
  | k + 13, h => exact absurd h (by omega)
set_option maxRecDepth 100000 in
theorem iX6 : ∀ w ∈ u_ws RX6 TX6 29, w ∈ T1 := by
  intro w hw
  obtain ⟨k, hk, rfl⟩ := List.mem_map.mp hw
  have hk : k < 29 := List.mem_range.mp hk
  match k, hk with
  | 0, _ => exact T1_in4 (i := 153) rfl rfl
  | 1, _ => exact T1_in4 (i := 155) rfl rfl
  | 2, _ => exact T1_in4 (i := 157) rfl rfl
  | 3, _ => exact T1_in4 (i := 159) rfl rfl
  | 4, _ => exact T1_in4 (i := 161) rfl rfl
  | 5, _ => exact T1_in4 (i := 163) rfl rfl
  | 6, _ => exact T1_in4 (i := 165) rfl rfl
  | 7, _ => exact T1_in4 (i := 167) rfl rfl
  | 8, _ => exact T1_in4 (i := 169) rfl rfl
  | 9, _ => exact T1_in4 (i := 171) rfl rfl
  | 10, _ => exact T1_in4 (i := 173) rfl rfl
  | 11, _ => exact T1_in4 (i := 175) rfl rfl
  | 12, _ => exact T1_in4 (i := 177) rfl rfl
  | 13, _ => exact T1_in4 (i := 179) rfl rfl
  | 14, _ => exact T1_in4 (i := 181) rfl rfl
  | 15, _ => exact T1_in4 (i := 183) rfl rfl
  | 16, _ => exact T1_in4 (i := 185) rfl rfl
  | 17, _ => exact T1_in4 (i := 187) rfl rfl
  | 18, _ => exact T1_in4 (i := 189) rfl rfl
  | 19, _ => exact T1_in4 (i := 191) rfl rfl
  | 20, _ => exact T1_in4 (i := 193) rfl rfl
  | 21, _ => exact T1_in4 (i := 195) rfl rfl
  | 22, _ => exact T1_in4 (i := 197) rfl rfl
  | 23, _ => exact T1_in4 (i := 199) rfl rfl
  | 24, _ => exact T1_in4 (i := 201) rfl rfl
  | 25, _ => exact T1_in4 (i := 203) rfl rfl
  | 26, _ => exact T1_in4 (i := 205) rfl rfl
  | 27, _ => exact T1_in4 (i := 207) rfl rfl
  | 28, _ => exact T1_in4 (i := 209) rfl rfl
  | k + 29, h => exact absurd h (by omega)
set_option maxRecDepth 100000 in
theorem minW : Cond.static Lib.Math.min.name ∈ T1 ∧ Cond.initialized "java/lang/Math" ∈ T1 ∧ Cond.code Lib.Math.min.name Lib.Math.min.code 2 (some .int) ∈ T1 := ⟨T1_in2 (i := 103) rfl rfl, T1_in1 (i := 10) rfl rfl, T1_in2 (i := 104) rfl rfl⟩
set_option maxRecDepth 100000 in
theorem maxW : Cond.static Lib.Math.max.name ∈ T1 ∧ Cond.initialized "java/lang/Math" ∈ T1 ∧ Cond.code Lib.Math.max.name Lib.Math.max.code 2 (some .int) ∈ T1 := ⟨T1_in3 (i := 238) rfl rfl, T1_in1 (i := 10) rfl rfl, T1_in3 (i := 239) rfl rfl⟩
set_option maxRecDepth 100000 in
theorem cpyW : Cond.native arraycopyName ∈ T1 ∧ Cond.static arraycopyName ∈ T1 ∧ Cond.initialized "java/lang/System" ∈ T1 := ⟨T1_in2 (i := 70) rfl rfl, T1_in2 (i := 69) rfl rfl, T1_in1 (i := 9) rfl rfl⟩
def nwFi : Nat := 334
def nwMi : Nat := 25
def y_Tent_init : MethodName := ⟨"TentMiddle", "<init>", "()V"⟩
def y_Object_init : MethodName := ⟨"java/lang/Object", "<init>", "()V"⟩
def y_Shelf_init : MethodName := ⟨"TentMiddle$Shelf", "<init>", "(II)V"⟩
def y_Arrays_fill2 : MethodName := ⟨"java/util/Arrays", "fill", "([II)V"⟩
def y_Camp_init : MethodName := ⟨"TentMiddle$Camp", "<init>", "(I)V"⟩
def y_Reader_init : MethodName := ⟨"TentMiddle$Reader", "<init>", "()V"⟩
def y_Orders_init : MethodName := ⟨"TentMiddle$Orders", "<init>", "()V"⟩
def y_Plan_init : MethodName := ⟨"TentMiddle$Plan", "<init>", "()V"⟩
def y_Tent_row : MethodName := ⟨"TentMiddle", "row", "(II)I"⟩
def y_Tent_makeIn : MethodName := ⟨"TentMiddle", "makeIn", "(LTentMiddle$Shelf;III)I"⟩
def y_Shelf_isNumber : MethodName := ⟨"TentMiddle$Shelf", "isNumber", "(I)Z"⟩
def y_Tent_found : MethodName := ⟨"TentMiddle", "found", "(I)I"⟩
def y_Shelf_make : MethodName := ⟨"TentMiddle$Shelf", "make", "(III)V"⟩
def y_Arrays_fill4 : MethodName := ⟨"java/util/Arrays", "fill", "([IIII)V"⟩
def y_Arrays_rangeCheck : MethodName := ⟨"java/util/Arrays", "rangeCheck", "(III)V"⟩
def y_Tent_lay : MethodName := ⟨"TentMiddle", "lay", "(III)I"⟩
def y_Tent_refusePlace : MethodName := ⟨"TentMiddle", "refusePlace", "(LTentMiddle$Shelf;II)I"⟩
def y_Tent_refuseMissing : MethodName := ⟨"TentMiddle", "refuseMissing", "(LTentMiddle$Shelf;I)I"⟩
def y_Shelf_isThere : MethodName := ⟨"TentMiddle$Shelf", "isThere", "(I)Z"⟩
def y_Shelf_sizeOf : MethodName := ⟨"TentMiddle$Shelf", "sizeOf", "(I)I"⟩
def y_Shelf_hasPlace : MethodName := ⟨"TentMiddle$Shelf", "hasPlace", "(II)Z"⟩
def y_Shelf_get : MethodName := ⟨"TentMiddle$Shelf", "get", "(II)I"⟩
def y_Shelf_set : MethodName := ⟨"TentMiddle$Shelf", "set", "(III)V"⟩
def y_Tent_at : MethodName := ⟨"TentMiddle", "at", "(II)I"⟩
def y_Tent_tear : MethodName := ⟨"TentMiddle", "tear", "(I)I"⟩
def y_Shelf_remove : MethodName := ⟨"TentMiddle$Shelf", "remove", "(I)V"⟩
def y_Tent_copy : MethodName := ⟨"TentMiddle", "copy", "(IIIII)I"⟩
def y_Shelf_hasSpan : MethodName := ⟨"TentMiddle$Shelf", "hasSpan", "(III)Z"⟩
def y_Shelf_move : MethodName := ⟨"TentMiddle$Shelf", "move", "(IIIII)V"⟩
def y_Tent_mean : MethodName := ⟨"TentMiddle", "mean", "(I)I"⟩
def y_Shelf_sum : MethodName := ⟨"TentMiddle$Shelf", "sum", "(I)J"⟩
def y_Tent_text : MethodName := ⟨"TentMiddle", "text", "(II)I"⟩
def y_Tent_put : MethodName := ⟨"TentMiddle", "put", "(III)I"⟩
def y_Tent_fault : MethodName := ⟨"TentMiddle", "fault", "(I)I"⟩
def y_Reader_read : MethodName := ⟨"TentMiddle$Reader", "read", "(LTentMiddle$Shelf;I)I"⟩
def y_Reader_take : MethodName := ⟨"TentMiddle$Reader", "take", "(LTentMiddle$Shelf;I)V"⟩
def y_Math_min : MethodName := ⟨"java/lang/Math", "min", "(II)I"⟩
def y_Camp_begin : MethodName := ⟨"TentMiddle$Camp", "begin", "()V"⟩
def y_Reader_readCold : MethodName := ⟨"TentMiddle$Reader", "readCold", "()Z"⟩
def y_Reader_skipBlanks : MethodName := ⟨"TentMiddle$Reader", "skipBlanks", "()V"⟩
def y_Reader_sign : MethodName := ⟨"TentMiddle$Reader", "sign", "()I"⟩
def y_Reader_readFigure : MethodName := ⟨"TentMiddle$Reader", "readFigure", "(I)I"⟩
def y_Reader_readSleeper : MethodName := ⟨"TentMiddle$Reader", "readSleeper", "()Z"⟩
def y_Reader_kindOf : MethodName := ⟨"TentMiddle$Reader", "kindOf", "(I)I"⟩
def y_Camp_add : MethodName := ⟨"TentMiddle$Camp", "add", "(III)V"⟩
def y_Tent_tent : MethodName := ⟨"TentMiddle", "tent", "(I)I"⟩
def y_Camp_takeWhole : MethodName := ⟨"TentMiddle$Camp", "takeWhole", "(LTentMiddle$Camp;)V"⟩
def y_Camp_takePresent : MethodName := ⟨"TentMiddle$Camp", "takePresent", "(LTentMiddle$Camp;)V"⟩
def y_Tent_sleeper : MethodName := ⟨"TentMiddle", "sleeper", "(II)I"⟩
def y_Camp_isSleeper : MethodName := ⟨"TentMiddle$Camp", "isSleeper", "(I)Z"⟩
def y_Camp_trait : MethodName := ⟨"TentMiddle$Camp", "trait", "(II)I"⟩
def y_Camp_givenFrom : MethodName := ⟨"TentMiddle$Camp", "givenFrom", "(I)I"⟩
def y_Tent_mark : MethodName := ⟨"TentMiddle", "mark", "(II)I"⟩
def y_Camp_isOf : MethodName := ⟨"TentMiddle$Camp", "isOf", "(II)Z"⟩
def y_Camp_hearersOf : MethodName := ⟨"TentMiddle$Camp", "hearersOf", "(I)I"⟩
def y_Camp_reach : MethodName := ⟨"TentMiddle$Camp", "reach", "(I)I"⟩
def y_Camp_hearsWithin : MethodName := ⟨"TentMiddle$Camp", "hearsWithin", "(III)Z"⟩
def y_Camp_isWithin : MethodName := ⟨"TentMiddle$Camp", "isWithin", "(III)Z"⟩
def y_Camp_snorersNear : MethodName := ⟨"TentMiddle$Camp", "snorersNear", "(I)I"⟩
def y_Camp_givenAway : MethodName := ⟨"TentMiddle$Camp", "givenAway", "(I)I"⟩
def y_Camp_snorers : MethodName := ⟨"TentMiddle$Camp", "snorers", "()I"⟩
def y_Integer_bitCount : MethodName := ⟨"java/lang/Integer", "bitCount", "(I)I"⟩
def y_Tent_vent : MethodName := ⟨"TentMiddle", "vent", "(I)I"⟩
def y_Tent_bottle : MethodName := ⟨"TentMiddle", "bottle", "(I)I"⟩
def y_Tent_turns : MethodName := ⟨"TentMiddle", "turns", "(I)I"⟩
def y_Tent_change : MethodName := ⟨"TentMiddle", "change", "(II)I"⟩
def y_Tent_swap : MethodName := ⟨"TentMiddle", "swap", "([III)V"⟩
def y_Camp_fillPlaces : MethodName := ⟨"TentMiddle$Camp", "fillPlaces", "()V"⟩
def y_Tent_bags : MethodName := ⟨"TentMiddle", "bags", "(II)I"⟩
def y_Tent_lie : MethodName := ⟨"TentMiddle", "lie", "(I)I"⟩
def y_Tent_refuseRowForPlaces : MethodName := ⟨"TentMiddle", "refuseRowForPlaces", "(I)I"⟩
def y_Tent_refuseRowToFill : MethodName := ⟨"TentMiddle", "refuseRowToFill", "(I)I"⟩
def y_Tent_holdsOrder : MethodName := ⟨"TentMiddle", "holdsOrder", "(I)Z"⟩
def y_Orders_readFrom : MethodName := ⟨"TentMiddle$Orders", "readFrom", "(LTentMiddle$Shelf;II)V"⟩
def y_Camp_layBy : MethodName := ⟨"TentMiddle$Camp", "layBy", "([I)V"⟩
def y_Tent_hour : MethodName := ⟨"TentMiddle", "hour", "()I"⟩
def y_Camp_passHour : MethodName := ⟨"TentMiddle$Camp", "passHour", "()I"⟩
def y_Camp_sleepingOnes : MethodName := ⟨"TentMiddle$Camp", "sleepingOnes", "(I)I"⟩
def y_Camp_reasons : MethodName := ⟨"TentMiddle$Camp", "reasons", "(II)I"⟩
def y_Camp_feeling : MethodName := ⟨"TentMiddle$Camp", "feeling", "(II)I"⟩
def y_Camp_steadyFeeling : MethodName := ⟨"TentMiddle$Camp", "steadyFeeling", "(I)I"⟩
def y_Camp_isAtRim : MethodName := ⟨"TentMiddle$Camp", "isAtRim", "(I)Z"⟩
def y_Camp_hourlyFeeling : MethodName := ⟨"TentMiddle$Camp", "hourlyFeeling", "(II)I"⟩
def y_Camp_hearsAny : MethodName := ⟨"TentMiddle$Camp", "hearsAny", "(I)Z"⟩
def y_Camp_soreHours : MethodName := ⟨"TentMiddle$Camp", "soreHours", "()I"⟩
def y_Camp_wokenHours : MethodName := ⟨"TentMiddle$Camp", "wokenHours", "(I)I"⟩
def y_Camp_remember : MethodName := ⟨"TentMiddle$Camp", "remember", "()V"⟩
def y_Tent_night : MethodName := ⟨"TentMiddle", "night", "()I"⟩
def y_Tent_undo : MethodName := ⟨"TentMiddle", "undo", "(I)I"⟩
def y_Camp_recall : MethodName := ⟨"TentMiddle$Camp", "recall", "(I)V"⟩
def y_Tent_now : MethodName := ⟨"TentMiddle", "now", "()I"⟩
def y_Tent_keep : MethodName := ⟨"TentMiddle", "keep", "(I)I"⟩
def y_Tent_on : MethodName := ⟨"TentMiddle", "on", "(I)I"⟩
def y_Tent_isKept : MethodName := ⟨"TentMiddle", "isKept", "(I)Z"⟩
def y_Tent_feels : MethodName := ⟨"TentMiddle", "feels", "(II)I"⟩
def y_Tent_isHour : MethodName := ⟨"TentMiddle", "isHour", "(I)Z"⟩
def y_Tent_why : MethodName := ⟨"TentMiddle", "why", "(II)I"⟩
def y_Tent_sleeps : MethodName := ⟨"TentMiddle", "sleeps", "(I)I"⟩
def y_Camp_coldOnes : MethodName := ⟨"TentMiddle$Camp", "coldOnes", "(I)I"⟩
def y_Tent_slept : MethodName := ⟨"TentMiddle", "slept", "(I)I"⟩
def y_Camp_hoursSlept : MethodName := ⟨"TentMiddle$Camp", "hoursSlept", "(I)I"⟩
def y_Camp_calmHours : MethodName := ⟨"TentMiddle$Camp", "calmHours", "(I)I"⟩
def y_Tent_coldest : MethodName := ⟨"TentMiddle", "coldest", "()I"⟩
def y_Tent_good : MethodName := ⟨"TentMiddle", "good", "(I)I"⟩
def y_Camp_sleptByOthers : MethodName := ⟨"TentMiddle$Camp", "sleptByOthers", "(I)I"⟩
def y_Camp_sleptByAll : MethodName := ⟨"TentMiddle$Camp", "sleptByAll", "()I"⟩
def y_Tent_worth : MethodName := ⟨"TentMiddle", "worth", "()I"⟩
def y_Camp_leastSlept : MethodName := ⟨"TentMiddle$Camp", "leastSlept", "()I"⟩
def y_Tent_best : MethodName := ⟨"TentMiddle", "best", "(I)I"⟩
def y_Tent_seekOrder : MethodName := ⟨"TentMiddle", "seekOrder", "(II)I"⟩
def y_Orders_begin : MethodName := ⟨"TentMiddle$Orders", "begin", "(I)V"⟩
def y_Camp_takeBags : MethodName := ⟨"TentMiddle$Camp", "takeBags", "(LTentMiddle$Camp;[I)V"⟩
def y_Orders_advance : MethodName := ⟨"TentMiddle$Orders", "advance", "()Z"⟩
def y_Orders_goTo : MethodName := ⟨"TentMiddle$Orders", "goTo", "(II)V"⟩
def y_Orders_howMany : MethodName := ⟨"TentMiddle$Orders", "howMany", "(I)I"⟩
def y_Orders_pick : MethodName := ⟨"TentMiddle$Orders", "pick", "(II)I"⟩
def y_Orders_writeTo : MethodName := ⟨"TentMiddle$Orders", "writeTo", "(LTentMiddle$Shelf;I)V"⟩
def y_Tent_fair : MethodName := ⟨"TentMiddle", "fair", "(I)I"⟩
def y_Tent_turning : MethodName := ⟨"TentMiddle", "turning", "()I"⟩
def y_Camp_noteCalm : MethodName := ⟨"TentMiddle$Camp", "noteCalm", "()V"⟩
def y_Camp_sleptOfCalm : MethodName := ⟨"TentMiddle$Camp", "sleptOfCalm", "()I"⟩
def y_Tent_warm : MethodName := ⟨"TentMiddle", "warm", "()I"⟩
def y_Tent_thin : MethodName := ⟨"TentMiddle", "thin", "(I)I"⟩
def y_Tent_nights : MethodName := ⟨"TentMiddle", "nights", "(II)I"⟩
def y_Plan_begin : MethodName := ⟨"TentMiddle$Plan", "begin", "(I)V"⟩
def y_Plan_offer : MethodName := ⟨"TentMiddle$Plan", "offer", "(ILTentMiddle$Camp;)V"⟩
def y_Math_max : MethodName := ⟨"java/lang/Math", "max", "(II)I"⟩
def y_Plan_isNeedless : MethodName := ⟨"TentMiddle$Plan", "isNeedless", "()Z"⟩
def y_Plan_choose : MethodName := ⟨"TentMiddle$Plan", "choose", "(I)I"⟩
def y_Plan_chooseFrom : MethodName := ⟨"TentMiddle$Plan", "chooseFrom", "(III)V"⟩
def y_Plan_bound : MethodName := ⟨"TentMiddle$Plan", "bound", "(II)I"⟩
def y_Plan_writeTo : MethodName := ⟨"TentMiddle$Plan", "writeTo", "(LTentMiddle$Shelf;II)V"⟩
def y_Tent_nth : MethodName := ⟨"TentMiddle", "nth", "(II)I"⟩
def y_Tent_out : MethodName := ⟨"TentMiddle", "out", "(I)I"⟩
def y_Tent_whose : MethodName := ⟨"TentMiddle", "whose", "(I)I"⟩
def y_Tent_suspects : MethodName := ⟨"TentMiddle", "suspects", "(II)I"⟩
def y_Tent_fitsWhatWasHeard : MethodName := ⟨"TentMiddle", "fitsWhatWasHeard", "(III)Z"⟩
def y_Tent_kinds : MethodName := ⟨"TentMiddle", "kinds", "(II)I"⟩
def y_Tent_odds : MethodName := ⟨"TentMiddle", "odds", "(III)I"⟩
def y_Tent_tellPower : MethodName := ⟨"TentMiddle", "tellPower", "(II)V"⟩
def y_Camp_mustStayIn : MethodName := ⟨"TentMiddle$Camp", "mustStayIn", "(I)I"⟩
def y_Tent_lots : MethodName := ⟨"TentMiddle", "lots", "(I)I"⟩
def y_Orders_draw : MethodName := ⟨"TentMiddle$Orders", "draw", "(II)V"⟩
def y_Tent_asked : MethodName := ⟨"TentMiddle", "asked", "()I"⟩
def y_Tent_upper : MethodName := ⟨"TentMiddle", "upper", "()J"⟩
def y_Tent_lower : MethodName := ⟨"TentMiddle", "lower", "()J"⟩
def y_Tent_count : MethodName := ⟨"TentMiddle", "count", "(I)I"⟩
def y_Shelf_howManyThere : MethodName := ⟨"TentMiddle$Shelf", "howManyThere", "()I"⟩
def y_Tent_keptTents : MethodName := ⟨"TentMiddle", "keptTents", "()I"⟩
def y_Tent_finding : MethodName := ⟨"TentMiddle", "finding", "()I"⟩
def y_Tent_findings : MethodName := ⟨"TentMiddle", "findings", "(I)I"⟩
def y_Tent_digest : MethodName := ⟨"TentMiddle", "digest", "()J"⟩
def y_Shelf_digestOn : MethodName := ⟨"TentMiddle$Shelf", "digestOn", "(J)J"⟩
def y_Mod_init : MethodName := ⟨"TentMiddleModel", "<init>", "()V"⟩
def y_Mod_row : MethodName := ⟨"TentMiddleModel", "row", "(II)I"⟩
def y_Mod_isRow : MethodName := ⟨"TentMiddleModel", "isRow", "(I)Z"⟩
def y_Mod_in : MethodName := ⟨"TentMiddleModel", "in", "(JJJ)Z"⟩
def y_Mod_find : MethodName := ⟨"TentMiddleModel", "find", "(I)I"⟩
def y_Mod_makeRow : MethodName := ⟨"TentMiddleModel", "makeRow", "(II)V"⟩
def y_Mod_lay : MethodName := ⟨"TentMiddleModel", "lay", "(III)I"⟩
def y_Mod_refused : MethodName := ⟨"TentMiddleModel", "refused", "(II)I"⟩
def y_Mod_tell : MethodName := ⟨"TentMiddleModel", "tell", "(I)I"⟩
def y_Mod_at : MethodName := ⟨"TentMiddleModel", "at", "(II)I"⟩
def y_Mod_tear : MethodName := ⟨"TentMiddleModel", "tear", "(I)I"⟩
def y_Mod_copy : MethodName := ⟨"TentMiddleModel", "copy", "(IIIII)I"⟩
def y_Mod_isSpan : MethodName := ⟨"TentMiddleModel", "isSpan", "(III)Z"⟩
def y_Mod_mean : MethodName := ⟨"TentMiddleModel", "mean", "(I)I"⟩
def y_Mod_text : MethodName := ⟨"TentMiddleModel", "text", "(II)I"⟩
def y_Mod_isText : MethodName := ⟨"TentMiddleModel", "isText", "(I)Z"⟩
def y_Mod_put : MethodName := ⟨"TentMiddleModel", "put", "(III)I"⟩
def y_Mod_fault : MethodName := ⟨"TentMiddleModel", "fault", "(I)I"⟩
def y_Mod_faultOf : MethodName := ⟨"TentMiddleModel", "faultOf", "(I)I"⟩
def y_Mod_readsCold : MethodName := ⟨"TentMiddleModel", "readsCold", "()Z"⟩
def y_Mod_skip : MethodName := ⟨"TentMiddleModel", "skip", "()V"⟩
def y_Mod_here : MethodName := ⟨"TentMiddleModel", "here", "()I"⟩
def y_Mod_figure : MethodName := ⟨"TentMiddleModel", "figure", "(I)I"⟩
def y_Mod_readsSleeper : MethodName := ⟨"TentMiddleModel", "readsSleeper", "()Z"⟩
def y_Mod_kindHere : MethodName := ⟨"TentMiddleModel", "kindHere", "()I"⟩
def y_Mod_tent : MethodName := ⟨"TentMiddleModel", "tent", "(I)I"⟩
def y_Mod_sleeper : MethodName := ⟨"TentMiddleModel", "sleeper", "(II)I"⟩
def y_Mod_isSleeper : MethodName := ⟨"TentMiddleModel", "isSleeper", "(I)Z"⟩
def y_Mod_toldOf : MethodName := ⟨"TentMiddleModel", "toldOf", "(II)I"⟩
def y_Mod_layNow : MethodName := ⟨"TentMiddleModel", "layNow", "()V"⟩
def y_Mod_givesOf : MethodName := ⟨"TentMiddleModel", "givesOf", "(I)I"⟩
def y_Mod_kindOf : MethodName := ⟨"TentMiddleModel", "kindOf", "(I)I"⟩
def y_Mod_placeOf : MethodName := ⟨"TentMiddleModel", "placeOf", "(I)I"⟩
def y_Mod_mark : MethodName := ⟨"TentMiddleModel", "mark", "(II)I"⟩
def y_Mod_isOf : MethodName := ⟨"TentMiddleModel", "isOf", "(II)Z"⟩
def y_Mod_heardBy : MethodName := ⟨"TentMiddleModel", "heardBy", "(I)I"⟩
def y_Mod_hearsNone : MethodName := ⟨"TentMiddleModel", "hearsNone", "(I)Z"⟩
def y_Mod_reaches : MethodName := ⟨"TentMiddleModel", "reaches", "(II)Z"⟩
def y_Mod_isSnoring : MethodName := ⟨"TentMiddleModel", "isSnoring", "(I)Z"⟩
def y_Mod_snorersNear : MethodName := ⟨"TentMiddleModel", "snorersNear", "(I)I"⟩
def y_Mod_beside : MethodName := ⟨"TentMiddleModel", "beside", "(I)I"⟩
def y_Mod_snorers : MethodName := ⟨"TentMiddleModel", "snorers", "()I"⟩
def y_Mod_bits : MethodName := ⟨"TentMiddleModel", "bits", "(I)I"⟩
def y_Mod_vent : MethodName := ⟨"TentMiddleModel", "vent", "(I)I"⟩
def y_Mod_bottle : MethodName := ⟨"TentMiddleModel", "bottle", "(I)I"⟩
def y_Mod_turns : MethodName := ⟨"TentMiddleModel", "turns", "(I)I"⟩
def y_Mod_change : MethodName := ⟨"TentMiddleModel", "change", "(II)I"⟩
def y_Mod_swap : MethodName := ⟨"TentMiddleModel", "swap", "(II)V"⟩
def y_Mod_bags : MethodName := ⟨"TentMiddleModel", "bags", "(II)I"⟩
def y_Mod_lie : MethodName := ⟨"TentMiddleModel", "lie", "(I)I"⟩
def y_Mod_isOrder : MethodName := ⟨"TentMiddleModel", "isOrder", "(I)Z"⟩
def y_Mod_hour : MethodName := ⟨"TentMiddleModel", "hour", "()I"⟩
def y_Mod_sleepsIn : MethodName := ⟨"TentMiddleModel", "sleepsIn", "(I)I"⟩
def y_Mod_whyNot : MethodName := ⟨"TentMiddleModel", "whyNot", "(II)I"⟩
def y_Mod_feelsIn : MethodName := ⟨"TentMiddleModel", "feelsIn", "(II)I"⟩
def y_Mod_isRim : MethodName := ⟨"TentMiddleModel", "isRim", "(I)Z"⟩
def y_Mod_hears : MethodName := ⟨"TentMiddleModel", "hears", "(I)Z"⟩
def y_Mod_isSore : MethodName := ⟨"TentMiddleModel", "isSore", "(I)Z"⟩
def y_Mod_has : MethodName := ⟨"TentMiddleModel", "has", "(II)Z"⟩
def y_Mod_night : MethodName := ⟨"TentMiddleModel", "night", "()I"⟩
def y_Mod_undo : MethodName := ⟨"TentMiddleModel", "undo", "(I)I"⟩
def y_Mod_now : MethodName := ⟨"TentMiddleModel", "now", "()I"⟩
def y_Mod_keep : MethodName := ⟨"TentMiddleModel", "keep", "(I)I"⟩
def y_Mod_copyTent : MethodName := ⟨"TentMiddleModel", "copyTent", "(II)V"⟩
def y_Mod_on : MethodName := ⟨"TentMiddleModel", "on", "(I)I"⟩
def y_Mod_feels : MethodName := ⟨"TentMiddleModel", "feels", "(II)I"⟩
def y_Mod_isHour : MethodName := ⟨"TentMiddleModel", "isHour", "(I)Z"⟩
def y_Mod_why : MethodName := ⟨"TentMiddleModel", "why", "(II)I"⟩
def y_Mod_sleeps : MethodName := ⟨"TentMiddleModel", "sleeps", "(I)I"⟩
def y_Mod_slept : MethodName := ⟨"TentMiddleModel", "slept", "(I)I"⟩
def y_Mod_sleptBy : MethodName := ⟨"TentMiddleModel", "sleptBy", "(I)I"⟩
def y_Mod_coldest : MethodName := ⟨"TentMiddleModel", "coldest", "()I"⟩
def y_Mod_good : MethodName := ⟨"TentMiddleModel", "good", "(I)I"⟩
def y_Mod_worthNow : MethodName := ⟨"TentMiddleModel", "worthNow", "()I"⟩
def y_Mod_worth : MethodName := ⟨"TentMiddleModel", "worth", "()I"⟩
def y_Mod_leastNow : MethodName := ⟨"TentMiddleModel", "leastNow", "()I"⟩
def y_Mod_best : MethodName := ⟨"TentMiddleModel", "best", "(I)I"⟩
def y_Mod_toBest : MethodName := ⟨"TentMiddleModel", "toBest", "(IZ)I"⟩
def y_Mod_orderMany : MethodName := ⟨"TentMiddleModel", "orderMany", "()I"⟩
def y_Mod_lieBy : MethodName := ⟨"TentMiddleModel", "lieBy", "(I)V"⟩
def y_Mod_layOrder : MethodName := ⟨"TentMiddleModel", "layOrder", "(I)V"⟩
def y_Mod_orderTo : MethodName := ⟨"TentMiddleModel", "orderTo", "(II)V"⟩
def y_Mod_fair : MethodName := ⟨"TentMiddleModel", "fair", "(I)I"⟩
def y_Mod_turning : MethodName := ⟨"TentMiddleModel", "turning", "()I"⟩
def y_Mod_warm : MethodName := ⟨"TentMiddleModel", "warm", "()I"⟩
def y_Mod_thin : MethodName := ⟨"TentMiddleModel", "thin", "(I)I"⟩
def y_Mod_nights : MethodName := ⟨"TentMiddleModel", "nights", "(II)I"⟩
def y_Mod_leastIn : MethodName := ⟨"TentMiddleModel", "leastIn", "(III)I"⟩
def y_Mod_nth : MethodName := ⟨"TentMiddleModel", "nth", "(II)I"⟩
def y_Mod_out : MethodName := ⟨"TentMiddleModel", "out", "(I)I"⟩
def y_Mod_whose : MethodName := ⟨"TentMiddleModel", "whose", "(I)I"⟩
def y_Mod_areHeard : MethodName := ⟨"TentMiddleModel", "areHeard", "(I)Z"⟩
def y_Mod_fits : MethodName := ⟨"TentMiddleModel", "fits", "(III)Z"⟩
def y_Mod_kinds : MethodName := ⟨"TentMiddleModel", "kinds", "(II)I"⟩
def y_Mod_odds : MethodName := ⟨"TentMiddleModel", "odds", "(III)I"⟩
def y_Mod_divisor : MethodName := ⟨"TentMiddleModel", "divisor", "(JJ)J"⟩
def y_Mod_lots : MethodName := ⟨"TentMiddleModel", "lots", "(I)I"⟩
def y_Mod_asked : MethodName := ⟨"TentMiddleModel", "asked", "()I"⟩
def y_Mod_upper : MethodName := ⟨"TentMiddleModel", "upper", "()J"⟩
def y_Mod_lower : MethodName := ⟨"TentMiddleModel", "lower", "()J"⟩
def y_Mod_count : MethodName := ⟨"TentMiddleModel", "count", "(I)I"⟩
def y_Mod_countOf : MethodName := ⟨"TentMiddleModel", "countOf", "(I)I"⟩
def y_Mod_thereOf : MethodName := ⟨"TentMiddleModel", "thereOf", "(I)I"⟩
def y_Mod_finding : MethodName := ⟨"TentMiddleModel", "finding", "()I"⟩
def y_Mod_findings : MethodName := ⟨"TentMiddleModel", "findings", "(I)I"⟩
def y_Mod_digest : MethodName := ⟨"TentMiddleModel", "digest", "()J"⟩
end
section
-- THE MINI MACHINE: values, the fixed world of both sides, pure instructions
abbrev CI : Type := (Nat × Nat) ⊕ (Nat × Nat)
abbrev MV : Type := Int32 ⊕ (Int64 ⊕ CI)
abbrev mI (x : Int32) : MV := Sum.inl x
abbrev mL (x : Int64) : MV := Sum.inr (Sum.inl x)
abbrev mR (g t : Nat) : MV := Sum.inr (Sum.inr (Sum.inl (g, t)))
abbrev mA (g t : Nat) : MV := Sum.inr (Sum.inr (Sum.inr (g, t)))
abbrev St : Type := (Nat → Nat → Nat → Int32) × (Nat → Nat → Nat → Int64)
def cv (ad : CI → Nat) (v : MV) : Value := match v with
  | .inl x => .int x
  | .inr (.inl x) => .long x
  | .inr (.inr r) => .ref (ad r)
/-- an object's number in mcl, and its fields' kinds: 0 int, 1 long, 2 an object, 3 an array -/
def objOf (g : Nat) : Option (Nat × List Nat) :=
  bif Nat.beq g 0 then some (5, [2, 2, 2, 2, 2, 2, 2, 2, 3, 0, 0, 1, 1]) else
  bif Nat.beq g 1 then some (4, [0, 3, 3]) else
  bif Nat.beq g 4 then some (0, [3, 3, 3, 3, 3, 3, 3, 3, 3, 3, 0, 0, 0, 0, 0, 0, 0]) else
  bif Nat.beq g 16 then some (3, [2, 3, 0, 0]) else
  bif Nat.beq g 18 then some (1, [3, 0]) else
  bif Nat.beq g 20 then some (2, [3, 3, 3, 3, 3, 3, 0, 0, 0]) else
  bif Nat.beq g 30 then some (6, [3, 0, 3, 3, 3, 3, 3, 3, 3, 0, 1, 1, 0, 3, 0, 0, 0, 3, 3, 0, 3, 3, 0, 0, 0, 0, 0, 3, 3]) else none
/-- what a field that is a reference holds; 15: the row of kept tents -/
def rfv (g t j : Nat) : CI :=
  bif Nat.beq g 4 then .inr (5 + j, t) else
  bif Nat.beq g 1 then .inr (1 + j, t) else
  bif Nat.beq g 15 then .inl (4, 1 + j) else
  bif Nat.beq g 0 then ([.inl (1, 0), .inl (1, 1), .inl (4, 0), .inl (15, 0), .inl (4, 4), .inl (16, 0), .inl (18, 0), .inl (20, 0)] : List CI).getD j (.inr (27, 0)) else
  bif Nat.beq g 16 then (bif Nat.beq j 0 then .inl (4, 5) else .inr (17, 0)) else
  bif Nat.beq g 18 then .inr (19, 0) else
  bif Nat.beq g 20 then .inr (21 + j, 0) else
  .inr (([31, 0, 32, 33, 34, 35, 36, 37, 38, 0, 0, 0, 0, 39, 0, 0, 0, 40, 41, 0, 42, 43, 0, 0, 0, 0, 0, 44, 45] : List Nat).getD j 0, 0)
def lenTab : List Nat := [0, 0, 0, 240, 0, 8, 5, 5, 5, 5, 5, 5, 5, 5, 0, 0, 0, 60, 0, 5, 0, 120, 600, 5, 20, 3, 3, 6, 0, 0, 0, 4104, 5, 5, 8, 6, 240, 4, 240, 6, 8, 15, 5, 5, 5, 600]
def lenOf (g t : Nat) : Nat :=
  bif Nat.beq g 2 then (bif Nat.beq t 0 then 6 else 4) else
  bif Nat.beq g 14 then (bif Nat.ble t 3 then 1000 else 0) else lenTab.getD g 0
def mcells : List CI :=
  [.inl (0, 0), .inl (1, 0), .inr (2, 0), .inr (3, 0), .inl (1, 1), .inr (2, 1), .inr (3, 1)]
  ++ ([0, 1, 2, 3, 4, 5] : List Nat).flatMap (fun t => [.inl (4, t), .inr (5, t), .inr (6, t), .inr (7, t), .inr (8, t), .inr (9, t), .inr (10, t), .inr (11, t), .inr (12, t), .inr (13, t), .inr (14, t)])
  ++ [.inl (15, 0), .inl (16, 0), .inr (17, 0), .inl (18, 0), .inr (19, 0), .inl (20, 0), .inr (21, 0), .inr (22, 0), .inr (23, 0), .inr (24, 0), .inr (25, 0), .inr (26, 0), .inr (27, 0),
    .inl (30, 0), .inr (31, 0), .inr (32, 0), .inr (33, 0), .inr (34, 0), .inr (35, 0), .inr (36, 0), .inr (37, 0), .inr (38, 0), .inr (39, 0), .inr (40, 0), .inr (41, 0), .inr (42, 0), .inr (43, 0), .inr (44, 0), .inr (45, 0)]
def fvl (ad : CI → Nat) (σ : St) (g t : Nat) (fk : List Nat) (j : Nat) : Value :=
  match fk[j]? with
  | some 0 => .int (σ.1 g t j)
  | some 1 => .long (σ.2 g t j)
  | some _ => .ref (ad (rfv g t j))
  | none => .null
def ent (ad : CI → Nat) (kI kA : ClassId) (σ : St) (r : CI) : va_E := match r with
  | .inr (g, t) => .inl (kI, lenOf g t, .inl (σ.1 g t))
  | .inl (g, t) => match objOf g with
    | some (ci, fk) => .inr (ci, (List.range fk.length).map (fvl ad σ g t fk))
    | none => .inl (kA, 3, .inr (.inr (.inr (.inr (fun j => some (ad (rfv 15 0 j)))))))
def wsO (ad : CI → Nat) (kI kA : ClassId) (σ : St) : va_W := mcells.map (fun r => (ad r, ent ad kI kA σ r))
def unw (r : CI) : Nat × Nat := match r with
  | .inl q => q
  | .inr q => q
def si (σ : St) (g t j : Nat) (v : Int32) : St := (fun a b => if a = g ∧ b = t then upd (σ.1 a b) j v else σ.1 a b, σ.2)
def sl (σ : St) (g t j : Nat) (v : Int64) : St := (σ.1, fun a b => if a = g ∧ b = t then vp_updL (σ.2 a b) j v else σ.2 a b)
def sa (σ : St) (g t : Nat) (f : Nat → Int32) : St := (fun a b => if a = g ∧ b = t then f else σ.1 a b, σ.2)
theorem mcells_nd : (mcells.map unw).Nodup := by decide +kernel
theorem mcells_one {i j : Nat} {r q : CI} (hi : mcells[i]? = some r) (hj : mcells[j]? = some q) (h : unw r = unw q) : i = j := by
  have h1 : (mcells.map unw)[i]? = some (unw r) := by rw [List.getElem?_map, hi]; rfl
  have h2 : (mcells.map unw)[j]? = some (unw q) := by rw [List.getElem?_map, hj]; rfl
  have hl : i < (mcells.map unw).length := (List.getElem?_eq_some_iff.mp h1).1
  exact (List.getElem?_inj hl mcells_nd).mp (by rw [h1, h2, h])
theorem ws_get {ad : CI → Nat} {kI kA : ClassId} {σ : St} {k : Nat} {r : CI} (h : mcells[k]? = some r) : (wsO ad kI kA σ)[k]? = some (ad r, ent ad kI kA σ r) := by
  unfold wsO
  rw [List.getElem?_map, h]; rfl
theorem ws_set {ad : CI → Nat} {kI kA : ClassId} {σ σ' : St} {k : Nat} {r : CI} (h : mcells[k]? = some r) (hne : ∀ q : CI, unw q ≠ unw r → ent ad kI kA σ' q = ent ad kI kA σ q) {x : Nat × va_E} (hx : x = (ad r, ent ad kI kA σ' r)) : (wsO ad kI kA σ).set k x = wsO ad kI kA σ' := by
  subst hx
  apply List.ext_getElem?
  intro i
  unfold wsO
  rw [List.getElem?_set, List.getElem?_map, List.length_map]
  by_cases hi : k = i
  · subst hi
    have hl : k < mcells.length := (List.getElem?_eq_some_iff.mp h).1
    rw [if_pos rfl, if_pos hl, List.getElem?_map, h]; rfl
  · rw [if_neg hi, List.getElem?_map]
    cases hq : mcells[i]? with
    | none => rfl
    | some q =>
      simp only [Option.map_some]
      rw [hne q (fun e => hi (mcells_one h hq e.symm))]
theorem ent_si_ne {ad : CI → Nat} {kI kA : ClassId} {σ : St} {g t j : Nat} {v : Int32} (q : CI) (h : unw q ≠ (g, t)) : ent ad kI kA (si σ g t j v) q = ent ad kI kA σ q := by
  obtain ⟨a, b⟩ | ⟨a, b⟩ := q
  · have hn : ¬ (a = g ∧ b = t) := fun e => h (by rw [e.1, e.2]; rfl)
    have e : ∀ fk, fvl ad (si σ g t j v) a b fk = fvl ad σ a b fk := fun fk => by
      funext i
      simp only [si, fvl, if_neg hn]
    simp only [ent, e]
  · have hn : ¬ (a = g ∧ b = t) := fun e => h (by rw [e.1, e.2]; rfl)
    simp only [ent, si, if_neg hn]
theorem ent_sa_ne {ad : CI → Nat} {kI kA : ClassId} {σ : St} {g t : Nat} {f : Nat → Int32} (q : CI) (h : unw q ≠ (g, t)) : ent ad kI kA (sa σ g t f) q = ent ad kI kA σ q := by
  obtain ⟨a, b⟩ | ⟨a, b⟩ := q
  · have hn : ¬ (a = g ∧ b = t) := fun e => h (by rw [e.1, e.2]; rfl)
    have e : ∀ fk, fvl ad (sa σ g t f) a b fk = fvl ad σ a b fk := fun fk => by
      funext i
      simp only [sa, fvl, if_neg hn]
    simp only [ent, e]
  · have hn : ¬ (a = g ∧ b = t) := fun e => h (by rw [e.1, e.2]; rfl)
    simp only [ent, sa, if_neg hn]
theorem ent_sl_ne {ad : CI → Nat} {kI kA : ClassId} {σ : St} {g t j : Nat} {v : Int64} (q : CI) (h : unw q ≠ (g, t)) : ent ad kI kA (sl σ g t j v) q = ent ad kI kA σ q := by
  obtain ⟨a, b⟩ | ⟨a, b⟩ := q
  · have hn : ¬ (a = g ∧ b = t) := fun e => h (by rw [e.1, e.2]; rfl)
    have e : ∀ fk, fvl ad (sl σ g t j v) a b fk = fvl ad σ a b fk := fun fk => by
      funext i
      simp only [sl, fvl, if_neg hn]
    simp only [ent, e]
  · simp only [ent, sl]
theorem ent_si_arr {ad : CI → Nat} {kI kA : ClassId} {σ : St} {g t j : Nat} {v : Int32} : ent ad kI kA (si σ g t j v) (.inr (g, t)) = .inl (kI, lenOf g t, .inl (upd (σ.1 g t) j v)) := by
  simp only [ent, si, and_self, if_true]
theorem ent_sa_arr {ad : CI → Nat} {kI kA : ClassId} {σ : St} {g t : Nat} {f : Nat → Int32} : ent ad kI kA (sa σ g t f) (.inr (g, t)) = .inl (kI, lenOf g t, .inl f) := by
  simp only [ent, sa, and_self, if_true]
theorem fvl_range {ad : CI → Nat} {σ : St} {g t : Nat} {fk : List Nat} {j : Nat} (hj : j < fk.length) : ((List.range fk.length).map (fvl ad σ g t fk))[j]? = some (fvl ad σ g t fk j) := by
  rw [List.getElem?_map, List.getElem?_range hj]; rfl
theorem ent_si_obj {ad : CI → Nat} {kI kA : ClassId} {σ : St} {g t j ci : Nat} {fk : List Nat} {v : Int32} (ho : objOf g = some (ci, fk)) (hk : fk[j]? = some 0) : ent ad kI kA (si σ g t j v) (.inl (g, t)) = .inr (ci, ((List.range fk.length).map (fvl ad σ g t fk)).set j (.int v)) := by
  simp only [ent, ho]
  congr 2
  apply List.ext_getElem?
  intro i
  rw [List.getElem?_set, List.getElem?_map, List.getElem?_map, List.length_map, List.length_range]
  have hl : j < fk.length := (List.getElem?_eq_some_iff.mp hk).1
  by_cases hi : j = i
  · subst hi
    rw [if_pos rfl, if_pos hl, List.getElem?_range hl]
    simp [fvl, hk, si, upd]
  · rw [if_neg hi]
    by_cases hil : i < fk.length
    · rw [List.getElem?_range hil]
      have hij : ¬ i = j := fun e => hi e.symm
      simp only [Option.map_some, fvl, si, and_self, if_true, upd, if_neg hij]
    · rw [List.getElem?_eq_none (by simp; omega)]; rfl
theorem ent_sl_obj {ad : CI → Nat} {kI kA : ClassId} {σ : St} {g t j ci : Nat} {fk : List Nat} {v : Int64} (ho : objOf g = some (ci, fk)) (hk : fk[j]? = some 1) : ent ad kI kA (sl σ g t j v) (.inl (g, t)) = .inr (ci, ((List.range fk.length).map (fvl ad σ g t fk)).set j (.long v)) := by
  simp only [ent, ho]
  congr 2
  apply List.ext_getElem?
  intro i
  rw [List.getElem?_set, List.getElem?_map, List.getElem?_map, List.length_map, List.length_range]
  have hl : j < fk.length := (List.getElem?_eq_some_iff.mp hk).1
  by_cases hi : j = i
  · subst hi
    rw [if_pos rfl, if_pos hl, List.getElem?_range hl]
    simp [fvl, hk, sl, vp_updL]
  · rw [if_neg hi]
    by_cases hil : i < fk.length
    · rw [List.getElem?_range hil]
      have hij : ¬ i = j := fun e => hi e.symm
      simp only [Option.map_some, fvl, sl, and_self, if_true, vp_updL, if_neg hij]
    · rw [List.getElem?_eq_none (by simp; omega)]; rfl
def eqC (q r : CI) : Bool := match q, r with
  | .inl a, .inl b => Nat.beq a.1 b.1 && Nat.beq a.2 b.2
  | .inr a, .inr b => Nat.beq a.1 b.1 && Nat.beq a.2 b.2
  | _, _ => false
theorem eqC_eq {q r : CI} (h : eqC q r = true) : q = r := by
  obtain ⟨a, b⟩ | ⟨a, b⟩ := q <;> obtain ⟨c, d⟩ | ⟨c, d⟩ := r
  · have := Bool.and_eq_true_iff.mp h
    rw [show a = c from Nat.eq_of_beq_eq_true this.1, show b = d from Nat.eq_of_beq_eq_true this.2]
  · cases h
  · cases h
  · have := Bool.and_eq_true_iff.mp h
    rw [show a = c from Nat.eq_of_beq_eq_true this.1, show b = d from Nat.eq_of_beq_eq_true this.2]
def inM (r : CI) : Bool := mcells.any (fun q => eqC q r)
theorem inM_mem {r : CI} (h : inM r = true) : r ∈ mcells := by
  obtain ⟨q, h1, h2⟩ := List.any_eq_true.mp h
  rw [← eqC_eq h2]; exact h1
/-- references lead to cells of the world -/
def rfOkB (r : CI) : Bool := match r with
  | .inr _ => true
  | .inl (g, t) => match objOf g with
    | some (_, fk) => (List.range fk.length).all (fun j => match fk[j]? with
      | some 0 => true
      | some 1 => true
      | some 2 => (match rfv g t j with
        | .inl _ => true
        | .inr _ => false) && inM (rfv g t j)
      | some _ => (match rfv g t j with
        | .inl _ => false
        | .inr _ => true) && inM (rfv g t j)
      | none => true)
    | none => Nat.beq g 15 && Nat.beq t 0
theorem rfOk : mcells.all rfOkB = true := by decide +kernel
theorem rfv_ok {g t j ci : Nat} {fk : List Nat} (h : (.inl (g, t) : CI) ∈ mcells) (ho : objOf g = some (ci, fk)) {x : Nat} (hk : fk[j]? = some x) (h0 : x ≠ 0) (h1 : x ≠ 1) : rfv g t j ∈ mcells := by
  have a := List.all_eq_true.mp rfOk _ h
  simp only [rfOkB, ho] at a
  have hl : j < fk.length := (List.getElem?_eq_some_iff.mp hk).1
  have b := List.all_eq_true.mp a j (List.mem_range.mpr hl)
  rw [hk] at b
  match x, h0, h1, b with
  | 2, _, _, b => exact inM_mem (Bool.and_eq_true_iff.mp b).2
  | (n + 3), _, _, b => exact inM_mem (Bool.and_eq_true_iff.mp b).2
theorem kept_ok : ∀ j, j < 3 → (rfv 15 0 j) ∈ mcells := fun j hj => inM_mem ((show ∀ j, j < 3 → inM (rfv 15 0 j) = true by decide +kernel) j hj)
theorem obj_none {g t : Nat} (h : (.inl (g, t) : CI) ∈ mcells) (ho : objOf g = none) : g = 15 ∧ t = 0 := by
  have a := List.all_eq_true.mp rfOk _ h
  simp only [rfOkB, ho] at a
  have b := Bool.and_eq_true_iff.mp a
  exact ⟨Nat.eq_of_beq_eq_true b.1, Nat.eq_of_beq_eq_true b.2⟩
end
section
-- locals and pure instructions
def lgt : List (Option MV) → Nat → Option MV
  | [], _ => none
  | x :: _, 0 => x
  | _ :: L, i + 1 => lgt L i
def lst : List (Option MV) → Nat → Option MV → List (Option MV)
  | [], _, _ => []
  | _ :: L, 0, v => v :: L
  | x :: L, i + 1, v => x :: lst L i v
def isLg (v : Option MV) : Bool := match v with
  | some (.inr (.inl _)) => true
  | _ => false
def nlg (L : List (Option MV)) (i : Nat) : Bool := match i with
  | 0 => true
  | k + 1 => !isLg (lgt L k)
theorem lst_len : ∀ (L : List (Option MV)) (i : Nat) (v : Option MV), (lst L i v).length = L.length
  | [], _, _ => rfl
  | _ :: _, 0, _ => rfl
  | _ :: L, i + 1, v => by simp [lst, lst_len L i v]
theorem lgt_lst_ne : ∀ (L : List (Option MV)) (i j : Nat) (v : Option MV), i ≠ j → lgt (lst L i v) j = lgt L j
  | [], _, _, _, _ => rfl
  | _ :: _, 0, 0, _, h => absurd rfl h
  | _ :: _, 0, _ + 1, _, _ => rfl
  | _ :: _, _ + 1, 0, _, _ => rfl
  | _ :: L, i + 1, j + 1, v, h => lgt_lst_ne L i j v (fun e => h (by rw [e]))
theorem lgt_lst_eq : ∀ (L : List (Option MV)) (i : Nat) (v w : Option MV), lgt (lst L i v) i = some w → lgt (lst L i v) i = v
  | [], _, _, _, h => by cases h
  | _ :: _, 0, _, _, _ => rfl
  | _ :: L, i + 1, v, w, h => lgt_lst_eq L i v w h
theorem lgt_lst_some : ∀ (L : List (Option MV)) (i : Nat) (v : Option MV) (u : MV), lgt (lst L i v) i = some u → v = some u
  | [], _, _, _, h => by cases h
  | _ :: _, 0, _, _, h => h
  | _ :: L, i + 1, v, u, h => lgt_lst_some L i v u h
/-- the known locals, by their places -/
def cLf (ad : CI → Nat) : Nat → List (Option MV) → List (Nat × Value)
  | _, [] => []
  | i, none :: L => cLf ad (i + 1) L
  | i, some v :: L => (i, cv ad v) :: cLf ad (i + 1) L
theorem mem_cLf {ad : CI → Nat} : ∀ {L : List (Option MV)} {i : Nat} {q : Nat × Value}, q ∈ cLf ad i L → ∃ j u, lgt L j = some u ∧ q = (i + j, cv ad u)
  | [], _, _, h => by cases h
  | none :: L, i, q, h => by
    obtain ⟨j, u, h1, h2⟩ := mem_cLf (L := L) h
    exact ⟨j + 1, u, h1, by rw [h2]; congr 1; omega⟩
  | some v :: L, i, q, h => by
    rcases List.mem_cons.mp h with h | h
    · exact ⟨0, v, rfl, h⟩
    · obtain ⟨j, u, h1, h2⟩ := mem_cLf (L := L) h
      exact ⟨j + 1, u, h1, by rw [h2]; congr 1; omega⟩
theorem cLf_mem {ad : CI → Nat} : ∀ {L : List (Option MV)} {i j : Nat} {u : MV}, lgt L j = some u → (i + j, cv ad u) ∈ cLf ad i L
  | [], _, _, _, h => by cases h
  | none :: L, i, 0, _, h => by cases h
  | none :: L, i, j + 1, u, h => by
    have := cLf_mem (ad := ad) (L := L) (i := i + 1) (j := j) (u := u) h
    rw [show i + 1 + j = i + (j + 1) by omega] at this
    exact this
  | some v :: L, i, 0, u, h => by
    cases h
    exact List.mem_cons_self
  | some v :: L, i, j + 1, u, h => by
    have := cLf_mem (ad := ad) (L := L) (i := i + 1) (j := j) (u := u) h
    rw [show i + 1 + j = i + (j + 1) by omega] at this
    exact List.mem_cons_of_mem _ this
def cL (ad : CI → Nat) (L : List (Option MV)) : List (Nat × Value) := cLf ad 0 L
theorem cL_at {ad : CI → Nat} {L : List (Option MV)} {ls : Array Slot} {nL j : Nat} {u : MV} (h : lv_has ls nL (cL ad L)) (hj : lgt L j = some u) : ls[j]? = some (.val (cv ad u)) := by
  have := h.2.2 _ (cLf_mem (ad := ad) (i := 0) hj)
  rw [Nat.zero_add] at this
  exact this
theorem cv_cat {ad : CI → Nat} {u : MV} (h : (cv ad u).category = 2) : isLg (some u) = true := by
  obtain x | x | r := u
  · cases h
  · rfl
  · cases h
theorem nlg_at {L : List (Option MV)} {i j : Nat} {u : MV} (h : nlg L i = true) (hj : lgt L j = some u) (e : j + 1 = i) : isLg (some u) = false := by
  subst e
  have h1 : (!isLg (lgt L j)) = true := h
  rw [hj] at h1
  exact by simpa using h1
theorem cL_st1 {ad : CI → Nat} {L : List (Option MV)} {ls' : Array Slot} {nL i : Nat} {u : MV} (hg : nlg L i = true)
    (h : lv_has ls' nL ((i, cv ad u) :: (cL ad L).filter (fun q => !(q.1 == i) && !(q.1 + 1 == i && q.2.category == 2)))) : lv_has ls' nL (cL ad (lst L i (some u))) := by
  refine ⟨h.1, h.2.1, fun q hq => ?_⟩
  obtain ⟨j, w, h1, rfl⟩ := mem_cLf hq
  rw [Nat.zero_add]
  by_cases hj : i = j
  · subst hj
    have := lgt_lst_some _ _ _ _ h1
    cases this
    exact h.2.2 _ List.mem_cons_self
  · rw [lgt_lst_ne _ _ _ _ hj] at h1
    refine h.2.2 _ (List.mem_cons_of_mem _ (List.mem_filter.mpr ⟨?_, ?_⟩))
    · have := cLf_mem (ad := ad) (i := 0) h1
      rw [Nat.zero_add] at this
      exact this
    · by_cases e : j + 1 = i
      · have h3 := nlg_at hg h1 e
        have h4 : ¬ (cv ad w).category = 2 := fun z => by rw [cv_cat z] at h3; cases h3
        simp [Ne.symm hj, h4]
      · simp [Ne.symm hj, e]
theorem cL_st2 {ad : CI → Nat} {L : List (Option MV)} {ls' : Array Slot} {nL i : Nat} {u : MV} (hg : nlg L i = true)
    (h : lv_has ls' nL ((i, cv ad u) :: (cL ad L).filter (fun q => !(q.1 == i) && (!(q.1 == i + 1) && !(q.1 + 1 == i && q.2.category == 2))))) : lv_has ls' nL (cL ad (lst (lst L i (some u)) (i + 1) none)) := by
  refine ⟨h.1, h.2.1, fun q hq => ?_⟩
  obtain ⟨j, w, h1, rfl⟩ := mem_cLf hq
  rw [Nat.zero_add]
  by_cases hj1 : i + 1 = j
  · subst hj1
    have := lgt_lst_some _ _ _ _ h1
    cases this
  · rw [lgt_lst_ne _ _ _ _ hj1] at h1
    by_cases hj : i = j
    · subst hj
      have := lgt_lst_some _ _ _ _ h1
      cases this
      exact h.2.2 _ List.mem_cons_self
    · rw [lgt_lst_ne _ _ _ _ hj] at h1
      refine h.2.2 _ (List.mem_cons_of_mem _ (List.mem_filter.mpr ⟨?_, ?_⟩))
      · have := cLf_mem (ad := ad) (i := 0) h1
        rw [Nat.zero_add] at this
        exact this
      · by_cases e : j + 1 = i
        · have h3 := nlg_at hg h1 e
          have h4 : ¬ (cv ad w).category = 2 := fun z => by rw [cv_cat z] at h3; cases h3
          simp [Ne.symm hj, Ne.symm hj1, h4]
        · simp [Ne.symm hj, Ne.symm hj1, e]
/-- all references are cells of the world -/
def okV (nL : Nat) (L : List (Option MV)) (S : List MV) : Prop := L.length ≤ nL ∧ (∀ (i : Nat) (r : CI), lgt L i = some (.inr (.inr r)) → r ∈ mcells) ∧ ∀ r : CI, (.inr (.inr r) : MV) ∈ S → r ∈ mcells
theorem okV.drop {nL : Nat} {L : List (Option MV)} {v : MV} {S : List MV} (h : okV nL L (v :: S)) : okV nL L S := ⟨h.1, h.2.1, fun r hr => h.2.2 r (List.mem_cons_of_mem _ hr)⟩
theorem okV.pI {nL : Nat} {L : List (Option MV)} {x : Int32} {S : List MV} (h : okV nL L S) : okV nL L (mI x :: S) := ⟨h.1, h.2.1, fun r hr => by
  rcases List.mem_cons.mp hr with e | e
  · cases e
  · exact h.2.2 r e⟩
theorem okV.pL {nL : Nat} {L : List (Option MV)} {x : Int64} {S : List MV} (h : okV nL L S) : okV nL L (mL x :: S) := ⟨h.1, h.2.1, fun r hr => by
  rcases List.mem_cons.mp hr with e | e
  · cases e
  · exact h.2.2 r e⟩
theorem okV.pC {nL : Nat} {L : List (Option MV)} {q : CI} {S : List MV} (h : okV nL L S) (hq : q ∈ mcells) : okV nL L (.inr (.inr q) :: S) := ⟨h.1, h.2.1, fun r hr => by
  rcases List.mem_cons.mp hr with e | e
  · cases e; exact hq
  · exact h.2.2 r e⟩
theorem okV.top {nL : Nat} {L : List (Option MV)} {q : CI} {S : List MV} (h : okV nL L (.inr (.inr q) :: S)) : q ∈ mcells := h.2.2 q List.mem_cons_self
theorem okV.st {nL : Nat} {L : List (Option MV)} {S : List MV} {i : Nat} {v : Option MV} (h : okV nL L S) (hv : ∀ r : CI, v = some (.inr (.inr r)) → r ∈ mcells) : okV nL (lst L i v) S := ⟨by rw [lst_len]; exact h.1, fun j r hj => by
  by_cases e : i = j
  · subst e
    exact hv r (lgt_lst_some _ _ _ _ hj)
  · rw [lgt_lst_ne _ _ _ _ e] at hj
    exact h.2.1 j r hj, h.2.2⟩
def ldI (L : List (Option MV)) (S : List MV) (i : Nat) : Option (List (Option MV) × List MV) := match lgt L i with
  | some (.inl x) => some (L, mI x :: S)
  | _ => none
def ldL (L : List (Option MV)) (S : List MV) (i : Nat) : Option (List (Option MV) × List MV) := match lgt L i with
  | some (.inr (.inl x)) => some (L, mL x :: S)
  | _ => none
def ldA (L : List (Option MV)) (S : List MV) (i : Nat) : Option (List (Option MV) × List MV) := match lgt L i with
  | some (.inr (.inr r)) => some (L, .inr (.inr r) :: S)
  | _ => none
def stI (L : List (Option MV)) (S : List MV) (i : Nat) : Option (List (Option MV) × List MV) := match S with
  | .inl x :: S => bif nlg L i && Nat.blt i L.length then some (lst L i (some (mI x)), S) else none
  | _ => none
def stA (L : List (Option MV)) (S : List MV) (i : Nat) : Option (List (Option MV) × List MV) := match S with
  | .inr (.inr r) :: S => bif nlg L i && Nat.blt i L.length then some (lst L i (some (.inr (.inr r))), S) else none
  | _ => none
def stL (L : List (Option MV)) (S : List MV) (i : Nat) : Option (List (Option MV) × List MV) := match S with
  | .inr (.inl x) :: S => bif nlg L i && Nat.blt (i + 1) L.length then some (lst (lst L i (some (mL x))) (i + 1) none, S) else none
  | _ => none
def op1 (f : Int32 → Int32) (L : List (Option MV)) (S : List MV) : Option (List (Option MV) × List MV) := match S with
  | .inl x :: S => some (L, mI (f x) :: S)
  | _ => none
def op2 (f : Int32 → Int32 → Int32) (L : List (Option MV)) (S : List MV) : Option (List (Option MV) × List MV) := match S with
  | .inl y :: .inl x :: S => some (L, mI (f x y) :: S)
  | _ => none
def ol2 (f : Int64 → Int64 → Int64) (L : List (Option MV)) (S : List MV) : Option (List (Option MV) × List MV) := match S with
  | .inr (.inl y) :: .inr (.inl x) :: S => some (L, mL (f x y) :: S)
  | _ => none
def gfd (a b : Nat) (L : List (Option MV)) (S : List MV) (σ : St) : Option (List (Option MV) × List MV) := match S with
  | .inr (.inr (.inl (g, t))) :: S => match objOf g with
    | some (ci, fk) => bif Nat.beq ci a then (match fk[b]? with
      | some 0 => some (L, mI (σ.1 g t b) :: S)
      | some 1 => some (L, mL (σ.2 g t b) :: S)
      | some _ => some (L, .inr (.inr (rfv g t b)) :: S)
      | none => none) else none
    | none => none
  | _ => none
def stp (ins : Instr) (a b : Nat) (v : Int32) (w : Int64) (L : List (Option MV)) (S : List MV) (σ : St) : Option (List (Option MV) × List MV) :=
  match ins with
  | .iconst _ => some (L, mI v :: S)
  | .bipush _ => some (L, mI v :: S)
  | .sipush _ => some (L, mI v :: S)
  | .ldc _ => some (L, mI v :: S)
  | .ldc_w _ => some (L, mI v :: S)
  | .lconst _ => some (L, mL w :: S)
  | .ldc2_w _ => some (L, mL w :: S)
  | .iload_n n => ldI L S n
  | .iload i => ldI L S i
  | .lload_n n => ldL L S n
  | .lload i => ldL L S i
  | .aload_n n => ldA L S n
  | .aload i => ldA L S i
  | .istore_n n => stI L S n
  | .istore i => stI L S i
  | .lstore_n n => stL L S n
  | .lstore i => stL L S i
  | .astore_n n => stA L S n
  | .astore i => stA L S i
  | .iinc i _ => match lgt L i with
    | some (.inl x) => bif nlg L i && Nat.blt i L.length then some (lst L i (some (mI (x + v))), S) else none
    | _ => none
  | .iadd => op2 (fun x y => x + y) L S
  | .isub => op2 (fun x y => x - y) L S
  | .imul => op2 (fun x y => x * y) L S
  | .iand => op2 (fun x y => x &&& y) L S
  | .ior => op2 (fun x y => x ||| y) L S
  | .ixor => op2 (fun x y => x ^^^ y) L S
  | .ishl => op2 (fun x y => x <<< (y &&& 31)) L S
  | .ishr => op2 (fun x y => x >>> (y &&& 31)) L S
  | .iushr => op2 (fun x y => (x.toUInt32 >>> (y.toUInt32 &&& Int32.toUInt32 31)).toInt32) L S
  | .ineg => op1 (fun x => -x) L S
  | .i2b => op1 (fun x => x.toInt8.toInt32) L S
  | .ladd => ol2 (fun x y => x + y) L S
  | .lmul => ol2 (fun x y => x * y) L S
  | .lcmp => match S with
    | .inr (.inl y) :: .inr (.inl x) :: S => some (L, mI (lg_cmp x y) :: S)
    | _ => none
  | .i2l => match S with
    | .inl x :: S => some (L, mL x.toInt64 :: S)
    | _ => none
  | .l2i => match S with
    | .inr (.inl x) :: S => some (L, mI x.toInt32 :: S)
    | _ => none
  | .dup => match S with
    | .inl x :: S => some (L, mI x :: mI x :: S)
    | .inr (.inr r) :: S => some (L, .inr (.inr r) :: .inr (.inr r) :: S)
    | _ => none
  | .dup2 => match S with
    | .inl x :: .inr (.inr r) :: S => some (L, mI x :: .inr (.inr r) :: mI x :: .inr (.inr r) :: S)
    | _ => none
  | .arraylength => match S with
    | .inr (.inr (.inr (g, t))) :: S => some (L, mI (nI (lenOf g t)) :: S)
    | _ => none
  | .getfield _ => gfd a b L S σ
  | _ => none
end
section
-- pure instructions are sound over the machine
def mty (kI kA : ClassId) : List (ClassId × FieldType) := [(kI, .int), (kA, .object "TentMiddle$Camp")]
def nwF : Cond := .fieldLinkNest "TentMiddle" nwFi "TentMiddle$Shelf" "limit" "I" "TentMiddle"
def nwM : Cond := .methodLinkNest "TentMiddle$Orders" nwMi ⟨"TentMiddle", "swap", "([III)V"⟩ "TentMiddle"
def mNw (U : State) : Prop := va_Nw nwF U ∧ va_Nw nwM U
theorem mNw.same {u U : State} (h : u.vm = U.vm) (hN : mNw u) : mNw U := ⟨hN.1.same rfl h, hN.2.same rfl h⟩
theorem mNw.warm {u U : State} (h : u.WarmedH U.vm) (hN : mNw u) : mNw U := ⟨va_Nw.warmF h hN.1, va_Nw.warmM h hN.2⟩
def Cx (p : Program) (s : State) (m : MethodId) (args : Array Value) (c : Code) (D : va_G) (kI kA : ClassId) (A : Nat → Prop) (own : String) (cc : ByteArray) (nL : Nat) : Prop :=
  p.tables.exec = Jvm.exec ∧ c.code = cc ∧ c.maxLocals = nL ∧ s.vm.findClass own = some m.cls ∧ (∀ w ∈ T1, w.before args s = true) ∧ va_K D mcl (mty kI kA) s ∧ mNw s ∧ ∀ q, s.heap.size ≤ q → A q
def Wm (p : Program) (l : Launch) (e : Env) (R : Room) (s : State) (m : MethodId) (args : Array Value) (below : List Frame) (meth : Method) (c : Code) (nc ns : Nat) (Q : State → Prop) (D : va_G) (kI kA : ClassId) (ad : CI → Nat) (A : Nat → Prop) (nL pc : Nat) (L : List (Option MV)) (S : List MV) (σ : St) : Prop :=
  ∀ (H : Heap) (locs : List Loc) (ls : Array Slot), va_P D mcl (wsO ad kI kA σ) H → va_D A (wsO ad kI kA σ) → va_S A s.heap H locs → lv_has ls nL (cL ad L) → okV nL L S → W p l e R s m args below meth c H locs nc ns Q (F0 m pc ls (S.map (cv ad)))
def lnI : Instr → Nat
  | .bipush _ => 2
  | .sipush _ => 3
  | .ldc _ => 2
  | .ldc_w _ => 3
  | .ldc2_w _ => 3
  | .iload _ => 2
  | .lload _ => 2
  | .aload _ => 2
  | .istore _ => 2
  | .lstore _ => 2
  | .astore _ => 2
  | .iinc _ _ => 3
  | .getfield _ => 3
  | .putfield _ => 3
  | .goto _ => 3
  | .ifCond _ _ => 3
  | .if_icmp _ _ => 3
  | .invokevirtual _ => 3
  | .invokespecial _ => 3
  | .invokestatic _ => 3
  | .new _ => 3
  | .anewarray _ => 3
  | .newarray _ => 2
  | _ => 1
/-- a field's link: an ordinary one, or the one over the nest -/
def fldW (own : String) (i a b : Nat) : Prop := ∃ (C : String) (T : u_T) (N : Nat), mcl[a]? = some (C, T, N) ∧ b < N ∧ (T b).1 = C ∧ (∀ w ∈ u_ws C T N, w ∈ T1) ∧ (Cond.fieldLink own i C (T b).2.1 (T b).2.2.1 ∈ T1 ∨ Cond.fieldLinkNest own i C (T b).2.1 (T b).2.2.1 "TentMiddle" = nwF)
def auxOk (own : String) (ins : Instr) (pc a b : Nat) (v : Int32) (w : Int64) : Prop := match ins with
  | .iconst n => Int32.ofInt n = v
  | .bipush n => (Int8.ofInt n).toInt32 = v
  | .sipush n => (Int16.ofInt n).toInt32 = v
  | .ldc i => Cond.constant own i v ∈ T1
  | .ldc_w i => Cond.constant own i v ∈ T1
  | .lconst n => Int64.ofNat (n : Nat) = w
  | .ldc2_w i => Cond.constantLong own i w ∈ T1
  | .iinc _ n => Int32.ofInt n = v
  | .getfield i => fldW own i a b
  | .putfield i => fldW own i a b
  | .goto off => (pc : Int) + off = (a : Int)
  | .ifCond _ off => (pc : Int) + off = (a : Int)
  | .if_icmp _ off => (pc : Int) + off = (a : Int)
  | _ => True
theorem blt_lt {a b : Nat} (h : Nat.blt a b = true) : a < b := Nat.le_of_ble_eq_true h
theorem ldI_v {L L' : List (Option MV)} {S S' : List MV} {i : Nat} (h : ldI L S i = some (L', S')) : ∃ z, lgt L i = some (mI z) ∧ L' = L ∧ S' = mI z :: S := by
  unfold ldI at h
  match hg : lgt L i, h with
  | some (.inl z), h => cases h; exact ⟨z, rfl, rfl, rfl⟩
  | some (.inr _), h => cases h
  | none, h => cases h
theorem ldL_v {L L' : List (Option MV)} {S S' : List MV} {i : Nat} (h : ldL L S i = some (L', S')) : ∃ z, lgt L i = some (mL z) ∧ L' = L ∧ S' = mL z :: S := by
  unfold ldL at h
  match hg : lgt L i, h with
  | some (.inl z), h => cases h
  | some (.inr (.inl z)), h => cases h; exact ⟨z, rfl, rfl, rfl⟩
  | some (.inr (.inr _)), h => cases h
  | none, h => cases h
theorem ldA_v {L L' : List (Option MV)} {S S' : List MV} {i : Nat} (h : ldA L S i = some (L', S')) : ∃ z, lgt L i = some (.inr (.inr z)) ∧ L' = L ∧ S' = .inr (.inr z) :: S := by
  unfold ldA at h
  match hg : lgt L i, h with
  | some (.inl z), h => cases h
  | some (.inr (.inl z)), h => cases h
  | some (.inr (.inr z)), h => cases h; exact ⟨z, rfl, rfl, rfl⟩
  | none, h => cases h
theorem cnd_v {α : Type} {b : Bool} {u v : α} (h : (bif b then some u else none) = some v) : b = true ∧ u = v := by
  cases b
  · cases h
  · cases h; exact ⟨rfl, rfl⟩
theorem stI_v {L L' : List (Option MV)} {S S' : List MV} {i : Nat} (h : stI L S i = some (L', S')) : ∃ z, S = mI z :: S' ∧ nlg L i = true ∧ i < L.length ∧ L' = lst L i (some (mI z)) := by
  match S, h with
  | [], h => cases h
  | .inr _ :: _, h => cases h
  | .inl z :: S, h =>
    obtain ⟨h1, h2⟩ := cnd_v h
    have h3 := Bool.and_eq_true_iff.mp h1
    cases h2
    exact ⟨z, rfl, h3.1, blt_lt h3.2, rfl⟩
theorem stA_v {L L' : List (Option MV)} {S S' : List MV} {i : Nat} (h : stA L S i = some (L', S')) : ∃ z, S = .inr (.inr z) :: S' ∧ nlg L i = true ∧ i < L.length ∧ L' = lst L i (some (.inr (.inr z))) := by
  match S, h with
  | [], h => cases h
  | .inl _ :: _, h => cases h
  | .inr (.inl _) :: _, h => cases h
  | .inr (.inr z) :: S, h =>
    obtain ⟨h1, h2⟩ := cnd_v h
    have h3 := Bool.and_eq_true_iff.mp h1
    cases h2
    exact ⟨z, rfl, h3.1, blt_lt h3.2, rfl⟩
theorem stL_v {L L' : List (Option MV)} {S S' : List MV} {i : Nat} (h : stL L S i = some (L', S')) : ∃ z, S = mL z :: S' ∧ nlg L i = true ∧ i + 1 < L.length ∧ L' = lst (lst L i (some (mL z))) (i + 1) none := by
  match S, h with
  | [], h => cases h
  | .inl _ :: _, h => cases h
  | .inr (.inr _) :: _, h => cases h
  | .inr (.inl z) :: S, h =>
    obtain ⟨h1, h2⟩ := cnd_v h
    have h3 := Bool.and_eq_true_iff.mp h1
    cases h2
    exact ⟨z, rfl, h3.1, blt_lt h3.2, rfl⟩
theorem op2_v {f : Int32 → Int32 → Int32} {L L' : List (Option MV)} {S S' : List MV} (h : op2 f L S = some (L', S')) : ∃ z y S0, S = mI y :: mI z :: S0 ∧ L' = L ∧ S' = mI (f z y) :: S0 := by
  match S, h with
  | [], h => cases h
  | [.inl _], h => cases h
  | .inl y :: .inl z :: S0, h => cases h; exact ⟨z, y, S0, rfl, rfl, rfl⟩
  | .inl _ :: .inr _ :: _, h => cases h
  | .inr _ :: _, h => cases h
theorem op1_v {f : Int32 → Int32} {L L' : List (Option MV)} {S S' : List MV} (h : op1 f L S = some (L', S')) : ∃ z S0, S = mI z :: S0 ∧ L' = L ∧ S' = mI (f z) :: S0 := by
  match S, h with
  | [], h => cases h
  | .inl z :: S0, h => cases h; exact ⟨z, S0, rfl, rfl, rfl⟩
  | .inr _ :: _, h => cases h
theorem ol2_v {f : Int64 → Int64 → Int64} {L L' : List (Option MV)} {S S' : List MV} (h : ol2 f L S = some (L', S')) : ∃ z y S0, S = mL y :: mL z :: S0 ∧ L' = L ∧ S' = mL (f z y) :: S0 := by
  match S, h with
  | [], h => cases h
  | [.inr (.inl _)], h => cases h
  | .inr (.inl y) :: .inr (.inl z) :: S0, h => cases h; exact ⟨z, y, S0, rfl, rfl, rfl⟩
  | .inr (.inl _) :: .inl _ :: _, h => cases h
  | .inr (.inl _) :: .inr (.inr _) :: _, h => cases h
  | .inl _ :: _, h => cases h
  | .inr (.inr _) :: _, h => cases h
section SOUND
variable {p : Program} {l : Launch} {e : Env} {R : Room} {s : State} {m : MethodId} {args : Array Value} {below : List Frame} {meth : Method} {c : Code} {nc ns : Nat} {Q : State → Prop} {D : va_G} {kI kA : ClassId} {ad : CI → Nat} {A : Nat → Prop} {own : String} {cc : ByteArray} {nL : Nat}
theorem s_get {pc i a b g t ci : Nat} {fk : List Nat} {H : Heap} {locs : List Loc} {ls : Array Slot} {rest : List Value} {σ : St} (C : Cx p s m args c D kI kA A own cc nL) (hd : decode cc pc = .ok (.getfield i, 3)) (ha : fldW own i a b) (hP : va_P D mcl (wsO ad kI kA σ) H) (hr : (.inl (g, t) : CI) ∈ mcells) (ho : objOf g = some (ci, fk)) (hc : ci = a) (hj : b < fk.length)
    (k : W p l e R s m args below meth c H locs nc ns Q (F0 m (pc + 3) ls (fvl ad σ g t fk b :: rest))) : W p l e R s m args below meth c H locs nc ns Q (F0 m pc ls (.ref (ad (.inl (g, t))) :: rest)) := by
  obtain ⟨hx, hb, hml, hown, hts, hK, hN, hA⟩ := C
  subst hc
  obtain ⟨C, T, N, h1, h2, h3, h4, h5⟩ := ha
  obtain ⟨q0, hq⟩ := List.getElem?_of_mem hr
  have hw := ws_get (ad := ad) (kI := kI) (kA := kA) (σ := σ) hq
  simp only [ent, ho] at hw
  rcases h5 with h5 | h5
  · exact va_get hx hb hts h4 hown hK hP q0 hw h1 b h2 (hts _ h5) (fun x hx => by rw [h3] at hx; exact hx) (fvl_range hj) hd k
  · exact va_getN hx hb hts h4 hown hK hP q0 hw h1 b h2 (by rw [h5]; exact va_Nw.use rfl hN.1) (fun x hx => by rw [h3] at hx; exact hx) (fvl_range hj) hd k
theorem st_sound {ins : Instr} {pc n a b : Nat} {v : Int32} {w : Int64} {L L' : List (Option MV)} {S S' : List MV} {σ : St} (C : Cx p s m args c D kI kA A own cc nL) (hd : decode cc pc = .ok (ins, n)) (hn : n = lnI ins) (ha : auxOk own ins pc a b v w) (h : stp ins a b v w L S σ = some (L', S'))
    (k : Wm p l e R s m args below meth c nc ns Q D kI kA ad A nL (pc + n) L' S' σ) : Wm p l e R s m args below meth c nc ns Q D kI kA ad A nL pc L S σ := by
  intro H locs ls hP hD hS hl hV
  have C0 := C
  obtain ⟨hx, hb, hml, hown, hts, hK, hN, hA⟩ := C
  subst hn
  cases ins with
  | iconst n => cases h; exact lv_iconst hx hb hd ha (k H locs ls hP hD hS hl hV.pI)
  | bipush n => cases h; exact lv_bipush hx hb hd ha (k H locs ls hP hD hS hl hV.pI)
  | sipush n => cases h; exact lv_sipush hx hb hd ha (k H locs ls hP hD hS hl hV.pI)
  | ldc i => cases h; exact lv_ldc hx hb hown (hts _ ha) hd (k H locs ls hP hD hS hl hV.pI)
  | ldc_w i => cases h; exact lv_ldcw hx hb hown (hts _ ha) hd (k H locs ls hP hD hS hl hV.pI)
  | lconst n => cases h; exact lv_lconst hx hb hd ha (k H locs ls hP hD hS hl hV.pL)
  | ldc2_w i => cases h; exact lv_ldc2 hx hb hown (hts _ ha) hd (k H locs ls hP hD hS hl hV.pL)
  | iload_n i => obtain ⟨x, h1, rfl, rfl⟩ := ldI_v h; exact lv_iload_n hx hb hd rfl (cL_at hl h1) (k H locs ls hP hD hS hl hV.pI)
  | iload i => obtain ⟨x, h1, rfl, rfl⟩ := ldI_v h; exact lv_iload hx hb hd (cL_at hl h1) (k H locs ls hP hD hS hl hV.pI)
  | lload_n i => obtain ⟨x, h1, rfl, rfl⟩ := ldL_v h; exact lv_lload_n hx hb hd rfl (cL_at hl h1) (k H locs ls hP hD hS hl hV.pL)
  | lload i => obtain ⟨x, h1, rfl, rfl⟩ := ldL_v h; exact lv_lload hx hb hd (cL_at hl h1) (k H locs ls hP hD hS hl hV.pL)
  | aload_n i => obtain ⟨x, h1, rfl, rfl⟩ := ldA_v h; exact lv_aload_n hx hb hd rfl (cL_at hl h1) (k H locs ls hP hD hS hl (hV.pC (hV.2.1 _ _ h1)))
  | aload i => obtain ⟨x, h1, rfl, rfl⟩ := ldA_v h; exact lv_aload hx hb hd (cL_at hl h1) (k H locs ls hP hD hS hl (hV.pC (hV.2.1 _ _ h1)))
  | istore_n i =>
    obtain ⟨x, rfl, h1, h2, rfl⟩ := stI_v h
    exact lv_istore_n hx hb hd rfl hl (Nat.lt_of_lt_of_le h2 hV.1) rfl (fun ls' hl' => k H locs ls' hP hD hS (cL_st1 (u := mI x) h1 hl') (hV.drop.st (fun r q => by cases q)))
  | istore i =>
    obtain ⟨x, rfl, h1, h2, rfl⟩ := stI_v h
    exact lv_istore hx hb hd hl (Nat.lt_of_lt_of_le h2 hV.1) rfl (fun ls' hl' => k H locs ls' hP hD hS (cL_st1 (u := mI x) h1 hl') (hV.drop.st (fun r q => by cases q)))
  | astore_n i =>
    obtain ⟨x, rfl, h1, h2, rfl⟩ := stA_v h
    exact lv_astore_n hx hb hd rfl hl (Nat.lt_of_lt_of_le h2 hV.1) rfl (fun ls' hl' => k H locs ls' hP hD hS (cL_st1 (u := .inr (.inr x)) h1 hl') (hV.drop.st (fun r q => by cases q; exact hV.top)))
  | astore i =>
    obtain ⟨x, rfl, h1, h2, rfl⟩ := stA_v h
    exact lv_astore hx hb hd hl (Nat.lt_of_lt_of_le h2 hV.1) rfl (fun ls' hl' => k H locs ls' hP hD hS (cL_st1 (u := .inr (.inr x)) h1 hl') (hV.drop.st (fun r q => by cases q; exact hV.top)))
  | lstore_n i =>
    obtain ⟨x, rfl, h1, h2, rfl⟩ := stL_v h
    exact lv_lstore_n hx hb hd rfl hl (Nat.lt_of_lt_of_le h2 hV.1) rfl (fun ls' hl' => k H locs ls' hP hD hS (cL_st2 (u := mL x) h1 hl') ((hV.drop.st (fun r q => by cases q)).st (fun r q => by cases q)))
  | lstore i =>
    obtain ⟨x, rfl, h1, h2, rfl⟩ := stL_v h
    exact lv_lstore hx hb hd hl (Nat.lt_of_lt_of_le h2 hV.1) rfl (fun ls' hl' => k H locs ls' hP hD hS (cL_st2 (u := mL x) h1 hl') ((hV.drop.st (fun r q => by cases q)).st (fun r q => by cases q)))
  | iinc i n =>
    simp only [stp] at h
    match hg : lgt L i, h with
    | none, h => cases h
    | some (.inr _), h => cases h
    | some (.inl z), h =>
      obtain ⟨h1, h3⟩ := cnd_v h
      have h2 := Bool.and_eq_true_iff.mp h1
      cases h3
      have hm := cLf_mem (ad := ad) (i := 0) hg
      rw [Nat.zero_add] at hm
      obtain ⟨k0, hk0⟩ := List.getElem?_of_mem hm
      have hv : Int32.ofInt n = v := ha
      exact lv_iinc (v := z + v) hx hb hd hl hk0 (by rw [hv]) (Nat.lt_of_lt_of_le (blt_lt h2.2) hV.1) rfl (fun ls' hl' => k H locs ls' hP hD hS (cL_st1 (u := mI (z + v)) h2.1 hl') (hV.st (fun r q => by cases q)))
  | iadd => obtain ⟨x, y, S0, rfl, rfl, rfl⟩ := op2_v h; exact lv_iadd hx hb hd (k H locs ls hP hD hS hl hV.drop.drop.pI)
  | isub => obtain ⟨x, y, S0, rfl, rfl, rfl⟩ := op2_v h; exact lv_isub hx hb hd (k H locs ls hP hD hS hl hV.drop.drop.pI)
  | imul => obtain ⟨x, y, S0, rfl, rfl, rfl⟩ := op2_v h; exact lv_imul hx hb hd (k H locs ls hP hD hS hl hV.drop.drop.pI)
  | iand => obtain ⟨x, y, S0, rfl, rfl, rfl⟩ := op2_v h; exact lv_iand hx hb hd (k H locs ls hP hD hS hl hV.drop.drop.pI)
  | ior => obtain ⟨x, y, S0, rfl, rfl, rfl⟩ := op2_v h; exact lv_ior hx hb hd (k H locs ls hP hD hS hl hV.drop.drop.pI)
  | ixor => obtain ⟨x, y, S0, rfl, rfl, rfl⟩ := op2_v h; exact lv_ixor hx hb hd (k H locs ls hP hD hS hl hV.drop.drop.pI)
  | ishl => obtain ⟨x, y, S0, rfl, rfl, rfl⟩ := op2_v h; exact lv_ishl hx hb hd (k H locs ls hP hD hS hl hV.drop.drop.pI)
  | ishr => obtain ⟨x, y, S0, rfl, rfl, rfl⟩ := op2_v h; exact lv_ishr hx hb hd (k H locs ls hP hD hS hl hV.drop.drop.pI)
  | iushr => obtain ⟨x, y, S0, rfl, rfl, rfl⟩ := op2_v h; exact lv_iushr hx hb hd rfl (k H locs ls hP hD hS hl hV.drop.drop.pI)
  | ineg => obtain ⟨x, S0, rfl, rfl, rfl⟩ := op1_v h; exact lv_ineg hx hb hd (k H locs ls hP hD hS hl hV.drop.pI)
  | i2b => obtain ⟨x, S0, rfl, rfl, rfl⟩ := op1_v h; exact lv_i2b hx hb hd rfl (k H locs ls hP hD hS hl hV.drop.pI)
  | ladd => obtain ⟨x, y, S0, rfl, rfl, rfl⟩ := ol2_v h; exact lv_ladd hx hb hd (k H locs ls hP hD hS hl hV.drop.drop.pL)
  | lmul => obtain ⟨x, y, S0, rfl, rfl, rfl⟩ := ol2_v h; exact lv_lmul hx hb hd (k H locs ls hP hD hS hl hV.drop.drop.pL)
  | lcmp =>
    match S, h, hV with
    | .inr (.inl y) :: .inr (.inl z) :: S0, h, hV => cases h; exact W.lcmp hx hb hd (k H locs ls hP hD hS hl hV.drop.drop.pI)
    | [], h, hV => cases h
    | .inl _ :: _, h, hV => cases h
    | .inr (.inr _) :: _, h, hV => cases h
    | [.inr (.inl _)], h, hV => cases h
    | .inr (.inl _) :: .inl _ :: _, h, hV => cases h
    | .inr (.inl _) :: .inr (.inr _) :: _, h, hV => cases h
  | i2l =>
    match S, h, hV with
    | .inl z :: S0, h, hV => cases h; exact lv_i2l hx hb hd rfl (k H locs ls hP hD hS hl hV.drop.pL)
    | [], h, hV => cases h
    | .inr _ :: _, h, hV => cases h
  | l2i =>
    match S, h, hV with
    | .inr (.inl z) :: S0, h, hV => cases h; exact lv_l2i hx hb hd rfl (k H locs ls hP hD hS hl hV.drop.pI)
    | [], h, hV => cases h
    | .inl _ :: _, h, hV => cases h
    | .inr (.inr _) :: _, h, hV => cases h
  | dup =>
    match S, h, hV with
    | .inl z :: S0, h, hV => cases h; exact lv_dup hx hb hd rfl (k H locs ls hP hD hS hl hV.pI)
    | .inr (.inr r) :: S0, h, hV => cases h; exact lv_dup hx hb hd rfl (k H locs ls hP hD hS hl (hV.pC hV.top))
    | [], h, hV => cases h
    | .inr (.inl _) :: _, h, hV => cases h
  | dup2 =>
    match S, h, hV with
    | .inl z :: .inr (.inr r) :: S0, h, hV => cases h; exact lv_dup2_11 hx hb hd rfl rfl (k H locs ls hP hD hS hl (hV.pC hV.drop.top).pI)
    | [], h, hV => cases h
    | .inr _ :: _, h, hV => cases h
    | [.inl _], h, hV => cases h
    | .inl _ :: .inl _ :: _, h, hV => cases h
    | .inl _ :: .inr (.inl _) :: _, h, hV => cases h
  | arraylength =>
    match S, h, hV with
    | .inr (.inr (.inr (g, t))) :: S0, h, hV =>
      cases h
      obtain ⟨q0, hq⟩ := List.getElem?_of_mem hV.top
      exact va_alen hx hb hK hP q0 0 (ws_get hq) rfl rfl hd (k H locs ls hP hD hS hl hV.drop.pI)
    | [], h, hV => cases h
    | .inl _ :: _, h, hV => cases h
    | .inr (.inl _) :: _, h, hV => cases h
    | .inr (.inr (.inl _)) :: _, h, hV => cases h
  | getfield i =>
    simp only [stp] at h
    match S, h, hV with
    | [], h, hV => cases h
    | .inl _ :: _, h, hV => cases h
    | .inr (.inl _) :: _, h, hV => cases h
    | .inr (.inr (.inr _)) :: _, h, hV => cases h
    | .inr (.inr (.inl (g, t))) :: S0, h, hV =>
      simp only [gfd] at h
      match ho : objOf g, h with
      | none, h => cases h
      | some (ci, fk), h =>
        dsimp only at h
        have hc : Nat.beq ci a = true := by
          cases hc : Nat.beq ci a with
          | true => rfl
          | false => rw [hc] at h; cases h
        have hca := Nat.eq_of_beq_eq_true hc
        rw [hc, cond_true] at h
        cases hj : fk[b]? with
        | none => rw [hj] at h; cases h
        | some y =>
          have hlt : b < fk.length := (List.getElem?_eq_some_iff.mp hj).1
          refine s_get C0 hd ha hP hV.top ho hca hlt ?_
          rw [hj] at h
          match y, hj, h with
          | 0, hj, h =>
            cases h
            have hf : fvl ad σ g t fk b = .int (σ.1 g t b) := by simp only [fvl, hj]
            rw [hf]
            exact k H locs ls hP hD hS hl hV.drop.pI
          | 1, hj, h =>
            cases h
            have hf : fvl ad σ g t fk b = .long (σ.2 g t b) := by simp only [fvl, hj]
            rw [hf]
            exact k H locs ls hP hD hS hl hV.drop.pL
          | y + 2, hj, h =>
            cases h
            have hf : fvl ad σ g t fk b = .ref (ad (rfv g t b)) := by simp only [fvl, hj]
            rw [hf]
            exact k H locs ls hP hD hS hl (hV.drop.pC (rfv_ok hV.top ho hj (by omega) (by omega)))
  | _ => exact absurd h (fun z => by cases (show (none : Option (List (Option MV) × List MV)) = some (L', S') from z))
end SOUND
end
section
-- programs as tables; runs of pure instructions
abbrev PE : Type := Nat × Nat × Instr × Nat × Nat × Int32 × Int64
def suf : List PE → Nat → List PE
  | [], _ => []
  | q :: r, pc => bif Nat.beq q.1 pc then q :: r else suf r pc
def isGo : Instr → Bool
  | .goto _ => true
  | _ => false
def isTs : Instr → Bool
  | .tableswitch _ _ _ _ => true
  | _ => false
def isEnd : Instr → Bool
  | .tableswitch _ _ _ _ => true
  | .goto _ => true
  | .ifCond _ _ => true
  | .if_icmp _ _ => true
  | .ireturn => true
  | .lreturn => true
  | .return_ => true
  | _ => false
def runP (pm : List PE) (σ : St) : Nat → List PE → List (Option MV) → List MV → Option (Nat × List (Option MV) × List MV)
  | _, [], _, _ => none
  | 0, q :: _, L, S => some (q.1, L, S)
  | k + 1, q :: r, L, S => bif isGo q.2.2.1 then runP pm σ k (suf pm q.2.2.2.1) L S else
    match stp q.2.2.1 q.2.2.2.1 q.2.2.2.2.1 q.2.2.2.2.2.1 q.2.2.2.2.2.2 L S σ with
    | some u => runP pm σ k r u.1 u.2
    | none => none
def insAt (pm : List PE) (pc : Nat) : Option (Nat × Instr × Nat × Nat × Int32 × Int64) := match suf pm pc with
  | q :: _ => some q.2
  | [] => none
/-- what a table must be: decoded, its numbers right, its rows one behind another -/
def Tk (own : String) (cc : ByteArray) (pm : List PE) : Prop :=
  ∀ (q : PE) (r : List PE), (q :: r) <:+ pm → decode cc q.1 = .ok (q.2.2.1, q.2.1) ∧ (isTs q.2.2.1 = false → q.2.1 = lnI q.2.2.1) ∧ auxOk own q.2.2.1 q.1 q.2.2.2.1 q.2.2.2.2.1 q.2.2.2.2.2.1 q.2.2.2.2.2.2 ∧ ∀ (u : PE) (r' : List PE), r = u :: r' → isEnd q.2.2.1 = false → u.1 = q.1 + q.2.1
theorem suf_suf : ∀ (pm : List PE) (pc : Nat), suf pm pc <:+ pm
  | [], _ => List.suffix_refl _
  | q :: r, pc => by
    simp only [suf]
    cases Nat.beq q.1 pc
    · exact (suf_suf r pc).trans (List.suffix_cons q r)
    · exact List.suffix_refl _
theorem suf_head : ∀ (pm : List PE) (pc : Nat) (q : PE) (r : List PE), suf pm pc = q :: r → q.1 = pc
  | [], _, _, _, h => by cases h
  | u :: r, pc, q, r', h => by
    simp only [suf] at h
    cases hb : Nat.beq u.1 pc with
    | true => rw [hb] at h; cases h; exact Nat.eq_of_beq_eq_true hb
    | false => rw [hb] at h; exact suf_head r pc q r' h
theorem suf_tail {q : PE} {r pm : List PE} (h : (q :: r) <:+ pm) : r <:+ pm := (List.suffix_cons q r).trans h
theorem insAt_suf {pm : List PE} {pc : Nat} {z : Nat × Instr × Nat × Nat × Int32 × Int64} (h : insAt pm pc = some z) : ∃ r, ((pc, z) :: r) <:+ pm := by
  unfold insAt at h
  cases hs : suf pm pc with
  | nil => rw [hs] at h; cases h
  | cons q r =>
    rw [hs] at h
    cases h
    have h1 := suf_head pm pc q r hs
    have h2 := suf_suf pm pc
    rw [hs] at h2
    refine ⟨r, ?_⟩
    rw [← h1]
    exact h2
section RUN
variable {p : Program} {l : Launch} {e : Env} {R : Room} {s : State} {m : MethodId} {args : Array Value} {below : List Frame} {meth : Method} {c : Code} {nc ns : Nat} {Q : State → Prop} {D : va_G} {kI kA : ClassId} {ad : CI → Nat} {A : Nat → Prop} {own : String} {cc : ByteArray} {nL : Nat}
theorem run_sound {pm : List PE} {σ : St} {pc' : Nat} {L' : List (Option MV)} {S' : List MV} (C : Cx p s m args c D kI kA A own cc nL) (T : Tk own cc pm) (kk : Wm p l e R s m args below meth c nc ns Q D kI kA ad A nL pc' L' S' σ) :
    ∀ (k : Nat) (rest : List PE) (L : List (Option MV)) (S : List MV), rest <:+ pm → runP pm σ k rest L S = some (pc', L', S') → ∃ q r, rest = q :: r ∧ Wm p l e R s m args below meth c nc ns Q D kI kA ad A nL q.1 L S σ := by
  intro k
  induction k with
  | zero =>
    intro rest L S hs h
    match rest, hs, h with
    | [], hs, h => cases h
    | q :: r, hs, h =>
      simp only [runP] at h
      cases h
      exact ⟨q, r, rfl, kk⟩
  | succ k ih =>
    intro rest L S hs h
    match rest, hs, h with
    | [], hs, h => cases h
    | q :: r, hs, h =>
      refine ⟨q, r, rfl, ?_⟩
      obtain ⟨t1, t2, t3, t4⟩ := T q r hs
      simp only [runP] at h
      cases hg : isGo q.2.2.1 with
      | true =>
        rw [hg, cond_true] at h
        obtain ⟨u, r', h1, h2⟩ := ih (suf pm q.2.2.2.1) L S (suf_suf pm _) h
        have h3 := suf_head _ _ _ _ h1
        obtain ⟨pc, n, ins, a, b, v, w⟩ := q
        cases ins with
        | goto off =>
          intro H locs ls hP hD hS hl hV
          have h4 := t2 rfl
          dsimp only at h4 t1
          rw [h4] at t1
          refine lv_goto C.1 C.2.1 t1 t3 ?_
          have h5 := h2 H locs ls hP hD hS hl hV
          rw [h3] at h5
          exact h5
        | _ => cases hg
      | false =>
        rw [hg, cond_false] at h
        cases hst : stp q.2.2.1 q.2.2.2.1 q.2.2.2.2.1 q.2.2.2.2.2.1 q.2.2.2.2.2.2 L S σ with
        | none => rw [hst] at h; cases h
        | some z =>
          rw [hst] at h
          obtain ⟨u, r', h1, h2⟩ := ih r z.1 z.2 (suf_tail hs) h
          have hen : isEnd q.2.2.1 = false := by
            cases hz : isEnd q.2.2.1 with
            | false => rfl
            | true =>
              obtain ⟨pc, n, ins, a, b, v, w⟩ := q
              cases ins with
              | tableswitch _ _ _ _ => cases hst
              | goto _ => cases hst
              | ifCond _ _ => cases hst
              | if_icmp _ _ => cases hst
              | ireturn => cases hst
              | lreturn => cases hst
              | return_ => cases hst
              | _ => cases hz
          have h3 := t4 u r' h1 hen
          have hts : isTs q.2.2.1 = false := by
            cases hz : isTs q.2.2.1 with
            | false => rfl
            | true =>
              obtain ⟨pc, n, ins, a, b, v, w⟩ := q
              cases ins with
              | tableswitch _ _ _ _ => cases hst
              | _ => cases hz
          refine st_sound C t1 (t2 hts) t3 hst ?_
          rw [← h3]
          exact h2
theorem run_at {pm : List PE} {σ : St} {k pc pc' : Nat} {L L' : List (Option MV)} {S S' : List MV} (C : Cx p s m args c D kI kA A own cc nL) (T : Tk own cc pm) (hr : runP pm σ k (suf pm pc) L S = some (pc', L', S')) (kk : Wm p l e R s m args below meth c nc ns Q D kI kA ad A nL pc' L' S' σ) : Wm p l e R s m args below meth c nc ns Q D kI kA ad A nL pc L S σ := by
  obtain ⟨q, r, h1, h2⟩ := run_sound C T kk k (suf pm pc) L S (suf_suf pm pc) hr
  rw [suf_head _ _ _ _ h1] at h2
  exact h2
end RUN
-- the state's own words in the functions
def inb (i : Int32) (n : Nat) : Bool := decide (0 ≤ i.toInt) && decide (i.toInt < n)
theorem inb_in {i : Int32} {n : Nat} (h : inb i n = true) : vp_in i n := by
  have h1 := Bool.and_eq_true_iff.mp h
  exact vp_in_iff.mpr ⟨of_decide_eq_true h1.1, of_decide_eq_true h1.2⟩
def ald (σ : St) (g t : Nat) (i : Int32) : Option Int32 := if inb i (lenOf g t) = true then some (σ.1 g t i.toNatClampNeg) else none
def ast (σ : St) (g t : Nat) (i v : Int32) : Option St := if inb i (lenOf g t) = true then some (si σ g t i.toNatClampNeg v) else none
def kld (i : Int32) : Option Nat := if inb i 3 = true then some (1 + i.toNatClampNeg) else none
def dvI (a b : Int32) : Option Int32 := if b = 0 then none else some (a / b)
def rmI (a b : Int32) : Option Int32 := if b = 0 then none else some (a - a / b * b)
def dvL (a b : Int64) : Option Int64 := if b = 0 then none else some (a / b)
def rmL (a b : Int64) : Option Int64 := if b = 0 then none else some (a - a / b * b)
def mmin (a b : Int32) : Int32 := if b < a then b else a
def mmax (a b : Int32) : Int32 := if a < b then b else a
def acpOk (n0 n1 : Nat) (sp dp n : Int32) : Bool := !decide (sp < 0) && (!decide (dp < 0) && (!decide (n < 0) && (decide (sp.toNatClampNeg + n.toNatClampNeg ≤ n0) && decide (dp.toNatClampNeg + n.toNatClampNeg ≤ n1))))
def acp (σ : St) (g t : Nat) (sp : Int32) (g' t' : Nat) (dp n : Int32) : Option St := if acpOk (lenOf g t) (lenOf g' t') sp dp n = true then some (sa σ g' t' (va_cpy (σ.1 g t) (σ.1 g' t') sp.toNatClampNeg dp.toNatClampNeg n.toNatClampNeg)) else none
def bs {α : Type} (s : St) (k : St → α) : α := k s
def b2 {α β : Type} (o : Option (α × St)) (k : α → St → Option β) : Option β := match o with
  | some q => k q.1 q.2
  | none => none
theorem bind_v {α β : Type} {o : Option α} {k : α → Option β} {w : β} (h : o.bind k = some w) : ∃ v, o = some v ∧ k v = some w := by
  cases o with
  | none => cases h
  | some v => exact ⟨v, rfl, h⟩
theorem b2_v {α β : Type} {o : Option (α × St)} {k : α → St → Option β} {w : β} (h : b2 o k = some w) : ∃ v s, o = some (v, s) ∧ k v s = some w := by
  cases o with
  | none => cases h
  | some v => exact ⟨v.1, v.2, rfl, h⟩
theorem if_v {α : Type} {b : Bool} {u w : α} (h : (if b = true then some u else none) = some w) : b = true ∧ u = w := by
  cases b
  · cases h
  · cases h; exact ⟨rfl, rfl⟩
theorem ifz_v {α β : Type} {b z : β} {d : Decidable (b = z)} {u w : α} (h : (@ite _ (b = z) d none (some u)) = some w) : ¬ b = z ∧ u = w := by
  by_cases hb : b = z
  · rw [if_pos hb] at h; cases h
  · rw [if_neg hb] at h; cases h; exact ⟨hb, rfl⟩
-- methods and their contracts
abbrev Md : Type := MethodName × ByteArray × Nat × Option FieldType × List PE
def rmD (d : Nat) : Room := { frames := d, cells := 0, slots := 0, locals := 64 * d }
def Qm (D : va_G) (kI kA : ClassId) (ad : CI → Nat) (A : Nat → Prop) (r : Option MV) (σ' : St) : Array Value → State → Outcome → State → Prop := fun _ st oc t =>
  (oc = .returned (r.map (cv ad)) ∧ va_P D mcl (wsO ad kI kA σ') t.heap) ∧ va_F A st t
def J (md : Md) (d pc : Nat) (L : List (Option MV)) (S : List MV) (σ : St) (r : Option MV) (σ' : St) : Prop :=
  ∀ (l : Launch) (p : Program) (e : Env) (s : State) (m : MethodId) (args : Array Value) (below : List Frame) (meth : Method) (c : Code) (D : va_G) (kI kA : ClassId) (ad : CI → Nat) (A : Nat → Prop),
    Cx p s m args c D kI kA A md.1.cls md.2.1 md.2.2.1 → meth.sig.returnType = md.2.2.2.1 → meth.locks = false → Wm p l e (rmD d) s m args below meth c 0 0 (MQ below (Qm D kI kA ad A r σ') args s 0 0 A) D kI kA ad A md.2.2.1 pc L S σ
def Tm (md : Md) : Prop := Tk md.1.cls md.2.1 md.2.2.2.2
section EV
variable {md : Md} {d pc pc1 k : Nat} {L L1 : List (Option MV)} {S S0 : List MV} {σ σ' : St} {r : Option MV} {ρ : Type} {w : ρ}
theorem J.run (T : Tm md) {S1 : List MV} (k : Nat) (hr : runP md.2.2.2.2 σ k (suf md.2.2.2.2 pc) L S = some (pc1, L1, S1)) (kk : J md d pc1 L1 S1 σ r σ') : J md d pc L S σ r σ' :=
  fun l p e s m args below meth c D kI kA ad A C hret hlk => run_at C T hr (kk l p e s m args below meth c D kI kA ad A C hret hlk)
end EV
end
section
-- events: partial instructions, branches, calls, returns
section EV
variable {md : Md} {d pc pc1 : Nat} {L L1 : List (Option MV)} {S S0 : List MV} {σ σ' : St} {r : Option MV} {ρ : Type} {w : ρ} {n a b : Nat} {v0 : Int32} {w0 : Int64}
theorem dec_at (T : Tm md) {ins : Instr} (hi : insAt md.2.2.2.2 pc1 = some (n, ins, a, b, v0, w0)) (hts : isTs ins = false) : decode md.2.1 pc1 = .ok (ins, lnI ins) ∧ auxOk md.1.cls ins pc1 a b v0 w0 := by
  obtain ⟨q, hq⟩ := insAt_suf hi
  obtain ⟨t1, t2, t3, -⟩ := T _ _ hq
  have h := t2 hts
  dsimp only at h t1 t3
  rw [h] at t1
  exact ⟨t1, t3⟩
theorem J.iald (T : Tm md) {g t : Nat} {i : Int32} {kf : Int32 → Option ρ} (k : Nat) (hr : runP md.2.2.2.2 σ k (suf md.2.2.2.2 pc) L S = some (pc1, L1, mI i :: mA g t :: S0)) (hi : insAt md.2.2.2.2 pc1 = some (n, .iaload, a, b, v0, w0)) (hF : (ald σ g t i).bind kf = some w) (kk : ∀ v, kf v = some w → J md d (pc1 + 1) L1 (mI v :: S0) σ r σ') : J md d pc L S σ r σ' := by
  refine J.run T k hr ?_
  obtain ⟨v, h1, h2⟩ := bind_v hF
  obtain ⟨h3, rfl⟩ := if_v h1
  obtain ⟨hd, -⟩ := dec_at T hi rfl
  intro l p e s m args below meth c D kI kA ad A C hret hlk H locs ls hP hD hS hl hV
  obtain ⟨q0, hq⟩ := List.getElem?_of_mem hV.drop.top
  exact va_iald C.1 C.2.1 C.2.2.2.2.2.1 hP q0 0 (ws_get hq) rfl (inb_in h3) hd (kk _ h2 l p e s m args below meth c D kI kA ad A C hret hlk H locs ls hP hD hS hl hV.drop.drop.pI)
theorem J.iast (T : Tm md) {g t : Nat} {i v : Int32} {kf : St → Option ρ} (k : Nat) (hr : runP md.2.2.2.2 σ k (suf md.2.2.2.2 pc) L S = some (pc1, L1, mI v :: mI i :: mA g t :: S0)) (hi : insAt md.2.2.2.2 pc1 = some (n, .iastore, a, b, v0, w0)) (hF : (ast σ g t i v).bind kf = some w) (kk : ∀ σ1, kf σ1 = some w → J md d (pc1 + 1) L1 S0 σ1 r σ') : J md d pc L S σ r σ' := by
  refine J.run T k hr ?_
  obtain ⟨σ1, h1, h2⟩ := bind_v hF
  obtain ⟨h3, rfl⟩ := if_v h1
  obtain ⟨hd, -⟩ := dec_at T hi rfl
  intro l p e s m args below meth c D kI kA ad A C hret hlk H locs ls hP hD hS hl hV
  obtain ⟨q0, hq⟩ := List.getElem?_of_mem hV.drop.drop.top
  have hset : (wsO ad kI kA σ).set q0 (ad (.inr (g, t)), .inl (kI, lenOf g t, .inl (upd (σ.1 g t) i.toNatClampNeg v))) = wsO ad kI kA (si σ g t i.toNatClampNeg v) := ws_set hq (fun q h => ent_si_ne q h) (by rw [ent_si_arr])
  refine va_iast C.1 C.2.1 C.2.2.2.2.2.1 hP hD hS q0 0 (ws_get hq) rfl (inb_in h3) hd (fun H1 locs1 hP hD hS => ?_)
  rw [hset] at hP hD
  exact kk _ h2 l p e s m args below meth c D kI kA ad A C hret hlk H1 locs1 ls hP hD hS hl hV.drop.drop.drop
theorem J.aald (T : Tm md) {i : Int32} {kf : Nat → Option ρ} (k : Nat) (hr : runP md.2.2.2.2 σ k (suf md.2.2.2.2 pc) L S = some (pc1, L1, mI i :: mR 15 0 :: S0)) (hi : insAt md.2.2.2.2 pc1 = some (n, .aaload, a, b, v0, w0)) (hF : (kld i).bind kf = some w) (kk : ∀ t, kf t = some w → J md d (pc1 + 1) L1 (mR 4 t :: S0) σ r σ') : J md d pc L S σ r σ' := by
  refine J.run T k hr ?_
  obtain ⟨v, h1, h2⟩ := bind_v hF
  obtain ⟨h3, rfl⟩ := if_v h1
  obtain ⟨hd, -⟩ := dec_at T hi rfl
  intro l p e s m args below meth c D kI kA ad A C hret hlk H locs ls hP hD hS hl hV
  obtain ⟨q0, hq⟩ := List.getElem?_of_mem hV.drop.top
  have hin := inb_in h3
  have hlt : i.toNatClampNeg < 3 := Nat.not_le.mp fun q => hin (Or.inr q)
  exact va_aldq C.1 C.2.1 C.2.2.2.2.2.1 hP q0 1 (ws_get hq) rfl hin hd (kk _ h2 l p e s m args below meth c D kI kA ad A C hret hlk H locs ls hP hD hS hl (hV.drop.drop.pC (kept_ok _ hlt)))
theorem J.putI (T : Tm md) {g t i ci : Nat} {fk : List Nat} {v : Int32} {kf : St → ρ} (k : Nat) (hr : runP md.2.2.2.2 σ k (suf md.2.2.2.2 pc) L S = some (pc1, L1, mI v :: mR g t :: S0)) (hi : insAt md.2.2.2.2 pc1 = some (n, .putfield i, a, b, v0, w0)) (ho : objOf g = some (ci, fk)) (hc : ci = a) (hb : fk[b]? = some 0) (hf : (tyF a b).1 = FieldType.int ∧ (tyF a b).2 = false) (hF : bs (si σ g t b v) kf = w) (kk : ∀ σ1, kf σ1 = w → J md d (pc1 + 3) L1 S0 σ1 r σ') : J md d pc L S σ r σ' := by
  refine J.run T k hr ?_
  obtain ⟨hd, ha⟩ := dec_at T hi rfl
  subst hc
  intro l p e s m args below meth c D kI kA ad A C hret hlk H locs ls hP hD hS hl hV
  obtain ⟨hx, hbb, hml, hown, hts, hK, hN, hA⟩ := id C
  obtain ⟨q0, hq⟩ := List.getElem?_of_mem hV.drop.top
  have hw := ws_get (ad := ad) (kI := kI) (kA := kA) (σ := σ) hq
  simp only [ent, ho] at hw
  have hset : (wsO ad kI kA σ).set q0 (ad (.inl (g, t)), .inr (ci, ((List.range fk.length).map (fvl ad σ g t fk)).set b (.int v))) = wsO ad kI kA (si σ g t b v) := ws_set hq (fun q h => ent_si_ne q h) (by rw [ent_si_obj ho hb])
  obtain ⟨C1, T0, N, h1, h2, h3, h4, h5⟩ := ha
  obtain ⟨ty0, hty, hnm, hd1, hfin⟩ := tyF_ok h1 h2 hf
  have hlen : b < ((List.range fk.length).map (fvl ad σ g t fk)).length := by
    rw [List.length_map, List.length_range]; exact (List.getElem?_eq_some_iff.mp hb).1
  have go : ∀ (H1 : Heap) (locs1 : List Loc), va_P D mcl ((wsO ad kI kA σ).set q0 (ad (.inl (g, t)), .inr (ci, ((List.range fk.length).map (fvl ad σ g t fk)).set b (.int v)))) H1 → va_D A ((wsO ad kI kA σ).set q0 (ad (.inl (g, t)), .inr (ci, ((List.range fk.length).map (fvl ad σ g t fk)).set b (.int v)))) → va_S A s.heap H1 locs1 → W p l e (rmD d) s m args below meth c H1 locs1 0 0 (MQ below (Qm D kI kA ad A r σ') args s 0 0 A) (F0 m (pc1 + 3) ls (S0.map (cv ad))) := by
    intro H1 locs1 hP hD hS
    rw [hset] at hP hD
    exact kk _ hF l p e s m args below meth c D kI kA ad A C hret hlk H1 locs1 ls hP hD hS hl hV.drop.drop
  rcases h5 with h5 | h5
  · exact va_put hx hbb hts h4 ty0 hty hnm hown hK hP hD hS q0 hw h1 b h2 (hts _ h5) (fun z hz => by rw [h3] at hz; exact hz) hfin hd1 rfl rfl hlen hd go
  · exact va_putN hx hbb hts h4 ty0 hty hnm hown hK hP hD hS q0 hw h1 b h2 (by rw [h5]; exact va_Nw.use rfl hN.1) (fun z hz => by rw [h3] at hz; exact hz) hfin hd1 rfl rfl hlen hd go
theorem J.putL (T : Tm md) {g t i ci : Nat} {fk : List Nat} {v : Int64} {kf : St → ρ} (k : Nat) (hr : runP md.2.2.2.2 σ k (suf md.2.2.2.2 pc) L S = some (pc1, L1, mL v :: mR g t :: S0)) (hi : insAt md.2.2.2.2 pc1 = some (n, .putfield i, a, b, v0, w0)) (ho : objOf g = some (ci, fk)) (hc : ci = a) (hb : fk[b]? = some 1) (hf : (tyF a b).1 = FieldType.long ∧ (tyF a b).2 = false) (hF : bs (sl σ g t b v) kf = w) (kk : ∀ σ1, kf σ1 = w → J md d (pc1 + 3) L1 S0 σ1 r σ') : J md d pc L S σ r σ' := by
  refine J.run T k hr ?_
  obtain ⟨hd, ha⟩ := dec_at T hi rfl
  subst hc
  intro l p e s m args below meth c D kI kA ad A C hret hlk H locs ls hP hD hS hl hV
  obtain ⟨hx, hbb, hml, hown, hts, hK, hN, hA⟩ := id C
  obtain ⟨q0, hq⟩ := List.getElem?_of_mem hV.drop.top
  have hw := ws_get (ad := ad) (kI := kI) (kA := kA) (σ := σ) hq
  simp only [ent, ho] at hw
  have hset : (wsO ad kI kA σ).set q0 (ad (.inl (g, t)), .inr (ci, ((List.range fk.length).map (fvl ad σ g t fk)).set b (.long v))) = wsO ad kI kA (sl σ g t b v) := ws_set hq (fun q h => ent_sl_ne q h) (by rw [ent_sl_obj ho hb])
  obtain ⟨C1, T0, N, h1, h2, h3, h4, h5⟩ := ha
  obtain ⟨ty0, hty, hnm, hd1, hfin⟩ := tyF_ok h1 h2 hf
  have hlen : b < ((List.range fk.length).map (fvl ad σ g t fk)).length := by
    rw [List.length_map, List.length_range]; exact (List.getElem?_eq_some_iff.mp hb).1
  have go : ∀ (H1 : Heap) (locs1 : List Loc), va_P D mcl ((wsO ad kI kA σ).set q0 (ad (.inl (g, t)), .inr (ci, ((List.range fk.length).map (fvl ad σ g t fk)).set b (.long v)))) H1 → va_D A ((wsO ad kI kA σ).set q0 (ad (.inl (g, t)), .inr (ci, ((List.range fk.length).map (fvl ad σ g t fk)).set b (.long v)))) → va_S A s.heap H1 locs1 → W p l e (rmD d) s m args below meth c H1 locs1 0 0 (MQ below (Qm D kI kA ad A r σ') args s 0 0 A) (F0 m (pc1 + 3) ls (S0.map (cv ad))) := by
    intro H1 locs1 hP hD hS
    rw [hset] at hP hD
    exact kk _ hF l p e s m args below meth c D kI kA ad A C hret hlk H1 locs1 ls hP hD hS hl hV.drop.drop
  rcases h5 with h5 | h5
  · exact va_put hx hbb hts h4 ty0 hty hnm hown hK hP hD hS q0 hw h1 b h2 (hts _ h5) (fun z hz => by rw [h3] at hz; exact hz) hfin hd1 rfl rfl hlen hd go
  · exact va_putN hx hbb hts h4 ty0 hty hnm hown hK hP hD hS q0 hw h1 b h2 (by rw [h5]; exact va_Nw.use rfl hN.1) (fun z hz => by rw [h3] at hz; exact hz) hfin hd1 rfl rfl hlen hd go
theorem J.idiv (T : Tm md) {y z : Int32} {kf : Int32 → Option ρ} (k : Nat) (hr : runP md.2.2.2.2 σ k (suf md.2.2.2.2 pc) L S = some (pc1, L1, mI y :: mI z :: S0)) (hi : insAt md.2.2.2.2 pc1 = some (n, .idiv, a, b, v0, w0)) (hF : (dvI z y).bind kf = some w) (kk : ∀ v, kf v = some w → J md d (pc1 + 1) L1 (mI v :: S0) σ r σ') : J md d pc L S σ r σ' := by
  refine J.run T k hr ?_
  obtain ⟨v, h1, h2⟩ := bind_v hF
  obtain ⟨h3, rfl⟩ := ifz_v h1
  obtain ⟨hd, -⟩ := dec_at T hi rfl
  intro l p e s m args below meth c D kI kA ad A C hret hlk H locs ls hP hD hS hl hV
  exact lv_idiv C.1 C.2.1 hd h3 (kk _ h2 l p e s m args below meth c D kI kA ad A C hret hlk H locs ls hP hD hS hl hV.drop.drop.pI)
theorem J.irem (T : Tm md) {y z : Int32} {kf : Int32 → Option ρ} (k : Nat) (hr : runP md.2.2.2.2 σ k (suf md.2.2.2.2 pc) L S = some (pc1, L1, mI y :: mI z :: S0)) (hi : insAt md.2.2.2.2 pc1 = some (n, .irem, a, b, v0, w0)) (hF : (rmI z y).bind kf = some w) (kk : ∀ v, kf v = some w → J md d (pc1 + 1) L1 (mI v :: S0) σ r σ') : J md d pc L S σ r σ' := by
  refine J.run T k hr ?_
  obtain ⟨v, h1, h2⟩ := bind_v hF
  obtain ⟨h3, rfl⟩ := ifz_v h1
  obtain ⟨hd, -⟩ := dec_at T hi rfl
  intro l p e s m args below meth c D kI kA ad A C hret hlk H locs ls hP hD hS hl hV
  exact lv_irem C.1 C.2.1 hd h3 (kk _ h2 l p e s m args below meth c D kI kA ad A C hret hlk H locs ls hP hD hS hl hV.drop.drop.pI)
theorem J.ldiv (T : Tm md) {y z : Int64} {kf : Int64 → Option ρ} (k : Nat) (hr : runP md.2.2.2.2 σ k (suf md.2.2.2.2 pc) L S = some (pc1, L1, mL y :: mL z :: S0)) (hi : insAt md.2.2.2.2 pc1 = some (n, .ldiv, a, b, v0, w0)) (hF : (dvL z y).bind kf = some w) (kk : ∀ v, kf v = some w → J md d (pc1 + 1) L1 (mL v :: S0) σ r σ') : J md d pc L S σ r σ' := by
  refine J.run T k hr ?_
  obtain ⟨v, h1, h2⟩ := bind_v hF
  obtain ⟨h3, rfl⟩ := ifz_v h1
  obtain ⟨hd, -⟩ := dec_at T hi rfl
  intro l p e s m args below meth c D kI kA ad A C hret hlk H locs ls hP hD hS hl hV
  exact lv_ldiv C.1 C.2.1 hd h3 (kk _ h2 l p e s m args below meth c D kI kA ad A C hret hlk H locs ls hP hD hS hl hV.drop.drop.pL)
theorem J.lrem (T : Tm md) {y z : Int64} {kf : Int64 → Option ρ} (k : Nat) (hr : runP md.2.2.2.2 σ k (suf md.2.2.2.2 pc) L S = some (pc1, L1, mL y :: mL z :: S0)) (hi : insAt md.2.2.2.2 pc1 = some (n, .lrem, a, b, v0, w0)) (hF : (rmL z y).bind kf = some w) (kk : ∀ v, kf v = some w → J md d (pc1 + 1) L1 (mL v :: S0) σ r σ') : J md d pc L S σ r σ' := by
  refine J.run T k hr ?_
  obtain ⟨v, h1, h2⟩ := bind_v hF
  obtain ⟨h3, rfl⟩ := ifz_v h1
  obtain ⟨hd, -⟩ := dec_at T hi rfl
  intro l p e s m args below meth c D kI kA ad A C hret hlk H locs ls hP hD hS hl hV
  exact lv_lrem C.1 C.2.1 hd h3 (kk _ h2 l p e s m args below meth c D kI kA ad A C hret hlk H locs ls hP hD hS hl hV.drop.drop.pL)
theorem J.if_eq (T : Tm md) {z : Int32} {off : Int} {u u2 : ρ} {dc : Decidable (z = 0)} (k : Nat) (hr : runP md.2.2.2.2 σ k (suf md.2.2.2.2 pc) L S = some (pc1, L1, mI z :: S0)) (hi : insAt md.2.2.2.2 pc1 = some (n, .ifCond .eq off, a, b, v0, w0)) (hF : (@ite ρ (z = 0) dc u u2) = w) (kt : u = w → J md d a L1 S0 σ r σ') (kf : u2 = w → J md d (pc1 + 3) L1 S0 σ r σ') : J md d pc L S σ r σ' := by
  refine J.run T k hr ?_
  obtain ⟨hd, ha⟩ := dec_at T hi rfl
  intro l p e s m args below meth c D kI kA ad A C hret hlk H locs ls hP hD hS hl hV
  exact lv_if_eq C.1 C.2.1 hd ha (fun h => kt (by rw [if_pos h] at hF; exact hF) l p e s m args below meth c D kI kA ad A C hret hlk H locs ls hP hD hS hl hV.drop) (fun h => kf (by rw [if_neg h] at hF; exact hF) l p e s m args below meth c D kI kA ad A C hret hlk H locs ls hP hD hS hl hV.drop)
theorem J.icmp_eq (T : Tm md) {y z : Int32} {off : Int} {u u2 : ρ} {dc : Decidable (z = y)} (k : Nat) (hr : runP md.2.2.2.2 σ k (suf md.2.2.2.2 pc) L S = some (pc1, L1, mI y :: mI z :: S0)) (hi : insAt md.2.2.2.2 pc1 = some (n, .if_icmp .eq off, a, b, v0, w0)) (hF : (@ite ρ (z = y) dc u u2) = w) (kt : u = w → J md d a L1 S0 σ r σ') (kf : u2 = w → J md d (pc1 + 3) L1 S0 σ r σ') : J md d pc L S σ r σ' := by
  refine J.run T k hr ?_
  obtain ⟨hd, ha⟩ := dec_at T hi rfl
  intro l p e s m args below meth c D kI kA ad A C hret hlk H locs ls hP hD hS hl hV
  exact lv_icmp_eq C.1 C.2.1 hd ha (fun h => kt (by rw [if_pos h] at hF; exact hF) l p e s m args below meth c D kI kA ad A C hret hlk H locs ls hP hD hS hl hV.drop.drop) (fun h => kf (by rw [if_neg h] at hF; exact hF) l p e s m args below meth c D kI kA ad A C hret hlk H locs ls hP hD hS hl hV.drop.drop)
theorem J.if_ne (T : Tm md) {z : Int32} {off : Int} {u u2 : ρ} {dc : Decidable (z = 0)} (k : Nat) (hr : runP md.2.2.2.2 σ k (suf md.2.2.2.2 pc) L S = some (pc1, L1, mI z :: S0)) (hi : insAt md.2.2.2.2 pc1 = some (n, .ifCond .ne off, a, b, v0, w0)) (hF : (@ite ρ (z = 0) dc u u2) = w) (kt : u2 = w → J md d a L1 S0 σ r σ') (kf : u = w → J md d (pc1 + 3) L1 S0 σ r σ') : J md d pc L S σ r σ' := by
  refine J.run T k hr ?_
  obtain ⟨hd, ha⟩ := dec_at T hi rfl
  intro l p e s m args below meth c D kI kA ad A C hret hlk H locs ls hP hD hS hl hV
  exact lv_if_ne C.1 C.2.1 hd ha (fun h => kt (by rw [if_neg h] at hF; exact hF) l p e s m args below meth c D kI kA ad A C hret hlk H locs ls hP hD hS hl hV.drop) (fun h => kf (by rw [if_pos h] at hF; exact hF) l p e s m args below meth c D kI kA ad A C hret hlk H locs ls hP hD hS hl hV.drop)
theorem J.icmp_ne (T : Tm md) {y z : Int32} {off : Int} {u u2 : ρ} {dc : Decidable (z = y)} (k : Nat) (hr : runP md.2.2.2.2 σ k (suf md.2.2.2.2 pc) L S = some (pc1, L1, mI y :: mI z :: S0)) (hi : insAt md.2.2.2.2 pc1 = some (n, .if_icmp .ne off, a, b, v0, w0)) (hF : (@ite ρ (z = y) dc u u2) = w) (kt : u2 = w → J md d a L1 S0 σ r σ') (kf : u = w → J md d (pc1 + 3) L1 S0 σ r σ') : J md d pc L S σ r σ' := by
  refine J.run T k hr ?_
  obtain ⟨hd, ha⟩ := dec_at T hi rfl
  intro l p e s m args below meth c D kI kA ad A C hret hlk H locs ls hP hD hS hl hV
  exact lv_icmp_ne C.1 C.2.1 hd ha (fun h => kt (by rw [if_neg h] at hF; exact hF) l p e s m args below meth c D kI kA ad A C hret hlk H locs ls hP hD hS hl hV.drop.drop) (fun h => kf (by rw [if_pos h] at hF; exact hF) l p e s m args below meth c D kI kA ad A C hret hlk H locs ls hP hD hS hl hV.drop.drop)
theorem J.if_lt (T : Tm md) {z : Int32} {off : Int} {u u2 : ρ} {dc : Decidable (z < 0)} (k : Nat) (hr : runP md.2.2.2.2 σ k (suf md.2.2.2.2 pc) L S = some (pc1, L1, mI z :: S0)) (hi : insAt md.2.2.2.2 pc1 = some (n, .ifCond .lt off, a, b, v0, w0)) (hF : (@ite ρ (z < 0) dc u u2) = w) (kt : u = w → J md d a L1 S0 σ r σ') (kf : u2 = w → J md d (pc1 + 3) L1 S0 σ r σ') : J md d pc L S σ r σ' := by
  refine J.run T k hr ?_
  obtain ⟨hd, ha⟩ := dec_at T hi rfl
  intro l p e s m args below meth c D kI kA ad A C hret hlk H locs ls hP hD hS hl hV
  exact lv_if_lt C.1 C.2.1 hd ha (fun h => kt (by rw [if_pos h] at hF; exact hF) l p e s m args below meth c D kI kA ad A C hret hlk H locs ls hP hD hS hl hV.drop) (fun h => kf (by rw [if_neg h] at hF; exact hF) l p e s m args below meth c D kI kA ad A C hret hlk H locs ls hP hD hS hl hV.drop)
theorem J.icmp_lt (T : Tm md) {y z : Int32} {off : Int} {u u2 : ρ} {dc : Decidable (z < y)} (k : Nat) (hr : runP md.2.2.2.2 σ k (suf md.2.2.2.2 pc) L S = some (pc1, L1, mI y :: mI z :: S0)) (hi : insAt md.2.2.2.2 pc1 = some (n, .if_icmp .lt off, a, b, v0, w0)) (hF : (@ite ρ (z < y) dc u u2) = w) (kt : u = w → J md d a L1 S0 σ r σ') (kf : u2 = w → J md d (pc1 + 3) L1 S0 σ r σ') : J md d pc L S σ r σ' := by
  refine J.run T k hr ?_
  obtain ⟨hd, ha⟩ := dec_at T hi rfl
  intro l p e s m args below meth c D kI kA ad A C hret hlk H locs ls hP hD hS hl hV
  exact lv_icmp_lt C.1 C.2.1 hd ha (fun h => kt (by rw [if_pos h] at hF; exact hF) l p e s m args below meth c D kI kA ad A C hret hlk H locs ls hP hD hS hl hV.drop.drop) (fun h => kf (by rw [if_neg h] at hF; exact hF) l p e s m args below meth c D kI kA ad A C hret hlk H locs ls hP hD hS hl hV.drop.drop)
theorem J.if_ge (T : Tm md) {z : Int32} {off : Int} {u u2 : ρ} {dc : Decidable (0 ≤ z)} (k : Nat) (hr : runP md.2.2.2.2 σ k (suf md.2.2.2.2 pc) L S = some (pc1, L1, mI z :: S0)) (hi : insAt md.2.2.2.2 pc1 = some (n, .ifCond .ge off, a, b, v0, w0)) (hF : (@ite ρ (0 ≤ z) dc u u2) = w) (kt : u = w → J md d a L1 S0 σ r σ') (kf : u2 = w → J md d (pc1 + 3) L1 S0 σ r σ') : J md d pc L S σ r σ' := by
  refine J.run T k hr ?_
  obtain ⟨hd, ha⟩ := dec_at T hi rfl
  intro l p e s m args below meth c D kI kA ad A C hret hlk H locs ls hP hD hS hl hV
  exact lv_if_ge C.1 C.2.1 hd ha (fun h => kt (by rw [if_pos h] at hF; exact hF) l p e s m args below meth c D kI kA ad A C hret hlk H locs ls hP hD hS hl hV.drop) (fun h => kf (by rw [if_neg h] at hF; exact hF) l p e s m args below meth c D kI kA ad A C hret hlk H locs ls hP hD hS hl hV.drop)
theorem J.icmp_ge (T : Tm md) {y z : Int32} {off : Int} {u u2 : ρ} {dc : Decidable (y ≤ z)} (k : Nat) (hr : runP md.2.2.2.2 σ k (suf md.2.2.2.2 pc) L S = some (pc1, L1, mI y :: mI z :: S0)) (hi : insAt md.2.2.2.2 pc1 = some (n, .if_icmp .ge off, a, b, v0, w0)) (hF : (@ite ρ (y ≤ z) dc u u2) = w) (kt : u = w → J md d a L1 S0 σ r σ') (kf : u2 = w → J md d (pc1 + 3) L1 S0 σ r σ') : J md d pc L S σ r σ' := by
  refine J.run T k hr ?_
  obtain ⟨hd, ha⟩ := dec_at T hi rfl
  intro l p e s m args below meth c D kI kA ad A C hret hlk H locs ls hP hD hS hl hV
  exact lv_icmp_ge C.1 C.2.1 hd ha (fun h => kt (by rw [if_pos h] at hF; exact hF) l p e s m args below meth c D kI kA ad A C hret hlk H locs ls hP hD hS hl hV.drop.drop) (fun h => kf (by rw [if_neg h] at hF; exact hF) l p e s m args below meth c D kI kA ad A C hret hlk H locs ls hP hD hS hl hV.drop.drop)
theorem J.if_gt (T : Tm md) {z : Int32} {off : Int} {u u2 : ρ} {dc : Decidable (0 < z)} (k : Nat) (hr : runP md.2.2.2.2 σ k (suf md.2.2.2.2 pc) L S = some (pc1, L1, mI z :: S0)) (hi : insAt md.2.2.2.2 pc1 = some (n, .ifCond .gt off, a, b, v0, w0)) (hF : (@ite ρ (0 < z) dc u u2) = w) (kt : u = w → J md d a L1 S0 σ r σ') (kf : u2 = w → J md d (pc1 + 3) L1 S0 σ r σ') : J md d pc L S σ r σ' := by
  refine J.run T k hr ?_
  obtain ⟨hd, ha⟩ := dec_at T hi rfl
  intro l p e s m args below meth c D kI kA ad A C hret hlk H locs ls hP hD hS hl hV
  exact lv_if_gt C.1 C.2.1 hd ha (fun h => kt (by rw [if_pos h] at hF; exact hF) l p e s m args below meth c D kI kA ad A C hret hlk H locs ls hP hD hS hl hV.drop) (fun h => kf (by rw [if_neg h] at hF; exact hF) l p e s m args below meth c D kI kA ad A C hret hlk H locs ls hP hD hS hl hV.drop)
theorem J.icmp_gt (T : Tm md) {y z : Int32} {off : Int} {u u2 : ρ} {dc : Decidable (y < z)} (k : Nat) (hr : runP md.2.2.2.2 σ k (suf md.2.2.2.2 pc) L S = some (pc1, L1, mI y :: mI z :: S0)) (hi : insAt md.2.2.2.2 pc1 = some (n, .if_icmp .gt off, a, b, v0, w0)) (hF : (@ite ρ (y < z) dc u u2) = w) (kt : u = w → J md d a L1 S0 σ r σ') (kf : u2 = w → J md d (pc1 + 3) L1 S0 σ r σ') : J md d pc L S σ r σ' := by
  refine J.run T k hr ?_
  obtain ⟨hd, ha⟩ := dec_at T hi rfl
  intro l p e s m args below meth c D kI kA ad A C hret hlk H locs ls hP hD hS hl hV
  exact lv_icmp_gt C.1 C.2.1 hd ha (fun h => kt (by rw [if_pos h] at hF; exact hF) l p e s m args below meth c D kI kA ad A C hret hlk H locs ls hP hD hS hl hV.drop.drop) (fun h => kf (by rw [if_neg h] at hF; exact hF) l p e s m args below meth c D kI kA ad A C hret hlk H locs ls hP hD hS hl hV.drop.drop)
theorem J.if_le (T : Tm md) {z : Int32} {off : Int} {u u2 : ρ} {dc : Decidable (z ≤ 0)} (k : Nat) (hr : runP md.2.2.2.2 σ k (suf md.2.2.2.2 pc) L S = some (pc1, L1, mI z :: S0)) (hi : insAt md.2.2.2.2 pc1 = some (n, .ifCond .le off, a, b, v0, w0)) (hF : (@ite ρ (z ≤ 0) dc u u2) = w) (kt : u = w → J md d a L1 S0 σ r σ') (kf : u2 = w → J md d (pc1 + 3) L1 S0 σ r σ') : J md d pc L S σ r σ' := by
  refine J.run T k hr ?_
  obtain ⟨hd, ha⟩ := dec_at T hi rfl
  intro l p e s m args below meth c D kI kA ad A C hret hlk H locs ls hP hD hS hl hV
  exact lv_if_le C.1 C.2.1 hd ha (fun h => kt (by rw [if_pos h] at hF; exact hF) l p e s m args below meth c D kI kA ad A C hret hlk H locs ls hP hD hS hl hV.drop) (fun h => kf (by rw [if_neg h] at hF; exact hF) l p e s m args below meth c D kI kA ad A C hret hlk H locs ls hP hD hS hl hV.drop)
theorem J.icmp_le (T : Tm md) {y z : Int32} {off : Int} {u u2 : ρ} {dc : Decidable (z ≤ y)} (k : Nat) (hr : runP md.2.2.2.2 σ k (suf md.2.2.2.2 pc) L S = some (pc1, L1, mI y :: mI z :: S0)) (hi : insAt md.2.2.2.2 pc1 = some (n, .if_icmp .le off, a, b, v0, w0)) (hF : (@ite ρ (z ≤ y) dc u u2) = w) (kt : u = w → J md d a L1 S0 σ r σ') (kf : u2 = w → J md d (pc1 + 3) L1 S0 σ r σ') : J md d pc L S σ r σ' := by
  refine J.run T k hr ?_
  obtain ⟨hd, ha⟩ := dec_at T hi rfl
  intro l p e s m args below meth c D kI kA ad A C hret hlk H locs ls hP hD hS hl hV
  exact lv_icmp_le C.1 C.2.1 hd ha (fun h => kt (by rw [if_pos h] at hF; exact hF) l p e s m args below meth c D kI kA ad A C hret hlk H locs ls hP hD hS hl hV.drop.drop) (fun h => kf (by rw [if_neg h] at hF; exact hF) l p e s m args below meth c D kI kA ad A C hret hlk H locs ls hP hD hS hl hV.drop.drop)
theorem ts_at (T : Tm md) {dflt lo hgh : Int} {offs : Array Int} (hi : insAt md.2.2.2.2 pc1 = some (n, .tableswitch dflt lo hgh offs, a, b, v0, w0)) : decode md.2.1 pc1 = .ok (.tableswitch dflt lo hgh offs, n) := by
  obtain ⟨q, hq⟩ := insAt_suf hi
  exact (T _ _ hq).1
theorem J.tswIn (T : Tm md) {z : Int32} {dflt lo hgh off : Int} {offs : Array Int} (tgt : Nat) (k : Nat) (hr : runP md.2.2.2.2 σ k (suf md.2.2.2.2 pc) L S = some (pc1, L1, mI z :: S0)) (hi : insAt md.2.2.2.2 pc1 = some (n, .tableswitch dflt lo hgh offs, a, b, v0, w0)) (y : Int32) (hz : z = y) (h1 : ¬ y.toInt < lo) (h2 : ¬ hgh < y.toInt) (ho : offs[(y.toInt - lo).toNat]? = some off) (ht : (pc1 : Int) + off = (tgt : Int)) (kk : J md d tgt L1 S0 σ r σ') : J md d pc L S σ r σ' := by
  refine J.run T k hr ?_
  have hd := ts_at T hi
  intro l p e s m args below meth c D kI kA ad A C hret hlk H locs ls hP hD hS hl hV
  rw [← hz] at h1 h2 ho
  exact lv_tableIn C.1 C.2.1 hd h1 h2 ho ht (kk l p e s m args below meth c D kI kA ad A C hret hlk H locs ls hP hD hS hl hV.drop)
theorem J.tswOut (T : Tm md) {z : Int32} {dflt lo hgh : Int} {offs : Array Int} (tgt : Nat) (k : Nat) (hr : runP md.2.2.2.2 σ k (suf md.2.2.2.2 pc) L S = some (pc1, L1, mI z :: S0)) (hi : insAt md.2.2.2.2 pc1 = some (n, .tableswitch dflt lo hgh offs, a, b, v0, w0)) (h : z.toInt < lo ∨ hgh < z.toInt) (ht : (pc1 : Int) + dflt = (tgt : Int)) (kk : J md d tgt L1 S0 σ r σ') : J md d pc L S σ r σ' := by
  refine J.run T k hr ?_
  have hd := ts_at T hi
  intro l p e s m args below meth c D kI kA ad A C hret hlk H locs ls hP hD hS hl hV
  exact lv_tableOut C.1 C.2.1 hd h ht (kk l p e s m args below meth c D kI kA ad A C hret hlk H locs ls hP hD hS hl hV.drop)
theorem ws_D {ad : CI → Nat} {kI kA : ClassId} {A : Nat → Prop} {σ σ1 : St} (h : va_D A (wsO ad kI kA σ)) : va_D A (wsO ad kI kA σ1) := by
  have key : ∀ (τ : St) (i : Nat) (q : Nat × va_E), (wsO ad kI kA τ)[i]? = some q → ∃ q', (wsO ad kI kA σ)[i]? = some q' ∧ q'.1 = q.1 := by
    intro τ i q hq
    unfold wsO at hq ⊢
    rw [List.getElem?_map] at hq ⊢
    cases hm : mcells[i]? with
    | none => rw [hm] at hq; cases hq
    | some z => rw [hm] at hq; cases hq; exact ⟨_, rfl, rfl⟩
  refine ⟨fun i j p q h1 h2 h3 => ?_, fun k q h1 => ?_⟩
  · obtain ⟨p', a1, a2⟩ := key _ _ _ h1
    obtain ⟨q', b1, b2⟩ := key _ _ _ h2
    exact h.1 i j p' q' a1 b1 (by rw [a2, b2, h3])
  · obtain ⟨q', a1, a2⟩ := key _ _ _ h1
    have := h.2 k q' a1
    rw [a2] at this
    exact this
theorem J.reti (T : Tm md) {z : Int32} (k : Nat) (hr : runP md.2.2.2.2 σ k (suf md.2.2.2.2 pc) L S = some (pc1, L1, [mI z])) (hi : insAt md.2.2.2.2 pc1 = some (n, .ireturn, a, b, v0, w0)) (ht : md.2.2.2.1 = some .int) : J md d pc L S σ (some (mI z)) σ := by
  refine J.run T k hr ?_
  obtain ⟨hd, -⟩ := dec_at T hi rfl
  intro l p e s m args below meth c D kI kA ad A C hret hlk H locs ls hP hD hS hl hV
  exact W.iret C.1 C.2.1 (hret.trans ht) (fun t ht hW => ⟨⟨rfl, by rw [ht]; exact hP⟩, hS.F ht⟩) hS.2.2 hd hlk
theorem J.retl (T : Tm md) {z : Int64} (k : Nat) (hr : runP md.2.2.2.2 σ k (suf md.2.2.2.2 pc) L S = some (pc1, L1, [mL z])) (hi : insAt md.2.2.2.2 pc1 = some (n, .lreturn, a, b, v0, w0)) (ht : md.2.2.2.1 = some .long) : J md d pc L S σ (some (mL z)) σ := by
  refine J.run T k hr ?_
  obtain ⟨hd, -⟩ := dec_at T hi rfl
  intro l p e s m args below meth c D kI kA ad A C hret hlk H locs ls hP hD hS hl hV
  exact W.lret C.1 C.2.1 (hret.trans ht) (fun t ht hW => ⟨⟨rfl, by rw [ht]; exact hP⟩, hS.F ht⟩) hS.2.2 hd hlk
theorem J.retv (T : Tm md) (k : Nat) (hr : runP md.2.2.2.2 σ k (suf md.2.2.2.2 pc) L S = some (pc1, L1, [])) (hi : insAt md.2.2.2.2 pc1 = some (n, .return_, a, b, v0, w0)) (ht : md.2.2.2.1 = none) : J md d pc L S σ none σ := by
  refine J.run T k hr ?_
  obtain ⟨hd, -⟩ := dec_at T hi rfl
  intro l p e s m args below meth c D kI kA ad A C hret hlk H locs ls hP hD hS hl hV
  exact W.vret C.1 C.2.1 (hret.trans ht) (fun t ht hW => ⟨⟨rfl, by rw [ht]; exact hP⟩, hS.F ht⟩) hS.2.2 hd hlk
theorem W_zret {p : Program} {l : Launch} {e : Env} {R : Room} {s : State} {m : MethodId} {args : Array Value} {below : List Frame} {meth : Method} {c : Code} {H : Heap} {locs : List Loc} {cells slots : Nat} {cc : ByteArray} {Qc : Array Value → State → Outcome → State → Prop} {free : Addr → Prop} {v : Int32} (hexec : p.tables.exec = Jvm.exec) (hb : c.code = cc) (hr : meth.sig.returnType = some .boolean)
    (hq : ∀ t : State, t.heap = H → s.WarmedH t.vm → Qc args s (.returned (some (.int (v &&& 1)))) t) (hf : ∀ q ∈ locs, free q.base)
    {pc : Nat} {ls : Array Slot} (hdg : decode cc pc = .ok (.ireturn, 1)) (hlocks : meth.locks = false) : W p l e R s m args below meth c H locs cells slots (MQ below Qc args s cells slots free) (F0 m pc ls [.int v]) := by
  intro T hT X
  obtain ⟨fs, hret, hrun, hended, hW, hframe⟩ := X.leave (v := some (.int (v &&& 1))) (hlocks := hlocks) (fun h => by rw [hr] at h; cases h)
  have hmeth' : T.vm.method? m = some meth := X.method'
  refine ⟨T.setFrames fs, ?_, .returned (some (.int (v &&& 1))), hrun, hended, hq _ hT hW, locs, ⟨⟨_, rfl⟩, hW, hframe⟩, hf⟩
  jvm_step X.here [X.here.top, hexec, hb, hdg, hmeth', hr, narrow]
  (try refine ⟨rfl, ?_⟩); (try refine ⟨rfl, ?_⟩)
  first | (intro acts; rw [hret _ acts rfl rfl rfl]) | rw [hret _ _ rfl rfl rfl]
  exact Steps.refl _
theorem J.retz (T : Tm md) {z u : Int32} (k : Nat) (hr : runP md.2.2.2.2 σ k (suf md.2.2.2.2 pc) L S = some (pc1, L1, [mI z])) (hi : insAt md.2.2.2.2 pc1 = some (n, .ireturn, a, b, v0, w0)) (ht : md.2.2.2.1 = some .boolean) (hz : z &&& 1 = u) : J md d pc L S σ (some (mI u)) σ := by
  refine J.run T k hr ?_
  obtain ⟨hd, -⟩ := dec_at T hi rfl
  subst hz
  intro l p e s m args below meth c D kI kA ad A C hret hlk H locs ls hP hD hS hl hV
  exact W_zret C.1 C.2.1 (hret.trans ht) (fun t ht hW => ⟨⟨rfl, by rw [ht]; exact hP⟩, hS.F ht⟩) hS.2.2 hd hlk
end EV
end
section
-- calls and contracts
def Call (md : Md) (d : Nat) (as : List MV) (σ : St) (r : Option MV) (σ' : St) : Prop :=
  (∀ q : CI, (.inr (.inr q) : MV) ∈ as → q ∈ mcells) → ∀ (l : Launch) (D : va_G) (kI kA : ClassId) (ad : CI → Nat) (sz : Nat),
    Met l md.1 (Cond.code md.1 md.2.1 md.2.2.1 md.2.2.2.1 :: T1) (rmD d) (va_Pc (as.map (cv ad)) (fun U => U.heap.size = sz ∧ va_P D mcl (wsO ad kI kA σ) U.heap ∧ va_K D mcl (mty kI kA) U ∧ va_D (fun _ => True) (wsO ad kI kA σ) ∧ mNw U)) (Qm D kI kA ad (va_A (wsO ad kI kA σ) sz) r σ') 0 0 (va_A (wsO ad kI kA σ) sz)
def MdOk (md : Md) (n : Nat) : Prop := Cond.code md.1 md.2.1 md.2.2.1 md.2.2.2.1 ∈ T1 ∧ Cond.initialized md.1.cls ∈ T1 ∧ plainName md.1.cls = true ∧ (md.1.cls ≠ "java/lang/invoke/MethodHandle" ∧ md.1.cls ≠ "java/lang/invoke/VarHandle") ∧ (parseMethodDescriptor md.1.desc).map (fun d => d.parameters.length) = some n ∧ md.2.2.1 ≤ 45
def argL : List MV → List (Option MV)
  | [] => []
  | .inl z :: r => some (.inl z) :: argL r
  | .inr (.inl z) :: r => some (.inr (.inl z)) :: none :: argL r
  | .inr (.inr z) :: r => some (.inr (.inr z)) :: argL r
def entL (nL : Nat) (as : List MV) : List (Option MV) := argL as ++ List.replicate (nL - (argL as).length) none
theorem lgt_rep : ∀ (n i : Nat) (u : MV), lgt (List.replicate n none) i = some u → False
  | 0, _, _, h => by cases h
  | n + 1, 0, u, h => by cases h
  | n + 1, i + 1, u, h => lgt_rep n i u h
theorem ent_args {ad : CI → Nat} : ∀ (as : List MV) (n i j : Nat) (u : MV), lgt (argL as ++ List.replicate n none) j = some u → (i + j, cv ad u) ∈ lv_args i (as.map (cv ad))
  | [], n, i, j, u, h => (lgt_rep n j u h).elim
  | .inl z :: r, n, i, 0, u, h => by cases h; exact List.mem_cons_self
  | .inl z :: r, n, i, j + 1, u, h => by
    have := ent_args (ad := ad) r n (i + 1) j u h
    rw [show i + 1 + j = i + (j + 1) by omega] at this
    exact List.mem_cons_of_mem _ this
  | .inr (.inr z) :: r, n, i, 0, u, h => by cases h; exact List.mem_cons_self
  | .inr (.inr z) :: r, n, i, j + 1, u, h => by
    have := ent_args (ad := ad) r n (i + 1) j u h
    rw [show i + 1 + j = i + (j + 1) by omega] at this
    exact List.mem_cons_of_mem _ this
  | .inr (.inl z) :: r, n, i, 0, u, h => by cases h; exact List.mem_cons_self
  | .inr (.inl z) :: r, n, i, 1, u, h => by cases h
  | .inr (.inl z) :: r, n, i, j + 2, u, h => by
    have := ent_args (ad := ad) r n (i + 2) j u h
    rw [show i + 2 + j = i + (j + 2) by omega] at this
    exact List.mem_cons_of_mem _ this
theorem lg_cons (v : Value) (vs : List Value) : lg_sl (v :: vs) = (if v.category = 2 then [Slot.val v, Slot.second] else [Slot.val v]) ++ lg_sl vs := by
  simp only [lg_sl, List.flatMap_cons]
theorem argL_sl {ad : CI → Nat} : ∀ (as : List MV), (lg_sl (as.map (cv ad))).length = (argL as).length
  | [] => rfl
  | .inl z :: r => by
    rw [List.map_cons, lg_cons, List.length_append, argL_sl r]
    show 1 + (argL r).length = (argL r).length + 1
    omega
  | .inr (.inr z) :: r => by
    rw [List.map_cons, lg_cons, List.length_append, argL_sl r]
    show 1 + (argL r).length = (argL r).length + 1
    omega
  | .inr (.inl z) :: r => by
    rw [List.map_cons, lg_cons, List.length_append, argL_sl r]
    show 2 + (argL r).length = (argL r).length + 2
    omega
theorem lgt_argL : ∀ (as : List MV) (n j : Nat) (q : CI), lgt (argL as ++ List.replicate n none) j = some (.inr (.inr q)) → (.inr (.inr q) : MV) ∈ as
  | [], n, j, q, h => (lgt_rep n j _ h).elim
  | .inl z :: r, n, 0, q, h => by cases h
  | .inl z :: r, n, j + 1, q, h => List.mem_cons_of_mem _ (lgt_argL r n j q h)
  | .inr (.inr z) :: r, n, 0, q, h => by cases h; exact List.mem_cons_self
  | .inr (.inr z) :: r, n, j + 1, q, h => List.mem_cons_of_mem _ (lgt_argL r n j q h)
  | .inr (.inl z) :: r, n, 0, q, h => by cases h
  | .inr (.inl z) :: r, n, 1, q, h => by cases h
  | .inr (.inl z) :: r, n, j + 2, q, h => List.mem_cons_of_mem _ (lgt_argL r n j q h)
theorem Call.of {md : Md} {d n : Nat} {as : List MV} {σ σ' : St} {r : Option MV} {L : List (Option MV)} (ok : MdOk md n) (hl0 : (argL as).length ≤ md.2.2.1) (hL : L = entL md.2.2.1 as) (h : J md d 0 L [] σ r σ') : Call md d as σ r σ' := by
  subst hL
  intro hv l D kI kA ad sz
  refine Met.ofW (cc := md.2.1) (maxL := md.2.2.1) (ret := md.2.2.2.1) ok.2.2.1 rfl ?_
  intro p e s m args below meth c s₁ B hml hpc
  obtain ⟨rfl, hsz, hP, hK, hD0, hN⟩ := hpc
  subst hsz
  have hts : ∀ w ∈ T1, w.before ((as.map (cv ad)).toArray) s = true := fun w hw => atoms_spec (ws := Cond.code md.1 md.2.1 md.2.2.1 md.2.2.2.1 :: T1) B.pre w (List.mem_cons_of_mem _ hw)
  have hown : s.vm.findClass md.1.cls = some m.cls := findClass_of_methodNamed B.named
  have hlsl : (lg_sl (as.map (cv ad))).length ≤ md.2.2.1 := by rw [argL_sl]; exact hl0
  have hl := lv_entry (as.map (cv ad)) (n := md.2.2.1) hlsl
  rw [lg_entry_eq]
  refine h l p e s m _ below meth c D kI kA ad (va_A (wsO ad kI kA σ) s.heap.size) ⟨B.exec, B.bytes, hml, hown, hts, hK, hN, fun q hq => Or.inr hq⟩ B.returns B.notSynchronized s.heap [] _ hP hD0.self va_S.rf ⟨hl.1, hl.2.1, fun q hq => ?_⟩ ⟨?_, fun i q hq => hv q (lgt_argL _ _ _ _ hq), fun q hq => by cases hq⟩
  · obtain ⟨j, u, h1, rfl⟩ := mem_cLf hq
    exact hl.2.2 _ (ent_args as _ 0 j u h1)
  · unfold entL
    rw [List.length_append, List.length_replicate]
    omega
theorem good_T1 {cw : Cond} (h : cw ∈ T1) : GoodIn T1 (cw :: T1) := by
  have g : ∀ w ∈ T1, w ∈ T1 ∧ ((w.onTables && w.keeps) = true ∨ ∃ ty, w = .arrayClass ty) := fun w hw => ⟨hw, good_of_word (List.mem_filter.mp hw).2⟩
  intro w hw
  rcases List.mem_cons.mp hw with rfl | hw
  · exact g _ h
  · exact g _ hw
def catM (v : MV) : Nat := match v with
  | .inr (.inl _) => 2
  | _ => 1
theorem cat_le {ad : CI → Nat} : ∀ (rest : List MV), ((rest.map (cv ad)).map fun v => v.category).sum = (rest.map catM).sum
  | [] => rfl
  | .inl z :: r => by simp only [List.map_cons, List.sum_cons, cat_le r]; rfl
  | .inr (.inl z) :: r => by simp only [List.map_cons, List.sum_cons, cat_le r]; rfl
  | .inr (.inr z) :: r => by simp only [List.map_cons, List.sum_cons, cat_le r]; rfl
def Ck (own : String) (ins : Instr) (md' : Md) (as : List MV) : Prop := ∃ n, MdOk md' n ∧
  ((∃ idx, ins = .invokevirtual idx ∧ Cond.methodLink own idx md'.1 ∈ T1 ∧ Cond.instanceMethod md'.1 ∈ T1 ∧ Cond.selects md'.1.cls md'.1 md'.1 ∈ T1 ∧ ∃ (g t : Nat) (as' : List MV) (ci : Nat) (fk : List Nat) (T : u_T) (N : Nat), as = mR g t :: as' ∧ as'.length = n ∧ objOf g = some (ci, fk) ∧ mcl[ci]? = some (md'.1.cls, T, N)) ∨
  (∃ idx, ins = .invokestatic idx ∧ as.length = n ∧ Cond.static md'.1 ∈ T1 ∧ (Cond.methodLink own idx md'.1 ∈ T1 ∨ Cond.methodLinkNest own idx md'.1 "TentMiddle" = nwM)))
section CALL
variable {p : Program} {l : Launch} {e : Env} {R : Room} {s : State} {m : MethodId} {args : Array Value} {below : List Frame} {meth : Method} {c : Code} {nc ns : Nat} {Q : State → Prop} {D : va_G} {kI kA : ClassId} {ad : CI → Nat} {A : Nat → Prop} {own : String} {cc : ByteArray} {nL : Nat}
theorem m_call {H : Heap} {locs : List Loc} {ls : Array Slot} {pc : Nat} {st0 : List Value} {rest : List MV} {r : Option MV} {σ1 : St} {A1 : Nat → Prop} {a : Array Value} (hr : va_Run p l e R s m args below meth c H locs nc ns 0 0 (F0 m pc ls st0) (rest.map (cv ad)) (Qm D kI kA ad A1 r σ1 a) A1) (hS : va_S A s.heap H locs) (hA : ∀ q, A1 q → A q)
    (kk : ∀ (H1 : Heap) (locs1 : List Loc), va_P D mcl (wsO ad kI kA σ1) H1 → va_S A s.heap H1 locs1 → W p l e R s m args below meth c H1 locs1 nc ns Q (F0 m (pc + 3) ls ((r.toList ++ rest).map (cv ad)))) : W p l e R s m args below meth c H locs nc ns Q (F0 m pc ls st0) := by
  intro T hT X
  obtain ⟨v, st₀, t, T', L, h0, X', hL, e1, e2, ⟨⟨hv, hp⟩, hz, hk⟩, st⟩ := hr T hT X
  cases hv
  rw [h0] at hz hk
  have hst : (r.map (cv ad)).toList ++ rest.map (cv ad) = (r.toList ++ rest).map (cv ad) := by
    cases r <;> simp
  rw [hst] at st
  obtain ⟨t2, a1, b1⟩ := kk T'.heap (locs ++ L) (by rw [e1]; exact hp)
    ⟨Nat.le_trans hS.1 (by rw [e1]; exact hz), fun q h1 h2 => by rw [e1, hk q (Nat.lt_of_lt_of_le h1 hS.1) (fun z => h2 (hA q z))]; exact hS.2.1 q h1 h2, fun q hq => by
      rcases List.mem_append.mp hq with h | h
      · exact hS.2.2 q h
      · exact hA _ (hL q h)⟩ T' rfl X'
  exact ⟨t2, st t2 a1, b1⟩
theorem W_call {ins : Instr} {md' : Md} {as rest : List MV} {σ σ1 : St} {r : Option MV} {d' pc : Nat} {L : List (Option MV)} (C : Cx p s m args c D kI kA A own cc nL) (hd : decode cc pc = .ok (ins, 3)) (ck : Ck own ins md' as) (hc : Call md' d' as σ r σ1) (hrest : (rest.map catM).sum ≤ 8)
    (hR : d' + 1 ≤ R.frames ∧ 8 + (md'.2.2.1 + 11) + 64 * d' ≤ R.locals) (hf : nc ≤ R.cells ∧ ns ≤ R.slots) (hnr : ∀ q : CI, r ≠ some (.inr (.inr q)))
    (kk : Wm p l e R s m args below meth c nc ns Q D kI kA ad A nL (pc + 3) L (r.toList ++ rest) σ1) : Wm p l e R s m args below meth c nc ns Q D kI kA ad A nL pc L (as.reverse ++ rest) σ := by
  intro H locs ls hP hD hS hl hV
  obtain ⟨hx, hb, hml, hown, hts, hK, hN, hA⟩ := id C
  have hva : ∀ q : CI, (.inr (.inr q) : MV) ∈ as → q ∈ mcells := fun q hq => hV.2.2 q (List.mem_append_left _ (List.mem_reverse.mpr hq))
  have hV' : okV nL L (r.toList ++ rest) := ⟨hV.1, hV.2.1, fun q hq => by
    rcases List.mem_append.mp hq with h | h
    · cases r with
      | none => cases h
      | some z =>
        rcases List.mem_cons.mp h with rfl | h
        · exact absurd rfl (hnr q)
        · cases h
    · exact hV.2.2 q (List.mem_append_right _ h)⟩
  have hM := hc hva l D kI kA ad H.size
  obtain ⟨n, ⟨o1, o2, o3, o4, o5, o6⟩, ck⟩ := ck
  have hAw : ∀ q, va_A (wsO ad kI kA σ) H.size q → A q := by
    intro q h
    rcases h with ⟨k, e, h⟩ | h
    · exact hD.2 k _ h
    · exact hA q (Nat.le_trans hS.1 h)
  have hbl : FrameBlind (va_Pc (as.map (cv ad)) (fun U => U.heap.size = H.size ∧ va_P D mcl (wsO ad kI kA σ) U.heap ∧ va_K D mcl (mty kI kA) U ∧ va_D (fun _ => True) (wsO ad kI kA σ) ∧ mNw U)) := by
    intro a U g mk q
    obtain ⟨q0, q1, qP, qK, qD, qN⟩ := q
    exact ⟨q0, q1, qP, va_K.moved (u := U) (U := U.calling g mk a) (Vm.Alike.refl U.vm) qK, qD, mNw.same (u := U) (U := U.calling g mk a) rfl qN⟩
  have hPc : ∀ U : State, U.heap = H → s.WarmedH U.vm → (U.heap.size = H.size ∧ va_P D mcl (wsO ad kI kA σ) U.heap ∧ va_K D mcl (mty kI kA) U ∧ va_D (fun _ => True) (wsO ad kI kA σ) ∧ mNw U) := fun U hU hW => ⟨by rw [hU], by rw [hU]; exact hP, va_K.moved hW.alike hK, hD.weaken (fun _ _ _ _ => trivial), mNw.warm hW hN⟩
  have go : ∀ (H1 : Heap) (locs1 : List Loc), va_P D mcl (wsO ad kI kA σ1) H1 → va_S A s.heap H1 locs1 → W p l e R s m args below meth c H1 locs1 nc ns Q (F0 m (pc + 3) ls ((r.toList ++ rest).map (cv ad))) := fun H1 locs1 hP1 hS1 => kk H1 locs1 ls hP1 (ws_D hD) hS1 hl hV'
  have hcat : 2 * (F0 m pc ls ((as.reverse ++ rest).map (cv ad))).monitorRoom + ((rest.map (cv ad)).map fun v => v.category).sum ≤ 8 := lv_room (by rw [cat_le]; exact hrest)
  rcases ck with ⟨idx, rfl, k1, k2, k3, g, t, as', ci, fk, T, N, rfl, k4, k5, k6⟩ | ⟨idx, rfl, k1, k2, k3⟩
  · have hr : (.inl (g, t) : CI) ∈ mcells := hva _ List.mem_cons_self
    obtain ⟨q0, hq⟩ := List.getElem?_of_mem hr
    have hw := ws_get (ad := ad) (kI := kI) (kA := kA) (σ := σ) hq
    simp only [ent, k5] at hw
    have hcb := callB_of (R := R) (rm := rmD d') (mc := 0) (ms := 0) n hts (good_T1 o1) rfl rfl rfl (hts _ o2) (hts _ k1) ⟨o4.1, o4.2, o5⟩ hR
    exact m_call (va_runV (As := as'.map (cv ad)) (rest := rest.map (cv ad)) ⟨hx, hb, hml, hown, hts⟩ hM ⟨hcb, hts _ k2, hts _ k3⟩ ⟨hbl, va_recv hK hP k6 hw, fun U hU hW => ⟨rfl, hPc U hU hW⟩⟩ rfl (by rw [List.length_map]; exact k4) hl.1 (by simp [cv]) hcat hd hf) hS hAw go
  · rcases k3 with k3 | k3
    · have hcb := callB_of (R := R) (rm := rmD d') (mc := 0) (ms := 0) n hts (good_T1 o1) rfl rfl rfl (hts _ o2) (hts _ k3) ⟨o4.1, o4.2, o5⟩ hR
      exact m_call (va_runS (As := as.map (cv ad)) (rest := rest.map (cv ad)) ⟨hx, hb, hml, hown, hts⟩ hM ⟨hcb, hts _ k2⟩ ⟨hbl, fun U hU hW => ⟨rfl, hPc U hU hW⟩⟩ rfl (by rw [List.length_map]; exact k1) hl.1 (by simp) hcat hd hf) hS hAw go
    · have hcn := va_cnB (R := R) (rm := rmD d') (mc := 0) (ms := 0) (host := "TentMiddle") n hts (good_T1 o1) rfl rfl rfl (by rw [k3]; exact hN.2) (hts _ o2) ⟨o4.1, o4.2, o5⟩ hR
      exact m_call (va_runSN (As := as.map (cv ad)) (rest := rest.map (cv ad)) ⟨hx, hb, hml, hown, hts⟩ hM ⟨hcn, hts _ k2, trivial⟩ ⟨hbl, fun U hU hW => ⟨rfl, hPc U hU hW⟩⟩ rfl (by rw [List.length_map]; exact k1) hl.1 (by simp) hcat hd hf) hS hAw go
end CALL
section EVC
variable {md : Md} {d pc pc1 : Nat} {L L1 : List (Option MV)} {S S0 : List MV} {σ σ' : St} {r : Option MV} {ρ : Type} {w : ρ} {n a b : Nat} {v0 : Int32} {w0 : Int64}
theorem J.call (T : Tm md) {ins : Instr} {md' : Md} {as rest S1 : List MV} {σ1 : St} {r1 : Option MV} {d' : Nat} (k : Nat) (hr : runP md.2.2.2.2 σ k (suf md.2.2.2.2 pc) L S = some (pc1, L1, S1)) (hi : insAt md.2.2.2.2 pc1 = some (n, ins, a, b, v0, w0)) (hS : S1 = as.reverse ++ rest) (ck : Ck md.1.cls ins md' as) (hrest : Nat.ble (rest.map catM).sum 8 = true) (hd : d' + 1 ≤ d) (hc : Call md' d' as σ r1 σ1) (hnr : ∀ q : CI, r1 ≠ some (.inr (.inr q))) (kk : J md d (pc1 + 3) L1 (r1.toList ++ rest) σ1 r σ') : J md d pc L S σ r σ' := by
  refine J.run T k hr ?_
  subst hS
  have hln : isTs ins = false ∧ lnI ins = 3 := by
    obtain ⟨n, -, ⟨idx, rfl, -⟩ | ⟨idx, rfl, -⟩⟩ := ck <;> exact ⟨rfl, rfl⟩
  obtain ⟨hdc, -⟩ := dec_at T hi hln.1
  rw [hln.2] at hdc
  have hd1 := hd
  have hml : md'.2.2.1 ≤ 45 := by
    obtain ⟨n, ok, -⟩ := ck
    exact ok.2.2.2.2.2
  intro l p e s m args below meth c D kI kA ad A C hret hlk
  refine W_call C hdc ck hc (Nat.le_of_ble_eq_true hrest) ⟨hd1, ?_⟩ ⟨Nat.le_refl _, Nat.le_refl _⟩ hnr (kk l p e s m args below meth c D kI kA ad A C hret hlk)
  show 8 + (md'.2.2.1 + 11) + 64 * d' ≤ 64 * d
  omega
/-- pure, an int -/
theorem J.cpI (T : Tm md) {ins : Instr} {md' : Md} {as rest S1 : List MV} {d' : Nat} {Fc : Option Int32} {kf : Int32 → Option ρ} (k : Nat) (hr : runP md.2.2.2.2 σ k (suf md.2.2.2.2 pc) L S = some (pc1, L1, S1)) (hi : insAt md.2.2.2.2 pc1 = some (n, ins, a, b, v0, w0)) (hS : S1 = as.reverse ++ rest) (ck : Ck md.1.cls ins md' as) (hrest : Nat.ble (rest.map catM).sum 8 = true) (hd : d' + 1 ≤ d) (hc : ∀ v, Fc = some v → Call md' d' as σ (some (mI v)) σ) (hF : Fc.bind kf = some w) (kk : ∀ v, kf v = some w → J md d (pc1 + 3) L1 (mI v :: rest) σ r σ') : J md d pc L S σ r σ' := by
  obtain ⟨v, h1, h2⟩ := bind_v hF
  exact J.call T k hr hi hS ck hrest hd (hc v h1) (fun q => by intro h; cases h) (kk v h2)
theorem J.cpL (T : Tm md) {ins : Instr} {md' : Md} {as rest S1 : List MV} {d' : Nat} {Fc : Option Int64} {kf : Int64 → Option ρ} (k : Nat) (hr : runP md.2.2.2.2 σ k (suf md.2.2.2.2 pc) L S = some (pc1, L1, S1)) (hi : insAt md.2.2.2.2 pc1 = some (n, ins, a, b, v0, w0)) (hS : S1 = as.reverse ++ rest) (ck : Ck md.1.cls ins md' as) (hrest : Nat.ble (rest.map catM).sum 8 = true) (hd : d' + 1 ≤ d) (hc : ∀ v, Fc = some v → Call md' d' as σ (some (mL v)) σ) (hF : Fc.bind kf = some w) (kk : ∀ v, kf v = some w → J md d (pc1 + 3) L1 (mL v :: rest) σ r σ') : J md d pc L S σ r σ' := by
  obtain ⟨v, h1, h2⟩ := bind_v hF
  exact J.call T k hr hi hS ck hrest hd (hc v h1) (fun q => by intro h; cases h) (kk v h2)
/-- an int, and a new state -/
theorem J.csI (T : Tm md) {ins : Instr} {md' : Md} {as rest S1 : List MV} {d' : Nat} {Fc : Option (Int32 × St)} {kf : Int32 → St → Option ρ} (k : Nat) (hr : runP md.2.2.2.2 σ k (suf md.2.2.2.2 pc) L S = some (pc1, L1, S1)) (hi : insAt md.2.2.2.2 pc1 = some (n, ins, a, b, v0, w0)) (hS : S1 = as.reverse ++ rest) (ck : Ck md.1.cls ins md' as) (hrest : Nat.ble (rest.map catM).sum 8 = true) (hd : d' + 1 ≤ d) (hc : ∀ v s1, Fc = some (v, s1) → Call md' d' as σ (some (mI v)) s1) (hF : b2 Fc kf = some w) (kk : ∀ v σ1, kf v σ1 = some w → J md d (pc1 + 3) L1 (mI v :: rest) σ1 r σ') : J md d pc L S σ r σ' := by
  obtain ⟨v, s1, h1, h2⟩ := b2_v hF
  exact J.call T k hr hi hS ck hrest hd (hc v s1 h1) (fun q => by intro h; cases h) (kk v s1 h2)
theorem J.csL (T : Tm md) {ins : Instr} {md' : Md} {as rest S1 : List MV} {d' : Nat} {Fc : Option (Int64 × St)} {kf : Int64 → St → Option ρ} (k : Nat) (hr : runP md.2.2.2.2 σ k (suf md.2.2.2.2 pc) L S = some (pc1, L1, S1)) (hi : insAt md.2.2.2.2 pc1 = some (n, ins, a, b, v0, w0)) (hS : S1 = as.reverse ++ rest) (ck : Ck md.1.cls ins md' as) (hrest : Nat.ble (rest.map catM).sum 8 = true) (hd : d' + 1 ≤ d) (hc : ∀ v s1, Fc = some (v, s1) → Call md' d' as σ (some (mL v)) s1) (hF : b2 Fc kf = some w) (kk : ∀ v σ1, kf v σ1 = some w → J md d (pc1 + 3) L1 (mL v :: rest) σ1 r σ') : J md d pc L S σ r σ' := by
  obtain ⟨v, s1, h1, h2⟩ := b2_v hF
  exact J.call T k hr hi hS ck hrest hd (hc v s1 h1) (fun q => by intro h; cases h) (kk v s1 h2)
/-- nothing, and a new state -/
theorem J.csV (T : Tm md) {ins : Instr} {md' : Md} {as rest S1 : List MV} {d' : Nat} {Fc : Option St} {kf : St → Option ρ} (k : Nat) (hr : runP md.2.2.2.2 σ k (suf md.2.2.2.2 pc) L S = some (pc1, L1, S1)) (hi : insAt md.2.2.2.2 pc1 = some (n, ins, a, b, v0, w0)) (hS : S1 = as.reverse ++ rest) (ck : Ck md.1.cls ins md' as) (hrest : Nat.ble (rest.map catM).sum 8 = true) (hd : d' + 1 ≤ d) (hc : ∀ s1, Fc = some s1 → Call md' d' as σ none s1) (hF : Fc.bind kf = some w) (kk : ∀ σ1, kf σ1 = some w → J md d (pc1 + 3) L1 rest σ1 r σ') : J md d pc L S σ r σ' := by
  obtain ⟨s1, h1, h2⟩ := bind_v hF
  exact J.call T k hr hi hS ck hrest hd (hc s1 h1) (fun q => by intro h; cases h) (kk s1 h2)
/-- pure, nothing -/
theorem J.cpV (T : Tm md) {ins : Instr} {md' : Md} {as rest S1 : List MV} {d' : Nat} {Fc : Option Unit} {kf : Unit → Option ρ} (k : Nat) (hr : runP md.2.2.2.2 σ k (suf md.2.2.2.2 pc) L S = some (pc1, L1, S1)) (hi : insAt md.2.2.2.2 pc1 = some (n, ins, a, b, v0, w0)) (hS : S1 = as.reverse ++ rest) (ck : Ck md.1.cls ins md' as) (hrest : Nat.ble (rest.map catM).sum 8 = true) (hd : d' + 1 ≤ d) (hc : ∀ v, Fc = some v → Call md' d' as σ none σ) (hF : Fc.bind kf = some w) (kk : ∀ v, kf v = some w → J md d (pc1 + 3) L1 rest σ r σ') : J md d pc L S σ r σ' := by
  obtain ⟨s1, h1, h2⟩ := bind_v hF
  exact J.call T k hr hi hS ck hrest hd (hc s1 h1) (fun q => by intro h; cases h) (kk s1 h2)
theorem ckV {own : String} {idx nn : Nat} {md' : Md} {g t ci N : Nat} {as' : List MV} {fk : List Nat} {T : u_T} (hl : Cond.methodLink own idx md'.1 ∈ T1) (hm : MdOk md' nn ∧ Cond.instanceMethod md'.1 ∈ T1 ∧ Cond.selects md'.1.cls md'.1 md'.1 ∈ T1) (hn : as'.length = nn) (ho : objOf g = some (ci, fk)) (hc : mcl[ci]? = some (md'.1.cls, T, N)) : Ck own (.invokevirtual idx) md' (mR g t :: as') :=
  ⟨nn, hm.1, Or.inl ⟨idx, rfl, hl, hm.2.1, hm.2.2, g, t, as', ci, fk, T, N, rfl, hn, ho, hc⟩⟩
theorem ckS {own : String} {idx nn : Nat} {md' : Md} {as : List MV} (hl : Cond.methodLink own idx md'.1 ∈ T1) (hm : MdOk md' nn ∧ Cond.static md'.1 ∈ T1) (hn : as.length = nn) : Ck own (.invokestatic idx) md' as :=
  ⟨nn, hm.1, Or.inr ⟨idx, rfl, hn, hm.2, Or.inl hl⟩⟩
theorem ckN {own : String} {idx nn : Nat} {md' : Md} {as : List MV} (hl : Cond.methodLinkNest own idx md'.1 "TentMiddle" = nwM) (hm : MdOk md' nn ∧ Cond.static md'.1 ∈ T1) (hn : as.length = nn) : Ck own (.invokestatic idx) md' as :=
  ⟨nn, hm.1, Or.inr ⟨idx, rfl, hn, hm.2, Or.inr hl⟩⟩
theorem J.mmin (T : Tm md) {y z : Int32} {idx : Nat} {rest : List MV} (k : Nat) (hr : runP md.2.2.2.2 σ k (suf md.2.2.2.2 pc) L S = some (pc1, L1, mI y :: mI z :: rest)) (hi : insAt md.2.2.2.2 pc1 = some (n, .invokestatic idx, a, b, v0, w0)) (hl : Cond.methodLink md.1.cls idx Lib.Math.min.name ∈ T1) (hrest : Nat.ble (rest.map catM).sum 8 = true) (hd : Nat.ble 1 d = true) (kk : J md d (pc1 + 3) L1 (mI (mmin z y) :: rest) σ r σ') : J md d pc L S σ r σ' := by
  refine J.run T k hr ?_
  obtain ⟨hdc, -⟩ := dec_at T hi rfl
  have hd1 := Nat.le_of_ble_eq_true hd
  have h8 := Nat.le_of_ble_eq_true hrest
  intro l p e s m args below meth c D kI kA ad A C hret hlk H locs ls hP hD hS hl0 hV
  have hts := C.2.2.2.2.1
  refine va_mmin C.1 C.2.1 (by rw [C.2.2.1, hl0.1]) C.2.2.2.1 (hts _ hl) (hts _ minW.1) (hts _ minW.2.1) (hts _ minW.2.2) hd1 ?_ (Nat.le_refl _) (Nat.le_refl _) hdc (kk l p e s m args below meth c D kI kA ad A C hret hlk H locs ls hP hD hS hl0 hV.drop.drop.pI)
  show ((rest.map (cv ad)).map fun v => v.category).sum + 13 ≤ 64 * d
  rw [cat_le]
  omega
theorem J.mmax (T : Tm md) {y z : Int32} {idx : Nat} {rest : List MV} (k : Nat) (hr : runP md.2.2.2.2 σ k (suf md.2.2.2.2 pc) L S = some (pc1, L1, mI y :: mI z :: rest)) (hi : insAt md.2.2.2.2 pc1 = some (n, .invokestatic idx, a, b, v0, w0)) (hl : Cond.methodLink md.1.cls idx Lib.Math.max.name ∈ T1) (hrest : Nat.ble (rest.map catM).sum 8 = true) (hd : Nat.ble 1 d = true) (kk : J md d (pc1 + 3) L1 (mI (mmax z y) :: rest) σ r σ') : J md d pc L S σ r σ' := by
  refine J.run T k hr ?_
  obtain ⟨hdc, -⟩ := dec_at T hi rfl
  have hd1 := Nat.le_of_ble_eq_true hd
  have h8 := Nat.le_of_ble_eq_true hrest
  intro l p e s m args below meth c D kI kA ad A C hret hlk H locs ls hP hD hS hl0 hV
  have hts := C.2.2.2.2.1
  refine va_mmax C.1 C.2.1 (by rw [C.2.2.1, hl0.1]) C.2.2.2.1 (hts _ hl) (hts _ maxW.1) (hts _ maxW.2.1) (hts _ maxW.2.2) hd1 ?_ (Nat.le_refl _) (Nat.le_refl _) hdc (kk l p e s m args below meth c D kI kA ad A C hret hlk H locs ls hP hD hS hl0 hV.drop.drop.pI)
  show ((rest.map (cv ad)).map fun v => v.category).sum + 13 ≤ 64 * d
  rw [cat_le]
  omega
theorem J.acp (T : Tm md) {g t g' t' idx : Nat} {sp dp nn : Int32} {rest : List MV} {kf : St → Option ρ} (k : Nat) (hr : runP md.2.2.2.2 σ k (suf md.2.2.2.2 pc) L S = some (pc1, L1, mI nn :: mI dp :: mA g' t' :: mI sp :: mA g t :: rest)) (hi : insAt md.2.2.2.2 pc1 = some (n, .invokestatic idx, a, b, v0, w0)) (hl : Cond.methodLink md.1.cls idx arraycopyName ∈ T1) (hrest : Nat.ble (rest.map catM).sum 8 = true) (hd : Nat.ble 1 d = true) (hF : (acp σ g t sp g' t' dp nn).bind kf = some w) (kk : ∀ σ1, kf σ1 = some w → J md d (pc1 + 3) L1 rest σ1 r σ') : J md d pc L S σ r σ' := by
  refine J.run T k hr ?_
  obtain ⟨hdc, -⟩ := dec_at T hi rfl
  have hd1 := Nat.le_of_ble_eq_true hd
  have h8 := Nat.le_of_ble_eq_true hrest
  obtain ⟨σ1, h1, h2⟩ := bind_v hF
  obtain ⟨h3, rfl⟩ := if_v h1
  obtain ⟨c1, h3⟩ := Bool.and_eq_true_iff.mp h3
  obtain ⟨c2, h3⟩ := Bool.and_eq_true_iff.mp h3
  obtain ⟨c3, h3⟩ := Bool.and_eq_true_iff.mp h3
  obtain ⟨c4, c5⟩ := Bool.and_eq_true_iff.mp h3
  have c1 : ¬ sp < 0 := by simpa using c1
  have c2 : ¬ dp < 0 := by simpa using c2
  have c3 : ¬ nn < 0 := by simpa using c3
  intro l p e s m args below meth c D kI kA ad A C hret hlk H locs ls hP hD hS hl0 hV
  have hts := C.2.2.2.2.1
  obtain ⟨q0, hq0⟩ := List.getElem?_of_mem hV.drop.drop.drop.drop.top
  obtain ⟨q1, hq1⟩ := List.getElem?_of_mem hV.drop.drop.top
  have hset : (wsO ad kI kA σ).set q1 (ad (.inr (g', t')), .inl (kI, lenOf g' t', .inl (va_cpy (σ.1 g t) (σ.1 g' t') sp.toNatClampNeg dp.toNatClampNeg nn.toNatClampNeg))) = wsO ad kI kA (sa σ g' t' (va_cpy (σ.1 g t) (σ.1 g' t') sp.toNatClampNeg dp.toNatClampNeg nn.toNatClampNeg)) := ws_set hq1 (fun q h => ent_sa_ne q h) (by rw [ent_sa_arr])
  refine va_copyi C.1 C.2.1 (by rw [C.2.2.1, hl0.1]) C.2.2.2.1 (hts _ hl) (hts _ cpyW.1) (hts _ cpyW.2.1) (hts _ cpyW.2.2) C.2.2.2.2.2.1 hP hD hS q0 q1 0 0 (ws_get hq0) (ws_get hq1) rfl rfl rfl c1 c2 c3 (of_decide_eq_true c4) (of_decide_eq_true c5) (fun i _ => rfl) hd1 ?_ hdc (fun H1 locs1 hP hD hS => ?_)
  · show ((rest.map (cv ad)).map fun v => v.category).sum + _ ≤ 64 * d
    rw [cat_le]
    have : nativeFrameWords "java/lang/System" "arraycopy" 5 + 11 ≤ 40 := by decide
    omega
  · rw [hset] at hP hD
    exact kk _ h2 l p e s m args below meth c D kI kA ad A C hret hlk H1 locs1 ls hP hD hS hl0 hV.drop.drop.drop.drop.drop
end EVC
def lmask : List Bool → List (Option MV) → List (Option MV)
  | b :: m, x :: L => (bif b then x else none) :: lmask m L
  | _, _ => []
theorem lgt_mask : ∀ (mk : List Bool) (L : List (Option MV)) (j : Nat) (u : MV), lgt (lmask mk L) j = some u → lgt L j = some u
  | [], _, _, _, h => by simp only [lmask] at h; cases h
  | _ :: _, [], _, _, h => by simp only [lmask] at h; cases h
  | true :: _, _ :: _, 0, _, h => h
  | false :: _, _ :: _, 0, _, h => by cases h
  | _ :: m, _ :: L, j + 1, u, h => lgt_mask m L j u h
theorem mask_len : ∀ (mk : List Bool) (L : List (Option MV)), (lmask mk L).length ≤ L.length
  | [], _ => by simp only [lmask, List.length_nil]; exact Nat.zero_le _
  | _ :: _, [] => Nat.le_refl _
  | _ :: m, _ :: L => Nat.succ_le_succ (mask_len m L)
theorem Wm.fgt {p : Program} {l : Launch} {e : Env} {R : Room} {s : State} {m : MethodId} {args : Array Value} {below : List Frame} {meth : Method} {c : Code} {nc ns : Nat} {Q : State → Prop} {D : va_G} {kI kA : ClassId} {ad : CI → Nat} {A : Nat → Prop} {nL pc : Nat} {L : List (Option MV)} {S : List MV} {σ : St} (mk : List Bool) (h : Wm p l e R s m args below meth c nc ns Q D kI kA ad A nL pc (lmask mk L) S σ) : Wm p l e R s m args below meth c nc ns Q D kI kA ad A nL pc L S σ := by
  intro H locs ls hP hD hS hl hV
  refine h H locs ls hP hD hS ⟨hl.1, hl.2.1, fun q hq => ?_⟩ ⟨Nat.le_trans (mask_len mk L) hV.1, fun i r hi => hV.2.1 i r (lgt_mask mk L i _ hi), hV.2.2⟩
  obtain ⟨j, u, h1, rfl⟩ := mem_cLf hq
  rw [Nat.zero_add]
  exact cL_at hl (lgt_mask mk L j u h1)
theorem J.fgt {md : Md} {d pc : Nat} {L : List (Option MV)} {S : List MV} {σ σ' : St} {r : Option MV} (mk : List Bool) (h : J md d pc (lmask mk L) S σ r σ') : J md d pc L S σ r σ' :=
  fun l p e s m args below meth c D kI kA ad A C hret hlk => Wm.fgt mk (h l p e s m args below meth c D kI kA ad A C hret hlk)
theorem no_s {α : Type} {w : α} {P : Prop} (h : (none : Option α) = some w) : P := by cases h
-- tables, checked by program
def ownS (o : Nat) : String := ["TentMiddle$Camp", "TentMiddle$Orders", "TentMiddle$Plan", "TentMiddle$Reader", "TentMiddle$Shelf", "TentMiddle", "TentMiddleModel", "TentMiddleLaw", "java/lang/Integer", "java/lang/Math", "java/util/Arrays"].getD o ""
end
section
def cstTab : List (Nat × Nat × Int32) := [(8, 265, 1431655765), (8, 266, 858993459), (8, 267, 252645135), (5, 307, 2147483647)]
def cslTab : List (Nat × Nat × Int64) := [(1, 36, 48271), (1, 38, 2147483647), (5, 323, 17), (5, 325, 31), (4, 58, 31), (6, 72, 5), (6, 78, 3), (6, 119, 48), (6, 222, 255), (6, 233, 2), (6, 238, 7), (6, 276, 12), (6, 285, 2147483646), (6, 287, 48271), (6, 289, 2147483647), (6, 294, 8), (6, 299, 17), (6, 301, 31)]
def fldTab : List (Nat × Nat × Nat × Nat) := [(4, 7, 4, 0), (4, 13, 4, 1), (4, 17, 4, 2), (0, 11, 0, 0), (3, 70, 0, 0), (0, 15, 0, 1), (5, 139, 0, 1), (0, 18, 0, 2), (5, 242, 0, 2), (0, 21, 0, 3), (5, 183, 0, 3), (0, 24, 0, 4), (5, 173, 0, 4), (0, 27, 0, 5), (5, 292, 0, 5), (0, 30, 0, 6), (0, 33, 0, 7), (0, 36, 0, 8), (0, 39, 0, 9), (0, 42, 0, 10), (5, 130, 0, 10), (0, 46, 0, 11), (5, 167, 0, 11), (0, 49, 0, 12), (5, 170, 0, 12), (0, 52, 0, 13), (5, 159, 0, 13), (0, 55, 0, 14), (5, 203, 0, 14), (0, 58, 0, 15), (5, 212, 0, 15), (0, 61, 0, 16), (5, 206, 0, 16), (3, 14, 3, 0), (5, 122, 3, 0), (3, 20, 3, 1), (3, 61, 3, 2), (3, 35, 3, 3), (1, 9, 1, 0), (5, 196, 1, 0), (1, 21, 1, 1), (2, 9, 2, 0), (2, 15, 2, 1), (2, 18, 2, 2), (2, 21, 2, 3), (2, 24, 2, 4), (2, 27, 2, 5), (2, 62, 2, 6), (2, 40, 2, 7), (2, 36, 2, 8), (5, 14, 5, 0), (5, 18, 5, 1), (5, 26, 5, 2), (5, 30, 5, 3), (5, 34, 5, 4), (5, 40, 5, 5), (5, 47, 5, 6), (5, 54, 5, 7), (5, 58, 5, 8), (5, 320, 5, 9), (5, 78, 5, 10), (5, 311, 5, 11), (5, 62, 5, 12), (6, 7, 6, 0), (6, 143, 6, 1), (6, 13, 6, 2), (6, 16, 6, 3), (6, 19, 6, 4), (6, 22, 6, 5), (6, 25, 6, 6), (6, 28, 6, 7), (6, 31, 6, 8), (6, 69, 6, 9), (6, 282, 6, 10), (6, 34, 6, 11), (6, 66, 6, 12), (6, 38, 6, 13), (6, 106, 6, 14), (6, 109, 6, 15), (6, 112, 6, 16), (6, 41, 6, 17), (6, 44, 6, 18), (6, 130, 6, 19), (6, 47, 6, 20), (6, 50, 6, 21), (6, 146, 6, 22), (6, 149, 6, 23), (6, 53, 6, 24), (6, 57, 6, 25), (6, 152, 6, 26), (6, 60, 6, 27), (6, 63, 6, 28), (5, 334, 4, 0)]
set_option maxRecDepth 100000 in
theorem cst_0 : Cond.constant (ownS 8) 265 1431655765 ∈ T1 := T1_in2 (i := 206) rfl rfl
set_option maxRecDepth 100000 in
theorem cst_1 : Cond.constant (ownS 8) 266 858993459 ∈ T1 := T1_in2 (i := 207) rfl rfl
set_option maxRecDepth 100000 in
theorem cst_2 : Cond.constant (ownS 8) 267 252645135 ∈ T1 := T1_in2 (i := 208) rfl rfl
set_option maxRecDepth 100000 in
theorem cst_3 : Cond.constant (ownS 5) 307 2147483647 ∈ T1 := T1_in4 (i := 66) rfl rfl
theorem cst_ok : ∀ q ∈ cstTab, Cond.constant (ownS q.1) q.2.1 q.2.2 ∈ T1 := List.forall_mem_cons.mpr ⟨cst_0, List.forall_mem_cons.mpr ⟨cst_1, List.forall_mem_cons.mpr ⟨cst_2, List.forall_mem_cons.mpr ⟨cst_3, fun _ h => absurd h List.not_mem_nil⟩⟩⟩⟩
set_option maxRecDepth 100000 in
theorem csl_0 : Cond.constantLong (ownS 1) 36 48271 ∈ T1 := T1_in4 (i := 71) rfl rfl
set_option maxRecDepth 100000 in
theorem csl_1 : Cond.constantLong (ownS 1) 38 2147483647 ∈ T1 := T1_in4 (i := 72) rfl rfl
set_option maxRecDepth 100000 in
theorem csl_2 : Cond.constantLong (ownS 5) 323 17 ∈ T1 := T1_in4 (i := 110) rfl rfl
set_option maxRecDepth 100000 in
theorem csl_3 : Cond.constantLong (ownS 5) 325 31 ∈ T1 := T1_in4 (i := 111) rfl rfl
set_option maxRecDepth 100000 in
theorem csl_4 : Cond.constantLong (ownS 4) 58 31 ∈ T1 := T1_in4 (i := 117) rfl rfl
set_option maxRecDepth 100000 in
theorem csl_5 : Cond.constantLong (ownS 6) 72 5 ∈ T1 := T1_in4 (i := 219) rfl rfl
set_option maxRecDepth 100000 in
theorem csl_6 : Cond.constantLong (ownS 6) 78 3 ∈ T1 := T1_in5 (i := 30) rfl rfl
set_option maxRecDepth 100000 in
theorem csl_7 : Cond.constantLong (ownS 6) 119 48 ∈ T1 := T1_in5 (i := 59) rfl rfl
set_option maxRecDepth 100000 in
theorem csl_8 : Cond.constantLong (ownS 6) 222 255 ∈ T1 := T1_in5 (i := 149) rfl rfl
set_option maxRecDepth 100000 in
theorem csl_9 : Cond.constantLong (ownS 6) 233 2 ∈ T1 := T1_in5 (i := 217) rfl rfl
set_option maxRecDepth 100000 in
theorem csl_10 : Cond.constantLong (ownS 6) 238 7 ∈ T1 := T1_in5 (i := 233) rfl rfl
set_option maxRecDepth 100000 in
theorem csl_11 : Cond.constantLong (ownS 6) 276 12 ∈ T1 := T1_in6 (i := 106) rfl rfl
set_option maxRecDepth 100000 in
theorem csl_12 : Cond.constantLong (ownS 6) 285 2147483646 ∈ T1 := T1_in6 (i := 114) rfl rfl
set_option maxRecDepth 100000 in
theorem csl_13 : Cond.constantLong (ownS 6) 287 48271 ∈ T1 := T1_in6 (i := 115) rfl rfl
set_option maxRecDepth 100000 in
theorem csl_14 : Cond.constantLong (ownS 6) 289 2147483647 ∈ T1 := T1_in6 (i := 116) rfl rfl
set_option maxRecDepth 100000 in
theorem csl_15 : Cond.constantLong (ownS 6) 294 8 ∈ T1 := T1_in6 (i := 133) rfl rfl
set_option maxRecDepth 100000 in
theorem csl_16 : Cond.constantLong (ownS 6) 299 17 ∈ T1 := T1_in6 (i := 154) rfl rfl
set_option maxRecDepth 100000 in
theorem csl_17 : Cond.constantLong (ownS 6) 301 31 ∈ T1 := T1_in6 (i := 155) rfl rfl
theorem csl_ok : ∀ q ∈ cslTab, Cond.constantLong (ownS q.1) q.2.1 q.2.2 ∈ T1 := List.forall_mem_cons.mpr ⟨csl_0, List.forall_mem_cons.mpr ⟨csl_1, List.forall_mem_cons.mpr ⟨csl_2, List.forall_mem_cons.mpr ⟨csl_3, List.forall_mem_cons.mpr ⟨csl_4, List.forall_mem_cons.mpr ⟨csl_5, List.forall_mem_cons.mpr ⟨csl_6, List.forall_mem_cons.mpr ⟨csl_7, List.forall_mem_cons.mpr ⟨csl_8, List.forall_mem_cons.mpr ⟨csl_9, List.forall_mem_cons.mpr ⟨csl_10, List.forall_mem_cons.mpr ⟨csl_11, List.forall_mem_cons.mpr ⟨csl_12, List.forall_mem_cons.mpr ⟨csl_13, List.forall_mem_cons.mpr ⟨csl_14, List.forall_mem_cons.mpr ⟨csl_15, List.forall_mem_cons.mpr ⟨csl_16, List.forall_mem_cons.mpr ⟨csl_17, fun _ h => absurd h List.not_mem_nil⟩⟩⟩⟩⟩⟩⟩⟩⟩⟩⟩⟩⟩⟩⟩⟩⟩⟩
set_option maxRecDepth 100000 in
theorem fld_0 : fldW (ownS 4) 7 4 0 := ⟨RX4, TX4, 3, rfl, by decide, rfl, iX4, Or.inl (T1_in1 (i := 29) rfl rfl)⟩
set_option maxRecDepth 100000 in
theorem fld_1 : fldW (ownS 4) 13 4 1 := ⟨RX4, TX4, 3, rfl, by decide, rfl, iX4, Or.inl (T1_in1 (i := 31) rfl rfl)⟩
set_option maxRecDepth 100000 in
theorem fld_2 : fldW (ownS 4) 17 4 2 := ⟨RX4, TX4, 3, rfl, by decide, rfl, iX4, Or.inl (T1_in1 (i := 32) rfl rfl)⟩
set_option maxRecDepth 100000 in
theorem fld_3 : fldW (ownS 0) 11 0 0 := ⟨RX0, TX0, 17, rfl, by decide, rfl, iX0, Or.inl (T1_in1 (i := 47) rfl rfl)⟩
set_option maxRecDepth 100000 in
theorem fld_4 : fldW (ownS 3) 70 0 0 := ⟨RX0, TX0, 17, rfl, by decide, rfl, iX0, Or.inl (T1_in1 (i := 48) rfl rfl)⟩
set_option maxRecDepth 100000 in
theorem fld_5 : fldW (ownS 0) 15 0 1 := ⟨RX0, TX0, 17, rfl, by decide, rfl, iX0, Or.inl (T1_in1 (i := 49) rfl rfl)⟩
set_option maxRecDepth 100000 in
theorem fld_6 : fldW (ownS 5) 139 0 1 := ⟨RX0, TX0, 17, rfl, by decide, rfl, iX0, Or.inl (T1_in1 (i := 50) rfl rfl)⟩
set_option maxRecDepth 100000 in
theorem fld_7 : fldW (ownS 0) 18 0 2 := ⟨RX0, TX0, 17, rfl, by decide, rfl, iX0, Or.inl (T1_in1 (i := 51) rfl rfl)⟩
set_option maxRecDepth 100000 in
theorem fld_8 : fldW (ownS 5) 242 0 2 := ⟨RX0, TX0, 17, rfl, by decide, rfl, iX0, Or.inl (T1_in1 (i := 52) rfl rfl)⟩
set_option maxRecDepth 100000 in
theorem fld_9 : fldW (ownS 0) 21 0 3 := ⟨RX0, TX0, 17, rfl, by decide, rfl, iX0, Or.inl (T1_in1 (i := 53) rfl rfl)⟩
set_option maxRecDepth 100000 in
theorem fld_10 : fldW (ownS 5) 183 0 3 := ⟨RX0, TX0, 17, rfl, by decide, rfl, iX0, Or.inl (T1_in1 (i := 54) rfl rfl)⟩
set_option maxRecDepth 100000 in
theorem fld_11 : fldW (ownS 0) 24 0 4 := ⟨RX0, TX0, 17, rfl, by decide, rfl, iX0, Or.inl (T1_in1 (i := 55) rfl rfl)⟩
set_option maxRecDepth 100000 in
theorem fld_12 : fldW (ownS 5) 173 0 4 := ⟨RX0, TX0, 17, rfl, by decide, rfl, iX0, Or.inl (T1_in1 (i := 56) rfl rfl)⟩
set_option maxRecDepth 100000 in
theorem fld_13 : fldW (ownS 0) 27 0 5 := ⟨RX0, TX0, 17, rfl, by decide, rfl, iX0, Or.inl (T1_in1 (i := 57) rfl rfl)⟩
set_option maxRecDepth 100000 in
theorem fld_14 : fldW (ownS 5) 292 0 5 := ⟨RX0, TX0, 17, rfl, by decide, rfl, iX0, Or.inl (T1_in1 (i := 58) rfl rfl)⟩
set_option maxRecDepth 100000 in
theorem fld_15 : fldW (ownS 0) 30 0 6 := ⟨RX0, TX0, 17, rfl, by decide, rfl, iX0, Or.inl (T1_in1 (i := 59) rfl rfl)⟩
set_option maxRecDepth 100000 in
theorem fld_16 : fldW (ownS 0) 33 0 7 := ⟨RX0, TX0, 17, rfl, by decide, rfl, iX0, Or.inl (T1_in1 (i := 60) rfl rfl)⟩
set_option maxRecDepth 100000 in
theorem fld_17 : fldW (ownS 0) 36 0 8 := ⟨RX0, TX0, 17, rfl, by decide, rfl, iX0, Or.inl (T1_in1 (i := 61) rfl rfl)⟩
set_option maxRecDepth 100000 in
theorem fld_18 : fldW (ownS 0) 39 0 9 := ⟨RX0, TX0, 17, rfl, by decide, rfl, iX0, Or.inl (T1_in1 (i := 62) rfl rfl)⟩
set_option maxRecDepth 100000 in
theorem fld_19 : fldW (ownS 0) 42 0 10 := ⟨RX0, TX0, 17, rfl, by decide, rfl, iX0, Or.inl (T1_in1 (i := 63) rfl rfl)⟩
set_option maxRecDepth 100000 in
theorem fld_20 : fldW (ownS 5) 130 0 10 := ⟨RX0, TX0, 17, rfl, by decide, rfl, iX0, Or.inl (T1_in1 (i := 64) rfl rfl)⟩
set_option maxRecDepth 100000 in
theorem fld_21 : fldW (ownS 0) 46 0 11 := ⟨RX0, TX0, 17, rfl, by decide, rfl, iX0, Or.inl (T1_in1 (i := 65) rfl rfl)⟩
set_option maxRecDepth 100000 in
theorem fld_22 : fldW (ownS 5) 167 0 11 := ⟨RX0, TX0, 17, rfl, by decide, rfl, iX0, Or.inl (T1_in1 (i := 66) rfl rfl)⟩
set_option maxRecDepth 100000 in
theorem fld_23 : fldW (ownS 0) 49 0 12 := ⟨RX0, TX0, 17, rfl, by decide, rfl, iX0, Or.inl (T1_in1 (i := 67) rfl rfl)⟩
set_option maxRecDepth 100000 in
theorem fld_24 : fldW (ownS 5) 170 0 12 := ⟨RX0, TX0, 17, rfl, by decide, rfl, iX0, Or.inl (T1_in1 (i := 68) rfl rfl)⟩
set_option maxRecDepth 100000 in
theorem fld_25 : fldW (ownS 0) 52 0 13 := ⟨RX0, TX0, 17, rfl, by decide, rfl, iX0, Or.inl (T1_in1 (i := 69) rfl rfl)⟩
set_option maxRecDepth 100000 in
theorem fld_26 : fldW (ownS 5) 159 0 13 := ⟨RX0, TX0, 17, rfl, by decide, rfl, iX0, Or.inl (T1_in1 (i := 70) rfl rfl)⟩
set_option maxRecDepth 100000 in
theorem fld_27 : fldW (ownS 0) 55 0 14 := ⟨RX0, TX0, 17, rfl, by decide, rfl, iX0, Or.inl (T1_in1 (i := 71) rfl rfl)⟩
set_option maxRecDepth 100000 in
theorem fld_28 : fldW (ownS 5) 203 0 14 := ⟨RX0, TX0, 17, rfl, by decide, rfl, iX0, Or.inl (T1_in1 (i := 72) rfl rfl)⟩
set_option maxRecDepth 100000 in
theorem fld_29 : fldW (ownS 0) 58 0 15 := ⟨RX0, TX0, 17, rfl, by decide, rfl, iX0, Or.inl (T1_in1 (i := 73) rfl rfl)⟩
set_option maxRecDepth 100000 in
theorem fld_30 : fldW (ownS 5) 212 0 15 := ⟨RX0, TX0, 17, rfl, by decide, rfl, iX0, Or.inl (T1_in1 (i := 74) rfl rfl)⟩
set_option maxRecDepth 100000 in
theorem fld_31 : fldW (ownS 0) 61 0 16 := ⟨RX0, TX0, 17, rfl, by decide, rfl, iX0, Or.inl (T1_in1 (i := 75) rfl rfl)⟩
set_option maxRecDepth 100000 in
theorem fld_32 : fldW (ownS 5) 206 0 16 := ⟨RX0, TX0, 17, rfl, by decide, rfl, iX0, Or.inl (T1_in1 (i := 76) rfl rfl)⟩
set_option maxRecDepth 100000 in
theorem fld_33 : fldW (ownS 3) 14 3 0 := ⟨RX3, TX3, 4, rfl, by decide, rfl, iX3, Or.inl (T1_in1 (i := 121) rfl rfl)⟩
set_option maxRecDepth 100000 in
theorem fld_34 : fldW (ownS 5) 122 3 0 := ⟨RX3, TX3, 4, rfl, by decide, rfl, iX3, Or.inl (T1_in1 (i := 122) rfl rfl)⟩
set_option maxRecDepth 100000 in
theorem fld_35 : fldW (ownS 3) 20 3 1 := ⟨RX3, TX3, 4, rfl, by decide, rfl, iX3, Or.inl (T1_in1 (i := 123) rfl rfl)⟩
set_option maxRecDepth 100000 in
theorem fld_36 : fldW (ownS 3) 61 3 2 := ⟨RX3, TX3, 4, rfl, by decide, rfl, iX3, Or.inl (T1_in1 (i := 124) rfl rfl)⟩
set_option maxRecDepth 100000 in
theorem fld_37 : fldW (ownS 3) 35 3 3 := ⟨RX3, TX3, 4, rfl, by decide, rfl, iX3, Or.inl (T1_in1 (i := 125) rfl rfl)⟩
set_option maxRecDepth 100000 in
theorem fld_38 : fldW (ownS 1) 9 1 0 := ⟨RX1, TX1, 2, rfl, by decide, rfl, iX1, Or.inl (T1_in1 (i := 141) rfl rfl)⟩
set_option maxRecDepth 100000 in
theorem fld_39 : fldW (ownS 5) 196 1 0 := ⟨RX1, TX1, 2, rfl, by decide, rfl, iX1, Or.inl (T1_in1 (i := 142) rfl rfl)⟩
set_option maxRecDepth 100000 in
theorem fld_40 : fldW (ownS 1) 21 1 1 := ⟨RX1, TX1, 2, rfl, by decide, rfl, iX1, Or.inl (T1_in1 (i := 143) rfl rfl)⟩
set_option maxRecDepth 100000 in
theorem fld_41 : fldW (ownS 2) 9 2 0 := ⟨RX2, TX2, 9, rfl, by decide, rfl, iX2, Or.inl (T1_in1 (i := 155) rfl rfl)⟩
set_option maxRecDepth 100000 in
theorem fld_42 : fldW (ownS 2) 15 2 1 := ⟨RX2, TX2, 9, rfl, by decide, rfl, iX2, Or.inl (T1_in1 (i := 156) rfl rfl)⟩
set_option maxRecDepth 100000 in
theorem fld_43 : fldW (ownS 2) 18 2 2 := ⟨RX2, TX2, 9, rfl, by decide, rfl, iX2, Or.inl (T1_in1 (i := 157) rfl rfl)⟩
set_option maxRecDepth 100000 in
theorem fld_44 : fldW (ownS 2) 21 2 3 := ⟨RX2, TX2, 9, rfl, by decide, rfl, iX2, Or.inl (T1_in1 (i := 158) rfl rfl)⟩
set_option maxRecDepth 100000 in
theorem fld_45 : fldW (ownS 2) 24 2 4 := ⟨RX2, TX2, 9, rfl, by decide, rfl, iX2, Or.inl (T1_in1 (i := 159) rfl rfl)⟩
set_option maxRecDepth 100000 in
theorem fld_46 : fldW (ownS 2) 27 2 5 := ⟨RX2, TX2, 9, rfl, by decide, rfl, iX2, Or.inl (T1_in1 (i := 160) rfl rfl)⟩
set_option maxRecDepth 100000 in
theorem fld_47 : fldW (ownS 2) 62 2 6 := ⟨RX2, TX2, 9, rfl, by decide, rfl, iX2, Or.inl (T1_in1 (i := 161) rfl rfl)⟩
set_option maxRecDepth 100000 in
theorem fld_48 : fldW (ownS 2) 40 2 7 := ⟨RX2, TX2, 9, rfl, by decide, rfl, iX2, Or.inl (T1_in1 (i := 162) rfl rfl)⟩
set_option maxRecDepth 100000 in
theorem fld_49 : fldW (ownS 2) 36 2 8 := ⟨RX2, TX2, 9, rfl, by decide, rfl, iX2, Or.inl (T1_in1 (i := 163) rfl rfl)⟩
set_option maxRecDepth 100000 in
theorem fld_50 : fldW (ownS 5) 14 5 0 := ⟨RX5, TX5, 13, rfl, by decide, rfl, iX5, Or.inl (T1_in1 (i := 183) rfl rfl)⟩
set_option maxRecDepth 100000 in
theorem fld_51 : fldW (ownS 5) 18 5 1 := ⟨RX5, TX5, 13, rfl, by decide, rfl, iX5, Or.inl (T1_in1 (i := 184) rfl rfl)⟩
set_option maxRecDepth 100000 in
theorem fld_52 : fldW (ownS 5) 26 5 2 := ⟨RX5, TX5, 13, rfl, by decide, rfl, iX5, Or.inl (T1_in1 (i := 185) rfl rfl)⟩
set_option maxRecDepth 100000 in
theorem fld_53 : fldW (ownS 5) 30 5 3 := ⟨RX5, TX5, 13, rfl, by decide, rfl, iX5, Or.inl (T1_in1 (i := 186) rfl rfl)⟩
set_option maxRecDepth 100000 in
theorem fld_54 : fldW (ownS 5) 34 5 4 := ⟨RX5, TX5, 13, rfl, by decide, rfl, iX5, Or.inl (T1_in1 (i := 187) rfl rfl)⟩
set_option maxRecDepth 100000 in
theorem fld_55 : fldW (ownS 5) 40 5 5 := ⟨RX5, TX5, 13, rfl, by decide, rfl, iX5, Or.inl (T1_in1 (i := 188) rfl rfl)⟩
set_option maxRecDepth 100000 in
theorem fld_56 : fldW (ownS 5) 47 5 6 := ⟨RX5, TX5, 13, rfl, by decide, rfl, iX5, Or.inl (T1_in1 (i := 189) rfl rfl)⟩
set_option maxRecDepth 100000 in
theorem fld_57 : fldW (ownS 5) 54 5 7 := ⟨RX5, TX5, 13, rfl, by decide, rfl, iX5, Or.inl (T1_in1 (i := 190) rfl rfl)⟩
set_option maxRecDepth 100000 in
theorem fld_58 : fldW (ownS 5) 58 5 8 := ⟨RX5, TX5, 13, rfl, by decide, rfl, iX5, Or.inl (T1_in1 (i := 191) rfl rfl)⟩
set_option maxRecDepth 100000 in
theorem fld_59 : fldW (ownS 5) 320 5 9 := ⟨RX5, TX5, 13, rfl, by decide, rfl, iX5, Or.inl (T1_in1 (i := 192) rfl rfl)⟩
set_option maxRecDepth 100000 in
theorem fld_60 : fldW (ownS 5) 78 5 10 := ⟨RX5, TX5, 13, rfl, by decide, rfl, iX5, Or.inl (T1_in1 (i := 193) rfl rfl)⟩
set_option maxRecDepth 100000 in
theorem fld_61 : fldW (ownS 5) 311 5 11 := ⟨RX5, TX5, 13, rfl, by decide, rfl, iX5, Or.inl (T1_in1 (i := 194) rfl rfl)⟩
set_option maxRecDepth 100000 in
theorem fld_62 : fldW (ownS 5) 62 5 12 := ⟨RX5, TX5, 13, rfl, by decide, rfl, iX5, Or.inl (T1_in1 (i := 195) rfl rfl)⟩
set_option maxRecDepth 100000 in
theorem fld_63 : fldW (ownS 6) 7 6 0 := ⟨RX6, TX6, 29, rfl, by decide, rfl, iX6, Or.inl (T1_in4 (i := 124) rfl rfl)⟩
set_option maxRecDepth 100000 in
theorem fld_64 : fldW (ownS 6) 143 6 1 := ⟨RX6, TX6, 29, rfl, by decide, rfl, iX6, Or.inl (T1_in4 (i := 125) rfl rfl)⟩
set_option maxRecDepth 100000 in
theorem fld_65 : fldW (ownS 6) 13 6 2 := ⟨RX6, TX6, 29, rfl, by decide, rfl, iX6, Or.inl (T1_in4 (i := 126) rfl rfl)⟩
set_option maxRecDepth 100000 in
theorem fld_66 : fldW (ownS 6) 16 6 3 := ⟨RX6, TX6, 29, rfl, by decide, rfl, iX6, Or.inl (T1_in4 (i := 127) rfl rfl)⟩
set_option maxRecDepth 100000 in
theorem fld_67 : fldW (ownS 6) 19 6 4 := ⟨RX6, TX6, 29, rfl, by decide, rfl, iX6, Or.inl (T1_in4 (i := 128) rfl rfl)⟩
set_option maxRecDepth 100000 in
theorem fld_68 : fldW (ownS 6) 22 6 5 := ⟨RX6, TX6, 29, rfl, by decide, rfl, iX6, Or.inl (T1_in4 (i := 129) rfl rfl)⟩
set_option maxRecDepth 100000 in
theorem fld_69 : fldW (ownS 6) 25 6 6 := ⟨RX6, TX6, 29, rfl, by decide, rfl, iX6, Or.inl (T1_in4 (i := 130) rfl rfl)⟩
set_option maxRecDepth 100000 in
theorem fld_70 : fldW (ownS 6) 28 6 7 := ⟨RX6, TX6, 29, rfl, by decide, rfl, iX6, Or.inl (T1_in4 (i := 131) rfl rfl)⟩
set_option maxRecDepth 100000 in
theorem fld_71 : fldW (ownS 6) 31 6 8 := ⟨RX6, TX6, 29, rfl, by decide, rfl, iX6, Or.inl (T1_in4 (i := 132) rfl rfl)⟩
set_option maxRecDepth 100000 in
theorem fld_72 : fldW (ownS 6) 69 6 9 := ⟨RX6, TX6, 29, rfl, by decide, rfl, iX6, Or.inl (T1_in4 (i := 133) rfl rfl)⟩
set_option maxRecDepth 100000 in
theorem fld_73 : fldW (ownS 6) 282 6 10 := ⟨RX6, TX6, 29, rfl, by decide, rfl, iX6, Or.inl (T1_in4 (i := 134) rfl rfl)⟩
set_option maxRecDepth 100000 in
theorem fld_74 : fldW (ownS 6) 34 6 11 := ⟨RX6, TX6, 29, rfl, by decide, rfl, iX6, Or.inl (T1_in4 (i := 135) rfl rfl)⟩
set_option maxRecDepth 100000 in
theorem fld_75 : fldW (ownS 6) 66 6 12 := ⟨RX6, TX6, 29, rfl, by decide, rfl, iX6, Or.inl (T1_in4 (i := 136) rfl rfl)⟩
set_option maxRecDepth 100000 in
theorem fld_76 : fldW (ownS 6) 38 6 13 := ⟨RX6, TX6, 29, rfl, by decide, rfl, iX6, Or.inl (T1_in4 (i := 137) rfl rfl)⟩
set_option maxRecDepth 100000 in
theorem fld_77 : fldW (ownS 6) 106 6 14 := ⟨RX6, TX6, 29, rfl, by decide, rfl, iX6, Or.inl (T1_in4 (i := 138) rfl rfl)⟩
set_option maxRecDepth 100000 in
theorem fld_78 : fldW (ownS 6) 109 6 15 := ⟨RX6, TX6, 29, rfl, by decide, rfl, iX6, Or.inl (T1_in4 (i := 139) rfl rfl)⟩
set_option maxRecDepth 100000 in
theorem fld_79 : fldW (ownS 6) 112 6 16 := ⟨RX6, TX6, 29, rfl, by decide, rfl, iX6, Or.inl (T1_in4 (i := 140) rfl rfl)⟩
set_option maxRecDepth 100000 in
theorem fld_80 : fldW (ownS 6) 41 6 17 := ⟨RX6, TX6, 29, rfl, by decide, rfl, iX6, Or.inl (T1_in4 (i := 141) rfl rfl)⟩
set_option maxRecDepth 100000 in
theorem fld_81 : fldW (ownS 6) 44 6 18 := ⟨RX6, TX6, 29, rfl, by decide, rfl, iX6, Or.inl (T1_in4 (i := 142) rfl rfl)⟩
set_option maxRecDepth 100000 in
theorem fld_82 : fldW (ownS 6) 130 6 19 := ⟨RX6, TX6, 29, rfl, by decide, rfl, iX6, Or.inl (T1_in4 (i := 143) rfl rfl)⟩
set_option maxRecDepth 100000 in
theorem fld_83 : fldW (ownS 6) 47 6 20 := ⟨RX6, TX6, 29, rfl, by decide, rfl, iX6, Or.inl (T1_in4 (i := 144) rfl rfl)⟩
set_option maxRecDepth 100000 in
theorem fld_84 : fldW (ownS 6) 50 6 21 := ⟨RX6, TX6, 29, rfl, by decide, rfl, iX6, Or.inl (T1_in4 (i := 145) rfl rfl)⟩
set_option maxRecDepth 100000 in
theorem fld_85 : fldW (ownS 6) 146 6 22 := ⟨RX6, TX6, 29, rfl, by decide, rfl, iX6, Or.inl (T1_in4 (i := 146) rfl rfl)⟩
set_option maxRecDepth 100000 in
theorem fld_86 : fldW (ownS 6) 149 6 23 := ⟨RX6, TX6, 29, rfl, by decide, rfl, iX6, Or.inl (T1_in4 (i := 147) rfl rfl)⟩
set_option maxRecDepth 100000 in
theorem fld_87 : fldW (ownS 6) 53 6 24 := ⟨RX6, TX6, 29, rfl, by decide, rfl, iX6, Or.inl (T1_in4 (i := 148) rfl rfl)⟩
set_option maxRecDepth 100000 in
theorem fld_88 : fldW (ownS 6) 57 6 25 := ⟨RX6, TX6, 29, rfl, by decide, rfl, iX6, Or.inl (T1_in4 (i := 149) rfl rfl)⟩
set_option maxRecDepth 100000 in
theorem fld_89 : fldW (ownS 6) 152 6 26 := ⟨RX6, TX6, 29, rfl, by decide, rfl, iX6, Or.inl (T1_in4 (i := 150) rfl rfl)⟩
set_option maxRecDepth 100000 in
theorem fld_90 : fldW (ownS 6) 60 6 27 := ⟨RX6, TX6, 29, rfl, by decide, rfl, iX6, Or.inl (T1_in4 (i := 151) rfl rfl)⟩
set_option maxRecDepth 100000 in
theorem fld_91 : fldW (ownS 6) 63 6 28 := ⟨RX6, TX6, 29, rfl, by decide, rfl, iX6, Or.inl (T1_in4 (i := 152) rfl rfl)⟩
set_option maxRecDepth 100000 in
theorem fld_92 : fldW (ownS 5) 334 4 0 := ⟨RX4, TX4, 3, rfl, by decide, rfl, iX4, Or.inr rfl⟩
set_option maxRecDepth 100000 in
theorem fld_ok : ∀ q ∈ fldTab, fldW (ownS q.1) q.2.1 q.2.2.1 q.2.2.2 := List.forall_mem_cons.mpr ⟨fld_0, List.forall_mem_cons.mpr ⟨fld_1, List.forall_mem_cons.mpr ⟨fld_2, List.forall_mem_cons.mpr ⟨fld_3, List.forall_mem_cons.mpr ⟨fld_4, List.forall_mem_cons.mpr ⟨fld_5, List.forall_mem_cons.mpr ⟨fld_6, List.forall_mem_cons.mpr ⟨fld_7, List.forall_mem_cons.mpr ⟨fld_8, List.forall_mem_cons.mpr ⟨fld_9, List.forall_mem_cons.mpr ⟨fld_10, List.forall_mem_cons.mpr ⟨fld_11, List.forall_mem_cons.mpr ⟨fld_12, List.forall_mem_cons.mpr ⟨fld_13, List.forall_mem_cons.mpr ⟨fld_14, List.forall_mem_cons.mpr ⟨fld_15, List.forall_mem_cons.mpr ⟨fld_16, List.forall_mem_cons.mpr ⟨fld_17, List.forall_mem_cons.mpr ⟨fld_18, List.forall_mem_cons.mpr ⟨fld_19, List.forall_mem_cons.mpr ⟨fld_20, List.forall_mem_cons.mpr ⟨fld_21, List.forall_mem_cons.mpr ⟨fld_22, List.forall_mem_cons.mpr ⟨fld_23, List.forall_mem_cons.mpr ⟨fld_24, List.forall_mem_cons.mpr ⟨fld_25, List.forall_mem_cons.mpr ⟨fld_26, List.forall_mem_cons.mpr ⟨fld_27, List.forall_mem_cons.mpr ⟨fld_28, List.forall_mem_cons.mpr ⟨fld_29, List.forall_mem_cons.mpr ⟨fld_30, List.forall_mem_cons.mpr ⟨fld_31, List.forall_mem_cons.mpr ⟨fld_32, List.forall_mem_cons.mpr ⟨fld_33, List.forall_mem_cons.mpr ⟨fld_34, List.forall_mem_cons.mpr ⟨fld_35, List.forall_mem_cons.mpr ⟨fld_36, List.forall_mem_cons.mpr ⟨fld_37, List.forall_mem_cons.mpr ⟨fld_38, List.forall_mem_cons.mpr ⟨fld_39, List.forall_mem_cons.mpr ⟨fld_40, List.forall_mem_cons.mpr ⟨fld_41, List.forall_mem_cons.mpr ⟨fld_42, List.forall_mem_cons.mpr ⟨fld_43, List.forall_mem_cons.mpr ⟨fld_44, List.forall_mem_cons.mpr ⟨fld_45, List.forall_mem_cons.mpr ⟨fld_46, List.forall_mem_cons.mpr ⟨fld_47, List.forall_mem_cons.mpr ⟨fld_48, List.forall_mem_cons.mpr ⟨fld_49, List.forall_mem_cons.mpr ⟨fld_50, List.forall_mem_cons.mpr ⟨fld_51, List.forall_mem_cons.mpr ⟨fld_52, List.forall_mem_cons.mpr ⟨fld_53, List.forall_mem_cons.mpr ⟨fld_54, List.forall_mem_cons.mpr ⟨fld_55, List.forall_mem_cons.mpr ⟨fld_56, List.forall_mem_cons.mpr ⟨fld_57, List.forall_mem_cons.mpr ⟨fld_58, List.forall_mem_cons.mpr ⟨fld_59, List.forall_mem_cons.mpr ⟨fld_60, List.forall_mem_cons.mpr ⟨fld_61, List.forall_mem_cons.mpr ⟨fld_62, List.forall_mem_cons.mpr ⟨fld_63, List.forall_mem_cons.mpr ⟨fld_64, List.forall_mem_cons.mpr ⟨fld_65, List.forall_mem_cons.mpr ⟨fld_66, List.forall_mem_cons.mpr ⟨fld_67, List.forall_mem_cons.mpr ⟨fld_68, List.forall_mem_cons.mpr ⟨fld_69, List.forall_mem_cons.mpr ⟨fld_70, List.forall_mem_cons.mpr ⟨fld_71, List.forall_mem_cons.mpr ⟨fld_72, List.forall_mem_cons.mpr ⟨fld_73, List.forall_mem_cons.mpr ⟨fld_74, List.forall_mem_cons.mpr ⟨fld_75, List.forall_mem_cons.mpr ⟨fld_76, List.forall_mem_cons.mpr ⟨fld_77, List.forall_mem_cons.mpr ⟨fld_78, List.forall_mem_cons.mpr ⟨fld_79, List.forall_mem_cons.mpr ⟨fld_80, List.forall_mem_cons.mpr ⟨fld_81, List.forall_mem_cons.mpr ⟨fld_82, List.forall_mem_cons.mpr ⟨fld_83, List.forall_mem_cons.mpr ⟨fld_84, List.forall_mem_cons.mpr ⟨fld_85, List.forall_mem_cons.mpr ⟨fld_86, List.forall_mem_cons.mpr ⟨fld_87, List.forall_mem_cons.mpr ⟨fld_88, List.forall_mem_cons.mpr ⟨fld_89, List.forall_mem_cons.mpr ⟨fld_90, List.forall_mem_cons.mpr ⟨fld_91, List.forall_mem_cons.mpr ⟨fld_92, fun _ h => absurd h List.not_mem_nil⟩⟩⟩⟩⟩⟩⟩⟩⟩⟩⟩⟩⟩⟩⟩⟩⟩⟩⟩⟩⟩⟩⟩⟩⟩⟩⟩⟩⟩⟩⟩⟩⟩⟩⟩⟩⟩⟩⟩⟩⟩⟩⟩⟩⟩⟩⟩⟩⟩⟩⟩⟩⟩⟩⟩⟩⟩⟩⟩⟩⟩⟩⟩⟩⟩⟩⟩⟩⟩⟩⟩⟩⟩⟩⟩⟩⟩⟩⟩⟩⟩⟩⟩⟩⟩⟩⟩⟩⟩⟩⟩⟩⟩
end
section
def auxB (o : Nat) (ins : Instr) (pc a b : Nat) (v : Int32) (w : Int64) : Bool := match ins with
  | .iconst n => decide (Int32.ofInt n = v)
  | .bipush n => decide ((Int8.ofInt n).toInt32 = v)
  | .sipush n => decide ((Int16.ofInt n).toInt32 = v)
  | .ldc i => cstTab.any (fun q => Nat.beq q.1 o && (Nat.beq q.2.1 i && decide (q.2.2 = v)))
  | .ldc_w i => cstTab.any (fun q => Nat.beq q.1 o && (Nat.beq q.2.1 i && decide (q.2.2 = v)))
  | .lconst n => decide (Int64.ofNat (n : Nat) = w)
  | .ldc2_w i => cslTab.any (fun q => Nat.beq q.1 o && (Nat.beq q.2.1 i && decide (q.2.2 = w)))
  | .iinc _ n => decide (Int32.ofInt n = v)
  | .getfield i => fldTab.any (fun q => Nat.beq q.1 o && (Nat.beq q.2.1 i && (Nat.beq q.2.2.1 a && Nat.beq q.2.2.2 b)))
  | .putfield i => fldTab.any (fun q => Nat.beq q.1 o && (Nat.beq q.2.1 i && (Nat.beq q.2.2.1 a && Nat.beq q.2.2.2 b)))
  | .goto off => decide ((pc : Int) + off = (a : Int))
  | .ifCond _ off => decide ((pc : Int) + off = (a : Int))
  | .if_icmp _ off => decide ((pc : Int) + off = (a : Int))
  | _ => true
theorem cst_of {o i : Nat} {v : Int32} (h : cstTab.any (fun q => Nat.beq q.1 o && (Nat.beq q.2.1 i && decide (q.2.2 = v))) = true) : Cond.constant (ownS o) i v ∈ T1 := by
  obtain ⟨q, h1, h2⟩ := List.any_eq_true.mp h
  have h3 := Bool.and_eq_true_iff.mp h2
  have h4 := Bool.and_eq_true_iff.mp h3.2
  have e1 := Nat.eq_of_beq_eq_true h3.1
  have e2 := Nat.eq_of_beq_eq_true h4.1
  have e3 := of_decide_eq_true h4.2
  rw [← e1, ← e2, ← e3]
  exact cst_ok q h1
theorem csl_of {o i : Nat} {v : Int64} (h : cslTab.any (fun q => Nat.beq q.1 o && (Nat.beq q.2.1 i && decide (q.2.2 = v))) = true) : Cond.constantLong (ownS o) i v ∈ T1 := by
  obtain ⟨q, h1, h2⟩ := List.any_eq_true.mp h
  have h3 := Bool.and_eq_true_iff.mp h2
  have h4 := Bool.and_eq_true_iff.mp h3.2
  have e1 := Nat.eq_of_beq_eq_true h3.1
  have e2 := Nat.eq_of_beq_eq_true h4.1
  have e3 := of_decide_eq_true h4.2
  rw [← e1, ← e2, ← e3]
  exact csl_ok q h1
theorem fld_of {o i a b : Nat} (h : fldTab.any (fun q => Nat.beq q.1 o && (Nat.beq q.2.1 i && (Nat.beq q.2.2.1 a && Nat.beq q.2.2.2 b))) = true) : fldW (ownS o) i a b := by
  obtain ⟨q, h1, h2⟩ := List.any_eq_true.mp h
  have h3 := Bool.and_eq_true_iff.mp h2
  have h4 := Bool.and_eq_true_iff.mp h3.2
  have h5 := Bool.and_eq_true_iff.mp h4.2
  rw [← Nat.eq_of_beq_eq_true h3.1, ← Nat.eq_of_beq_eq_true h4.1, ← Nat.eq_of_beq_eq_true h5.1, ← Nat.eq_of_beq_eq_true h5.2]
  exact fld_ok q h1
theorem aux_of {o : Nat} {ins : Instr} {pc a b : Nat} {v : Int32} {w : Int64} (h : auxB o ins pc a b v w = true) : auxOk (ownS o) ins pc a b v w := by
  cases ins with
  | iconst n => exact of_decide_eq_true (p := Int32.ofInt n = v) h
  | bipush n => exact of_decide_eq_true (p := (Int8.ofInt n).toInt32 = v) h
  | sipush n => exact of_decide_eq_true (p := (Int16.ofInt n).toInt32 = v) h
  | ldc i => exact cst_of h
  | ldc_w i => exact cst_of h
  | lconst n => exact of_decide_eq_true (p := Int64.ofNat (n : Nat) = w) h
  | ldc2_w i => exact csl_of h
  | iinc i n => exact of_decide_eq_true (p := Int32.ofInt n = v) h
  | getfield i => exact fld_of h
  | putfield i => exact fld_of h
  | goto off => exact of_decide_eq_true (p := (pc : Int) + off = (a : Int)) h
  | ifCond c off => exact of_decide_eq_true (p := (pc : Int) + off = (a : Int)) h
  | if_icmp c off => exact of_decide_eq_true (p := (pc : Int) + off = (a : Int)) h
  | _ => exact trivial
def tabOk (o : Nat) (cc : ByteArray) : List PE → Bool
  | [] => true
  | q :: r => decide (decode cc q.1 = .ok (q.2.2.1, q.2.1)) && ((isTs q.2.2.1 || Nat.beq q.2.1 (lnI q.2.2.1)) && (auxB o q.2.2.1 q.1 q.2.2.2.1 q.2.2.2.2.1 q.2.2.2.2.2.1 q.2.2.2.2.2.2 && ((match r with
    | u :: _ => isEnd q.2.2.1 || Nat.beq u.1 (q.1 + q.2.1)
    | [] => true) && tabOk o cc r)))
theorem tab_of {o : Nat} {cc : ByteArray} : ∀ {pm : List PE}, tabOk o cc pm = true → Tk (ownS o) cc pm
  | [], _, q, r, hs => by
    have := List.suffix_nil.mp hs
    cases this
  | z :: pm, h, q, r, hs => by
    obtain ⟨h1, h⟩ := Bool.and_eq_true_iff.mp h
    obtain ⟨h2, h⟩ := Bool.and_eq_true_iff.mp h
    obtain ⟨h3, h⟩ := Bool.and_eq_true_iff.mp h
    obtain ⟨h4, h5⟩ := Bool.and_eq_true_iff.mp h
    rcases List.suffix_cons_iff.mp hs with e | hs
    · cases e
      refine ⟨of_decide_eq_true h1, fun ht => ?_, aux_of h3, fun u r' e he => ?_⟩
      · rw [ht, Bool.false_or] at h2
        exact Nat.eq_of_beq_eq_true h2
      · subst e
        dsimp only at h4
        rw [he, Bool.false_or] at h4
        exact Nat.eq_of_beq_eq_true h4
    · exact tab_of h5 q r hs
end
section
def pm_Arrays_fill2 : List PE := [(0, 1, .iconst (0), 0, 0, 0, 0),
  (1, 1, .istore_n (2), 0, 0, 0, 0),
  (2, 1, .aload_n (0), 0, 0, 0, 0),
  (3, 1, .arraylength, 0, 0, 0, 0),
  (4, 1, .istore_n (3), 0, 0, 0, 0),
  (5, 1, .iload_n (2), 0, 0, 0, 0),
  (6, 1, .iload_n (3), 0, 0, 0, 0),
  (7, 3, .if_icmp .ge (13), 20, 0, 0, 0),
  (10, 1, .aload_n (0), 0, 0, 0, 0),
  (11, 1, .iload_n (2), 0, 0, 0, 0),
  (12, 1, .iload_n (1), 0, 0, 0, 0),
  (13, 1, .iastore, 0, 0, 0, 0),
  (14, 3, .iinc (2) (1), 0, 0, 1, 0),
  (17, 3, .goto (-12), 5, 0, 0, 0),
  (20, 1, .return_, 0, 0, 0, 0)]
def md_Arrays_fill2 : Md := (y_Arrays_fill2, prog_12_method_103_code, 4, none, pm_Arrays_fill2)
theorem tk_Arrays_fill2 : Tm md_Arrays_fill2 := tab_of (o := 10) (by decide +kernel)
set_option maxRecDepth 100000 in
theorem ok_Arrays_fill2 : MdOk md_Arrays_fill2 2 ∧ Cond.static md_Arrays_fill2.1 ∈ T1 := ⟨⟨T1_in1 (i := 28) rfl rfl, T1_in1 (i := 3) rfl rfl, by decide +kernel, ⟨by decide +kernel, by decide +kernel⟩, by decide +kernel, by decide⟩, T1_in1 (i := 27) rfl rfl⟩
def pm_Tent_row : List PE := [(0, 1, .aload_n (0), 0, 0, 0, 0),
  (1, 1, .aload_n (0), 0, 0, 0, 0),
  (2, 3, .getfield (14), 5, 0, 0, 0),
  (5, 1, .iload_n (1), 0, 0, 0, 0),
  (6, 1, .iload_n (2), 0, 0, 0, 0),
  (7, 1, .iconst (0), 0, 0, 0, 0),
  (8, 3, .invokevirtual (66), 0, 0, 0, 0),
  (11, 1, .ireturn, 0, 0, 0, 0)]
def md_Tent_row : Md := (y_Tent_row, prog_1_method_2_code, 3, (some .int), pm_Tent_row)
theorem tk_Tent_row : Tm md_Tent_row := tab_of (o := 5) (by decide +kernel)
set_option maxRecDepth 100000 in
theorem ok_Tent_row : MdOk md_Tent_row 2 ∧ Cond.instanceMethod md_Tent_row.1 ∈ T1 ∧ Cond.selects md_Tent_row.1.cls md_Tent_row.1 md_Tent_row.1 ∈ T1 := ⟨⟨T1_in1 (i := 226) rfl rfl, T1_in1 (i := 1) rfl rfl, by decide +kernel, ⟨by decide +kernel, by decide +kernel⟩, by decide +kernel, by decide⟩, T1_in1 (i := 224) rfl rfl, T1_in1 (i := 225) rfl rfl⟩
def pm_Tent_makeIn : List PE := [(0, 1, .aload_n (1), 0, 0, 0, 0),
  (1, 1, .iload_n (2), 0, 0, 0, 0),
  (2, 3, .invokevirtual (93), 0, 0, 0, 0),
  (5, 3, .ifCond .eq (11), 16, 0, 0, 0),
  (8, 1, .iload_n (3), 0, 0, 0, 0),
  (9, 1, .aload_n (1), 0, 0, 0, 0),
  (10, 3, .getfield (334), 4, 0, 0, 0),
  (13, 3, .if_icmp .le (5), 18, 0, 0, 0),
  (16, 1, .iconst (-1), 0, 0, (-1), 0),
  (17, 1, .ireturn, 0, 0, 0, 0),
  (18, 1, .iload_n (3), 0, 0, 0, 0),
  (19, 3, .ifCond .ge (9), 28, 0, 0, 0),
  (22, 1, .aload_n (0), 0, 0, 0, 0),
  (23, 1, .iconst (5), 0, 0, 5, 0),
  (24, 3, .invokevirtual (97), 0, 0, 0, 0),
  (27, 1, .ireturn, 0, 0, 0, 0),
  (28, 1, .aload_n (1), 0, 0, 0, 0),
  (29, 1, .iload_n (2), 0, 0, 0, 0),
  (30, 1, .iload_n (3), 0, 0, 0, 0),
  (31, 2, .iload (4), 0, 0, 0, 0),
  (33, 3, .invokevirtual (337), 0, 0, 0, 0),
  (36, 1, .iload_n (3), 0, 0, 0, 0),
  (37, 1, .ireturn, 0, 0, 0, 0)]
def md_Tent_makeIn : Md := (y_Tent_makeIn, prog_1_method_53_code, 5, (some .int), pm_Tent_makeIn)
theorem tk_Tent_makeIn : Tm md_Tent_makeIn := tab_of (o := 5) (by decide +kernel)
set_option maxRecDepth 100000 in
theorem ok_Tent_makeIn : MdOk md_Tent_makeIn 4 ∧ Cond.instanceMethod md_Tent_makeIn.1 ∈ T1 ∧ Cond.selects md_Tent_makeIn.1.cls md_Tent_makeIn.1 md_Tent_makeIn.1 ∈ T1 := ⟨⟨T1_in1 (i := 230) rfl rfl, T1_in1 (i := 1) rfl rfl, by decide +kernel, ⟨by decide +kernel, by decide +kernel⟩, by decide +kernel, by decide⟩, T1_in1 (i := 229) rfl rfl, T1_inP (i := 0) rfl⟩
def pm_Shelf_isNumber : List PE := [(0, 1, .iload_n (1), 0, 0, 0, 0),
  (1, 3, .ifCond .lt (16), 17, 0, 0, 0),
  (4, 1, .iload_n (1), 0, 0, 0, 0),
  (5, 1, .aload_n (0), 0, 0, 0, 0),
  (6, 3, .getfield (13), 4, 1, 0, 0),
  (9, 1, .arraylength, 0, 0, 0, 0),
  (10, 3, .if_icmp .ge (7), 17, 0, 0, 0),
  (13, 1, .iconst (1), 0, 0, 1, 0),
  (14, 3, .goto (4), 18, 0, 0, 0),
  (17, 1, .iconst (0), 0, 0, 0, 0),
  (18, 1, .ireturn, 0, 0, 0, 0)]
def md_Shelf_isNumber : Md := (y_Shelf_isNumber, prog_6_method_2_code, 2, (some .boolean), pm_Shelf_isNumber)
theorem tk_Shelf_isNumber : Tm md_Shelf_isNumber := tab_of (o := 4) (by decide +kernel)
set_option maxRecDepth 100000 in
theorem ok_Shelf_isNumber : MdOk md_Shelf_isNumber 1 ∧ Cond.instanceMethod md_Shelf_isNumber.1 ∈ T1 ∧ Cond.selects md_Shelf_isNumber.1.cls md_Shelf_isNumber.1 md_Shelf_isNumber.1 ∈ T1 := ⟨⟨T1_in1 (i := 234) rfl rfl, T1_in1 (i := 2) rfl rfl, by decide +kernel, ⟨by decide +kernel, by decide +kernel⟩, by decide +kernel, by decide⟩, T1_in1 (i := 232) rfl rfl, T1_in1 (i := 233) rfl rfl⟩
def pm_Tent_found : List PE := [(0, 1, .aload_n (0), 0, 0, 0, 0),
  (1, 1, .iload_n (1), 0, 0, 0, 0),
  (2, 3, .putfield (320), 5, 9, 0, 0),
  (5, 1, .aload_n (0), 0, 0, 0, 0),
  (6, 3, .getfield (58), 5, 8, 0, 0),
  (9, 1, .iload_n (1), 0, 0, 0, 0),
  (10, 1, .dup2, 0, 0, 0, 0),
  (11, 1, .iaload, 0, 0, 0, 0),
  (12, 1, .iconst (1), 0, 0, 1, 0),
  (13, 1, .iadd, 0, 0, 0, 0),
  (14, 1, .iastore, 0, 0, 0, 0),
  (15, 2, .bipush (-3), 0, 0, (-3), 0),
  (17, 1, .ireturn, 0, 0, 0, 0)]
def md_Tent_found : Md := (y_Tent_found, prog_1_method_52_code, 2, (some .int), pm_Tent_found)
theorem tk_Tent_found : Tm md_Tent_found := tab_of (o := 5) (by decide +kernel)
set_option maxRecDepth 100000 in
theorem ok_Tent_found : MdOk md_Tent_found 1 ∧ Cond.instanceMethod md_Tent_found.1 ∈ T1 ∧ Cond.selects md_Tent_found.1.cls md_Tent_found.1 md_Tent_found.1 ∈ T1 := ⟨⟨T1_in1 (i := 238) rfl rfl, T1_in1 (i := 1) rfl rfl, by decide +kernel, ⟨by decide +kernel, by decide +kernel⟩, by decide +kernel, by decide⟩, T1_in1 (i := 237) rfl rfl, T1_inP (i := 1) rfl⟩
def pm_Shelf_make : List PE := [(0, 1, .aload_n (0), 0, 0, 0, 0),
  (1, 1, .iload_n (1), 0, 0, 0, 0),
  (2, 3, .invokevirtual (30), 0, 0, 0, 0),
  (5, 3, .ifCond .eq (44), 49, 0, 0, 0),
  (8, 1, .iload_n (2), 0, 0, 0, 0),
  (9, 3, .ifCond .lt (40), 49, 0, 0, 0),
  (12, 1, .iload_n (2), 0, 0, 0, 0),
  (13, 1, .aload_n (0), 0, 0, 0, 0),
  (14, 3, .getfield (7), 4, 0, 0, 0),
  (17, 3, .if_icmp .gt (32), 49, 0, 0, 0),
  (20, 1, .aload_n (0), 0, 0, 0, 0),
  (21, 3, .getfield (13), 4, 1, 0, 0),
  (24, 1, .iload_n (1), 0, 0, 0, 0),
  (25, 1, .iload_n (2), 0, 0, 0, 0),
  (26, 1, .iastore, 0, 0, 0, 0),
  (27, 1, .aload_n (0), 0, 0, 0, 0),
  (28, 3, .getfield (17), 4, 2, 0, 0),
  (31, 1, .iload_n (1), 0, 0, 0, 0),
  (32, 1, .aload_n (0), 0, 0, 0, 0),
  (33, 3, .getfield (7), 4, 0, 0, 0),
  (36, 1, .imul, 0, 0, 0, 0),
  (37, 1, .iload_n (1), 0, 0, 0, 0),
  (38, 1, .aload_n (0), 0, 0, 0, 0),
  (39, 3, .getfield (7), 4, 0, 0, 0),
  (42, 1, .imul, 0, 0, 0, 0),
  (43, 1, .iload_n (2), 0, 0, 0, 0),
  (44, 1, .iadd, 0, 0, 0, 0),
  (45, 1, .iload_n (3), 0, 0, 0, 0),
  (46, 3, .invokestatic (34), 0, 0, 0, 0),
  (49, 1, .return_, 0, 0, 0, 0)]
def md_Shelf_make : Md := (y_Shelf_make, prog_6_method_7_code, 4, none, pm_Shelf_make)
theorem tk_Shelf_make : Tm md_Shelf_make := tab_of (o := 4) (by decide +kernel)
set_option maxRecDepth 100000 in
theorem ok_Shelf_make : MdOk md_Shelf_make 3 ∧ Cond.instanceMethod md_Shelf_make.1 ∈ T1 ∧ Cond.selects md_Shelf_make.1.cls md_Shelf_make.1 md_Shelf_make.1 ∈ T1 := ⟨⟨T1_in2 (i := 2) rfl rfl, T1_in1 (i := 2) rfl rfl, by decide +kernel, ⟨by decide +kernel, by decide +kernel⟩, by decide +kernel, by decide⟩, T1_in2 (i := 0) rfl rfl, T1_in2 (i := 1) rfl rfl⟩
def pm_Arrays_fill4 : List PE := [(0, 1, .aload_n (0), 0, 0, 0, 0),
  (1, 1, .arraylength, 0, 0, 0, 0),
  (2, 1, .iload_n (1), 0, 0, 0, 0),
  (3, 1, .iload_n (2), 0, 0, 0, 0),
  (4, 3, .invokestatic (13), 0, 0, 0, 0),
  (7, 1, .iload_n (1), 0, 0, 0, 0),
  (8, 2, .istore (4), 0, 0, 0, 0),
  (10, 2, .iload (4), 0, 0, 0, 0),
  (12, 1, .iload_n (2), 0, 0, 0, 0),
  (13, 3, .if_icmp .ge (14), 27, 0, 0, 0),
  (16, 1, .aload_n (0), 0, 0, 0, 0),
  (17, 2, .iload (4), 0, 0, 0, 0),
  (19, 1, .iload_n (3), 0, 0, 0, 0),
  (20, 1, .iastore, 0, 0, 0, 0),
  (21, 3, .iinc (4) (1), 0, 0, 1, 0),
  (24, 3, .goto (-14), 10, 0, 0, 0),
  (27, 1, .return_, 0, 0, 0, 0)]
def md_Arrays_fill4 : Md := (y_Arrays_fill4, prog_12_method_104_code, 5, none, pm_Arrays_fill4)
theorem tk_Arrays_fill4 : Tm md_Arrays_fill4 := tab_of (o := 10) (by decide +kernel)
set_option maxRecDepth 100000 in
theorem ok_Arrays_fill4 : MdOk md_Arrays_fill4 4 ∧ Cond.static md_Arrays_fill4.1 ∈ T1 := ⟨⟨T1_in2 (i := 6) rfl rfl, T1_in1 (i := 3) rfl rfl, by decide +kernel, ⟨by decide +kernel, by decide +kernel⟩, by decide +kernel, by decide⟩, T1_in2 (i := 5) rfl rfl⟩
def pm_Arrays_rangeCheck : List PE := [(0, 1, .iload_n (1), 0, 0, 0, 0),
  (1, 1, .iload_n (2), 0, 0, 0, 0),
  (2, 3, .if_icmp .le (44), 46, 0, 0, 0),
  (46, 1, .iload_n (1), 0, 0, 0, 0),
  (47, 3, .ifCond .ge (12), 59, 0, 0, 0),
  (59, 1, .iload_n (2), 0, 0, 0, 0),
  (60, 1, .iload_n (0), 0, 0, 0, 0),
  (61, 3, .if_icmp .le (12), 73, 0, 0, 0),
  (73, 1, .return_, 0, 0, 0, 0)]
def md_Arrays_rangeCheck : Md := (y_Arrays_rangeCheck, prog_12_method_30_code, 3, none, pm_Arrays_rangeCheck)
theorem tk_Arrays_rangeCheck : Tm md_Arrays_rangeCheck := tab_of (o := 10) (by decide +kernel)
set_option maxRecDepth 100000 in
theorem ok_Arrays_rangeCheck : MdOk md_Arrays_rangeCheck 3 ∧ Cond.static md_Arrays_rangeCheck.1 ∈ T1 := ⟨⟨T1_in2 (i := 9) rfl rfl, T1_in1 (i := 3) rfl rfl, by decide +kernel, ⟨by decide +kernel, by decide +kernel⟩, by decide +kernel, by decide⟩, T1_in2 (i := 8) rfl rfl⟩
def pm_Tent_lay : List PE := [(0, 1, .aload_n (0), 0, 0, 0, 0),
  (1, 1, .aload_n (0), 0, 0, 0, 0),
  (2, 3, .getfield (14), 5, 0, 0, 0),
  (5, 1, .iload_n (1), 0, 0, 0, 0),
  (6, 1, .iload_n (2), 0, 0, 0, 0),
  (7, 3, .invokevirtual (70), 0, 0, 0, 0),
  (10, 2, .istore (4), 0, 0, 0, 0),
  (12, 2, .iload (4), 0, 0, 0, 0),
  (14, 3, .ifCond .eq (6), 20, 0, 0, 0),
  (17, 2, .iload (4), 0, 0, 0, 0),
  (19, 1, .ireturn, 0, 0, 0, 0),
  (20, 1, .aload_n (0), 0, 0, 0, 0),
  (21, 1, .aload_n (0), 0, 0, 0, 0),
  (22, 3, .getfield (14), 5, 0, 0, 0),
  (25, 1, .iload_n (1), 0, 0, 0, 0),
  (26, 1, .iload_n (2), 0, 0, 0, 0),
  (27, 3, .invokevirtual (74), 0, 0, 0, 0),
  (30, 3, .putfield (78), 5, 10, 0, 0),
  (33, 1, .aload_n (0), 0, 0, 0, 0),
  (34, 3, .getfield (14), 5, 0, 0, 0),
  (37, 1, .iload_n (1), 0, 0, 0, 0),
  (38, 1, .iload_n (2), 0, 0, 0, 0),
  (39, 1, .iload_n (3), 0, 0, 0, 0),
  (40, 3, .invokevirtual (82), 0, 0, 0, 0),
  (43, 1, .iconst (1), 0, 0, 1, 0),
  (44, 1, .ireturn, 0, 0, 0, 0)]
def md_Tent_lay : Md := (y_Tent_lay, prog_1_method_3_code, 5, (some .int), pm_Tent_lay)
theorem tk_Tent_lay : Tm md_Tent_lay := tab_of (o := 5) (by decide +kernel)
set_option maxRecDepth 100000 in
theorem ok_Tent_lay : MdOk md_Tent_lay 3 ∧ Cond.instanceMethod md_Tent_lay.1 ∈ T1 ∧ Cond.selects md_Tent_lay.1.cls md_Tent_lay.1 md_Tent_lay.1 ∈ T1 := ⟨⟨T1_in2 (i := 13) rfl rfl, T1_in1 (i := 1) rfl rfl, by decide +kernel, ⟨by decide +kernel, by decide +kernel⟩, by decide +kernel, by decide⟩, T1_in2 (i := 11) rfl rfl, T1_in2 (i := 12) rfl rfl⟩
def pm_Tent_refusePlace : List PE := [(0, 1, .aload_n (0), 0, 0, 0, 0),
  (1, 1, .aload_n (1), 0, 0, 0, 0),
  (2, 1, .iload_n (2), 0, 0, 0, 0),
  (3, 3, .invokevirtual (86), 0, 0, 0, 0),
  (6, 2, .istore (4), 0, 0, 0, 0),
  (8, 2, .iload (4), 0, 0, 0, 0),
  (10, 3, .ifCond .eq (6), 16, 0, 0, 0),
  (13, 2, .iload (4), 0, 0, 0, 0),
  (15, 1, .ireturn, 0, 0, 0, 0),
  (16, 1, .aload_n (1), 0, 0, 0, 0),
  (17, 1, .iload_n (2), 0, 0, 0, 0),
  (18, 1, .iload_n (3), 0, 0, 0, 0),
  (19, 3, .invokevirtual (340), 0, 0, 0, 0),
  (22, 3, .ifCond .eq (7), 29, 0, 0, 0),
  (25, 1, .iconst (0), 0, 0, 0, 0),
  (26, 3, .goto (8), 34, 0, 0, 0),
  (29, 1, .aload_n (0), 0, 0, 0, 0),
  (30, 1, .iconst (2), 0, 0, 2, 0),
  (31, 3, .invokevirtual (97), 0, 0, 0, 0),
  (34, 1, .ireturn, 0, 0, 0, 0)]
def md_Tent_refusePlace : Md := (y_Tent_refusePlace, prog_1_method_55_code, 5, (some .int), pm_Tent_refusePlace)
theorem tk_Tent_refusePlace : Tm md_Tent_refusePlace := tab_of (o := 5) (by decide +kernel)
set_option maxRecDepth 100000 in
theorem ok_Tent_refusePlace : MdOk md_Tent_refusePlace 3 ∧ Cond.instanceMethod md_Tent_refusePlace.1 ∈ T1 ∧ Cond.selects md_Tent_refusePlace.1.cls md_Tent_refusePlace.1 md_Tent_refusePlace.1 ∈ T1 := ⟨⟨T1_in2 (i := 17) rfl rfl, T1_in1 (i := 1) rfl rfl, by decide +kernel, ⟨by decide +kernel, by decide +kernel⟩, by decide +kernel, by decide⟩, T1_in2 (i := 16) rfl rfl, T1_inP (i := 2) rfl⟩
def pm_Tent_refuseMissing : List PE := [(0, 1, .aload_n (1), 0, 0, 0, 0),
  (1, 1, .iload_n (2), 0, 0, 0, 0),
  (2, 3, .invokevirtual (93), 0, 0, 0, 0),
  (5, 3, .ifCond .ne (5), 10, 0, 0, 0),
  (8, 1, .iconst (-1), 0, 0, (-1), 0),
  (9, 1, .ireturn, 0, 0, 0, 0),
  (10, 1, .aload_n (1), 0, 0, 0, 0),
  (11, 1, .iload_n (2), 0, 0, 0, 0),
  (12, 3, .invokevirtual (101), 0, 0, 0, 0),
  (15, 3, .ifCond .eq (7), 22, 0, 0, 0),
  (18, 1, .iconst (0), 0, 0, 0, 0),
  (19, 3, .goto (8), 27, 0, 0, 0),
  (22, 1, .aload_n (0), 0, 0, 0, 0),
  (23, 1, .iconst (1), 0, 0, 1, 0),
  (24, 3, .invokevirtual (97), 0, 0, 0, 0),
  (27, 1, .ireturn, 0, 0, 0, 0)]
def md_Tent_refuseMissing : Md := (y_Tent_refuseMissing, prog_1_method_54_code, 3, (some .int), pm_Tent_refuseMissing)
theorem tk_Tent_refuseMissing : Tm md_Tent_refuseMissing := tab_of (o := 5) (by decide +kernel)
set_option maxRecDepth 100000 in
theorem ok_Tent_refuseMissing : MdOk md_Tent_refuseMissing 2 ∧ Cond.instanceMethod md_Tent_refuseMissing.1 ∈ T1 ∧ Cond.selects md_Tent_refuseMissing.1.cls md_Tent_refuseMissing.1 md_Tent_refuseMissing.1 ∈ T1 := ⟨⟨T1_in2 (i := 21) rfl rfl, T1_in1 (i := 1) rfl rfl, by decide +kernel, ⟨by decide +kernel, by decide +kernel⟩, by decide +kernel, by decide⟩, T1_in2 (i := 20) rfl rfl, T1_inP (i := 3) rfl⟩
def pm_Shelf_isThere : List PE := [(0, 1, .aload_n (0), 0, 0, 0, 0),
  (1, 1, .iload_n (1), 0, 0, 0, 0),
  (2, 3, .invokevirtual (26), 0, 0, 0, 0),
  (5, 3, .ifCond .lt (7), 12, 0, 0, 0),
  (8, 1, .iconst (1), 0, 0, 1, 0),
  (9, 3, .goto (4), 13, 0, 0, 0),
  (12, 1, .iconst (0), 0, 0, 0, 0),
  (13, 1, .ireturn, 0, 0, 0, 0)]
def md_Shelf_isThere : Md := (y_Shelf_isThere, prog_6_method_3_code, 2, (some .boolean), pm_Shelf_isThere)
theorem tk_Shelf_isThere : Tm md_Shelf_isThere := tab_of (o := 4) (by decide +kernel)
set_option maxRecDepth 100000 in
theorem ok_Shelf_isThere : MdOk md_Shelf_isThere 1 ∧ Cond.instanceMethod md_Shelf_isThere.1 ∈ T1 ∧ Cond.selects md_Shelf_isThere.1.cls md_Shelf_isThere.1 md_Shelf_isThere.1 ∈ T1 := ⟨⟨T1_in2 (i := 25) rfl rfl, T1_in1 (i := 2) rfl rfl, by decide +kernel, ⟨by decide +kernel, by decide +kernel⟩, by decide +kernel, by decide⟩, T1_in2 (i := 23) rfl rfl, T1_in2 (i := 24) rfl rfl⟩
def pm_Shelf_sizeOf : List PE := [(0, 1, .aload_n (0), 0, 0, 0, 0),
  (1, 1, .iload_n (1), 0, 0, 0, 0),
  (2, 3, .invokevirtual (30), 0, 0, 0, 0),
  (5, 3, .ifCond .eq (12), 17, 0, 0, 0),
  (8, 1, .aload_n (0), 0, 0, 0, 0),
  (9, 3, .getfield (13), 4, 1, 0, 0),
  (12, 1, .iload_n (1), 0, 0, 0, 0),
  (13, 1, .iaload, 0, 0, 0, 0),
  (14, 3, .goto (4), 18, 0, 0, 0),
  (17, 1, .iconst (-1), 0, 0, (-1), 0),
  (18, 1, .ireturn, 0, 0, 0, 0)]
def md_Shelf_sizeOf : Md := (y_Shelf_sizeOf, prog_6_method_6_code, 2, (some .int), pm_Shelf_sizeOf)
theorem tk_Shelf_sizeOf : Tm md_Shelf_sizeOf := tab_of (o := 4) (by decide +kernel)
set_option maxRecDepth 100000 in
theorem ok_Shelf_sizeOf : MdOk md_Shelf_sizeOf 1 ∧ Cond.instanceMethod md_Shelf_sizeOf.1 ∈ T1 ∧ Cond.selects md_Shelf_sizeOf.1.cls md_Shelf_sizeOf.1 md_Shelf_sizeOf.1 ∈ T1 := ⟨⟨T1_in2 (i := 29) rfl rfl, T1_in1 (i := 2) rfl rfl, by decide +kernel, ⟨by decide +kernel, by decide +kernel⟩, by decide +kernel, by decide⟩, T1_in2 (i := 27) rfl rfl, T1_in2 (i := 28) rfl rfl⟩
def pm_Shelf_hasPlace : List PE := [(0, 1, .iload_n (2), 0, 0, 0, 0),
  (1, 3, .ifCond .lt (16), 17, 0, 0, 0),
  (4, 1, .iload_n (2), 0, 0, 0, 0),
  (5, 1, .aload_n (0), 0, 0, 0, 0),
  (6, 1, .iload_n (1), 0, 0, 0, 0),
  (7, 3, .invokevirtual (26), 0, 0, 0, 0),
  (10, 3, .if_icmp .ge (7), 17, 0, 0, 0),
  (13, 1, .iconst (1), 0, 0, 1, 0),
  (14, 3, .goto (4), 18, 0, 0, 0),
  (17, 1, .iconst (0), 0, 0, 0, 0),
  (18, 1, .ireturn, 0, 0, 0, 0)]
def md_Shelf_hasPlace : Md := (y_Shelf_hasPlace, prog_6_method_4_code, 3, (some .boolean), pm_Shelf_hasPlace)
theorem tk_Shelf_hasPlace : Tm md_Shelf_hasPlace := tab_of (o := 4) (by decide +kernel)
set_option maxRecDepth 100000 in
theorem ok_Shelf_hasPlace : MdOk md_Shelf_hasPlace 2 ∧ Cond.instanceMethod md_Shelf_hasPlace.1 ∈ T1 ∧ Cond.selects md_Shelf_hasPlace.1.cls md_Shelf_hasPlace.1 md_Shelf_hasPlace.1 ∈ T1 := ⟨⟨T1_in2 (i := 33) rfl rfl, T1_in1 (i := 2) rfl rfl, by decide +kernel, ⟨by decide +kernel, by decide +kernel⟩, by decide +kernel, by decide⟩, T1_in2 (i := 31) rfl rfl, T1_in2 (i := 32) rfl rfl⟩
def pm_Shelf_get : List PE := [(0, 1, .aload_n (0), 0, 0, 0, 0),
  (1, 1, .iload_n (1), 0, 0, 0, 0),
  (2, 1, .iload_n (2), 0, 0, 0, 0),
  (3, 3, .invokevirtual (37), 0, 0, 0, 0),
  (6, 3, .ifCond .eq (19), 25, 0, 0, 0),
  (9, 1, .aload_n (0), 0, 0, 0, 0),
  (10, 3, .getfield (17), 4, 2, 0, 0),
  (13, 1, .iload_n (1), 0, 0, 0, 0),
  (14, 1, .aload_n (0), 0, 0, 0, 0),
  (15, 3, .getfield (7), 4, 0, 0, 0),
  (18, 1, .imul, 0, 0, 0, 0),
  (19, 1, .iload_n (2), 0, 0, 0, 0),
  (20, 1, .iadd, 0, 0, 0, 0),
  (21, 1, .iaload, 0, 0, 0, 0),
  (22, 3, .goto (4), 26, 0, 0, 0),
  (25, 1, .iconst (0), 0, 0, 0, 0),
  (26, 1, .ireturn, 0, 0, 0, 0)]
def md_Shelf_get : Md := (y_Shelf_get, prog_6_method_9_code, 3, (some .int), pm_Shelf_get)
theorem tk_Shelf_get : Tm md_Shelf_get := tab_of (o := 4) (by decide +kernel)
set_option maxRecDepth 100000 in
theorem ok_Shelf_get : MdOk md_Shelf_get 2 ∧ Cond.instanceMethod md_Shelf_get.1 ∈ T1 ∧ Cond.selects md_Shelf_get.1.cls md_Shelf_get.1 md_Shelf_get.1 ∈ T1 := ⟨⟨T1_in2 (i := 37) rfl rfl, T1_in1 (i := 2) rfl rfl, by decide +kernel, ⟨by decide +kernel, by decide +kernel⟩, by decide +kernel, by decide⟩, T1_in2 (i := 35) rfl rfl, T1_in2 (i := 36) rfl rfl⟩
def pm_Shelf_set : List PE := [(0, 1, .aload_n (0), 0, 0, 0, 0),
  (1, 1, .iload_n (1), 0, 0, 0, 0),
  (2, 1, .iload_n (2), 0, 0, 0, 0),
  (3, 3, .invokevirtual (37), 0, 0, 0, 0),
  (6, 3, .ifCond .eq (17), 23, 0, 0, 0),
  (9, 1, .aload_n (0), 0, 0, 0, 0),
  (10, 3, .getfield (17), 4, 2, 0, 0),
  (13, 1, .iload_n (1), 0, 0, 0, 0),
  (14, 1, .aload_n (0), 0, 0, 0, 0),
  (15, 3, .getfield (7), 4, 0, 0, 0),
  (18, 1, .imul, 0, 0, 0, 0),
  (19, 1, .iload_n (2), 0, 0, 0, 0),
  (20, 1, .iadd, 0, 0, 0, 0),
  (21, 1, .iload_n (3), 0, 0, 0, 0),
  (22, 1, .iastore, 0, 0, 0, 0),
  (23, 1, .return_, 0, 0, 0, 0)]
def md_Shelf_set : Md := (y_Shelf_set, prog_6_method_10_code, 4, none, pm_Shelf_set)
theorem tk_Shelf_set : Tm md_Shelf_set := tab_of (o := 4) (by decide +kernel)
set_option maxRecDepth 100000 in
theorem ok_Shelf_set : MdOk md_Shelf_set 3 ∧ Cond.instanceMethod md_Shelf_set.1 ∈ T1 ∧ Cond.selects md_Shelf_set.1.cls md_Shelf_set.1 md_Shelf_set.1 ∈ T1 := ⟨⟨T1_in2 (i := 42) rfl rfl, T1_in1 (i := 2) rfl rfl, by decide +kernel, ⟨by decide +kernel, by decide +kernel⟩, by decide +kernel, by decide⟩, T1_in2 (i := 40) rfl rfl, T1_in2 (i := 41) rfl rfl⟩
def pm_Tent_at : List PE := [(0, 1, .aload_n (0), 0, 0, 0, 0),
  (1, 1, .aload_n (0), 0, 0, 0, 0),
  (2, 3, .getfield (14), 5, 0, 0, 0),
  (5, 1, .iload_n (1), 0, 0, 0, 0),
  (6, 1, .iload_n (2), 0, 0, 0, 0),
  (7, 3, .invokevirtual (70), 0, 0, 0, 0),
  (10, 1, .istore_n (3), 0, 0, 0, 0),
  (11, 1, .iload_n (3), 0, 0, 0, 0),
  (12, 3, .ifCond .eq (5), 17, 0, 0, 0),
  (15, 1, .iload_n (3), 0, 0, 0, 0),
  (16, 1, .ireturn, 0, 0, 0, 0),
  (17, 1, .aload_n (0), 0, 0, 0, 0),
  (18, 1, .aload_n (0), 0, 0, 0, 0),
  (19, 3, .getfield (14), 5, 0, 0, 0),
  (22, 1, .iload_n (1), 0, 0, 0, 0),
  (23, 1, .iload_n (2), 0, 0, 0, 0),
  (24, 3, .invokevirtual (74), 0, 0, 0, 0),
  (27, 3, .putfield (78), 5, 10, 0, 0),
  (30, 1, .iconst (1), 0, 0, 1, 0),
  (31, 1, .ireturn, 0, 0, 0, 0)]
def md_Tent_at : Md := (y_Tent_at, prog_1_method_4_code, 4, (some .int), pm_Tent_at)
theorem tk_Tent_at : Tm md_Tent_at := tab_of (o := 5) (by decide +kernel)
set_option maxRecDepth 100000 in
theorem ok_Tent_at : MdOk md_Tent_at 2 ∧ Cond.instanceMethod md_Tent_at.1 ∈ T1 ∧ Cond.selects md_Tent_at.1.cls md_Tent_at.1 md_Tent_at.1 ∈ T1 := ⟨⟨T1_in2 (i := 46) rfl rfl, T1_in1 (i := 1) rfl rfl, by decide +kernel, ⟨by decide +kernel, by decide +kernel⟩, by decide +kernel, by decide⟩, T1_in2 (i := 44) rfl rfl, T1_in2 (i := 45) rfl rfl⟩
def pm_Tent_tear : List PE := [(0, 1, .aload_n (0), 0, 0, 0, 0),
  (1, 1, .aload_n (0), 0, 0, 0, 0),
  (2, 3, .getfield (14), 5, 0, 0, 0),
  (5, 1, .iload_n (1), 0, 0, 0, 0),
  (6, 3, .invokevirtual (86), 0, 0, 0, 0),
  (9, 1, .istore_n (2), 0, 0, 0, 0),
  (10, 1, .iload_n (2), 0, 0, 0, 0),
  (11, 3, .ifCond .eq (5), 16, 0, 0, 0),
  (14, 1, .iload_n (2), 0, 0, 0, 0),
  (15, 1, .ireturn, 0, 0, 0, 0),
  (16, 1, .aload_n (0), 0, 0, 0, 0),
  (17, 3, .getfield (14), 5, 0, 0, 0),
  (20, 1, .iload_n (1), 0, 0, 0, 0),
  (21, 3, .invokevirtual (90), 0, 0, 0, 0),
  (24, 1, .iconst (1), 0, 0, 1, 0),
  (25, 1, .ireturn, 0, 0, 0, 0)]
def md_Tent_tear : Md := (y_Tent_tear, prog_1_method_5_code, 3, (some .int), pm_Tent_tear)
theorem tk_Tent_tear : Tm md_Tent_tear := tab_of (o := 5) (by decide +kernel)
set_option maxRecDepth 100000 in
theorem ok_Tent_tear : MdOk md_Tent_tear 1 ∧ Cond.instanceMethod md_Tent_tear.1 ∈ T1 ∧ Cond.selects md_Tent_tear.1.cls md_Tent_tear.1 md_Tent_tear.1 ∈ T1 := ⟨⟨T1_in2 (i := 50) rfl rfl, T1_in1 (i := 1) rfl rfl, by decide +kernel, ⟨by decide +kernel, by decide +kernel⟩, by decide +kernel, by decide⟩, T1_in2 (i := 48) rfl rfl, T1_in2 (i := 49) rfl rfl⟩
def pm_Shelf_remove : List PE := [(0, 1, .aload_n (0), 0, 0, 0, 0),
  (1, 1, .iload_n (1), 0, 0, 0, 0),
  (2, 3, .invokevirtual (30), 0, 0, 0, 0),
  (5, 3, .ifCond .eq (10), 15, 0, 0, 0),
  (8, 1, .aload_n (0), 0, 0, 0, 0),
  (9, 3, .getfield (13), 4, 1, 0, 0),
  (12, 1, .iload_n (1), 0, 0, 0, 0),
  (13, 1, .iconst (-1), 0, 0, (-1), 0),
  (14, 1, .iastore, 0, 0, 0, 0),
  (15, 1, .return_, 0, 0, 0, 0)]
def md_Shelf_remove : Md := (y_Shelf_remove, prog_6_method_8_code, 2, none, pm_Shelf_remove)
theorem tk_Shelf_remove : Tm md_Shelf_remove := tab_of (o := 4) (by decide +kernel)
set_option maxRecDepth 100000 in
theorem ok_Shelf_remove : MdOk md_Shelf_remove 1 ∧ Cond.instanceMethod md_Shelf_remove.1 ∈ T1 ∧ Cond.selects md_Shelf_remove.1.cls md_Shelf_remove.1 md_Shelf_remove.1 ∈ T1 := ⟨⟨T1_in2 (i := 54) rfl rfl, T1_in1 (i := 2) rfl rfl, by decide +kernel, ⟨by decide +kernel, by decide +kernel⟩, by decide +kernel, by decide⟩, T1_in2 (i := 52) rfl rfl, T1_in2 (i := 53) rfl rfl⟩
def pm_Tent_copy : List PE := [(0, 1, .aload_n (0), 0, 0, 0, 0),
  (1, 3, .getfield (14), 5, 0, 0, 0),
  (4, 1, .iload_n (1), 0, 0, 0, 0),
  (5, 3, .invokevirtual (93), 0, 0, 0, 0),
  (8, 3, .ifCond .eq (14), 22, 0, 0, 0),
  (11, 1, .aload_n (0), 0, 0, 0, 0),
  (12, 3, .getfield (14), 5, 0, 0, 0),
  (15, 1, .iload_n (3), 0, 0, 0, 0),
  (16, 3, .invokevirtual (93), 0, 0, 0, 0),
  (19, 3, .ifCond .ne (5), 24, 0, 0, 0),
  (22, 1, .iconst (-1), 0, 0, (-1), 0),
  (23, 1, .ireturn, 0, 0, 0, 0),
  (24, 2, .iload (5), 0, 0, 0, 0),
  (26, 3, .ifCond .ge (9), 35, 0, 0, 0),
  (29, 1, .aload_n (0), 0, 0, 0, 0),
  (30, 1, .iconst (5), 0, 0, 5, 0),
  (31, 3, .invokevirtual (97), 0, 0, 0, 0),
  (34, 1, .ireturn, 0, 0, 0, 0),
  (35, 1, .aload_n (0), 0, 0, 0, 0),
  (36, 3, .getfield (14), 5, 0, 0, 0),
  (39, 1, .iload_n (1), 0, 0, 0, 0),
  (40, 3, .invokevirtual (101), 0, 0, 0, 0),
  (43, 3, .ifCond .eq (14), 57, 0, 0, 0),
  (46, 1, .aload_n (0), 0, 0, 0, 0),
  (47, 3, .getfield (14), 5, 0, 0, 0),
  (50, 1, .iload_n (3), 0, 0, 0, 0),
  (51, 3, .invokevirtual (101), 0, 0, 0, 0),
  (54, 3, .ifCond .ne (9), 63, 0, 0, 0),
  (57, 1, .aload_n (0), 0, 0, 0, 0),
  (58, 1, .iconst (1), 0, 0, 1, 0),
  (59, 3, .invokevirtual (97), 0, 0, 0, 0),
  (62, 1, .ireturn, 0, 0, 0, 0),
  (63, 1, .aload_n (0), 0, 0, 0, 0),
  (64, 3, .getfield (14), 5, 0, 0, 0),
  (67, 1, .iload_n (1), 0, 0, 0, 0),
  (68, 1, .iload_n (2), 0, 0, 0, 0),
  (69, 2, .iload (5), 0, 0, 0, 0),
  (71, 3, .invokevirtual (104), 0, 0, 0, 0),
  (74, 3, .ifCond .eq (18), 92, 0, 0, 0),
  (77, 1, .aload_n (0), 0, 0, 0, 0),
  (78, 3, .getfield (14), 5, 0, 0, 0),
  (81, 1, .iload_n (3), 0, 0, 0, 0),
  (82, 2, .iload (4), 0, 0, 0, 0),
  (84, 2, .iload (5), 0, 0, 0, 0),
  (86, 3, .invokevirtual (104), 0, 0, 0, 0),
  (89, 3, .ifCond .ne (9), 98, 0, 0, 0),
  (92, 1, .aload_n (0), 0, 0, 0, 0),
  (93, 1, .iconst (2), 0, 0, 2, 0),
  (94, 3, .invokevirtual (97), 0, 0, 0, 0),
  (97, 1, .ireturn, 0, 0, 0, 0),
  (98, 1, .aload_n (0), 0, 0, 0, 0),
  (99, 3, .getfield (14), 5, 0, 0, 0),
  (102, 1, .iload_n (1), 0, 0, 0, 0),
  (103, 1, .iload_n (2), 0, 0, 0, 0),
  (104, 1, .iload_n (3), 0, 0, 0, 0),
  (105, 2, .iload (4), 0, 0, 0, 0),
  (107, 2, .iload (5), 0, 0, 0, 0),
  (109, 3, .invokevirtual (108), 0, 0, 0, 0),
  (112, 1, .iconst (1), 0, 0, 1, 0),
  (113, 1, .ireturn, 0, 0, 0, 0)]
def md_Tent_copy : Md := (y_Tent_copy, prog_1_method_6_code, 6, (some .int), pm_Tent_copy)
theorem tk_Tent_copy : Tm md_Tent_copy := tab_of (o := 5) (by decide +kernel)
set_option maxRecDepth 100000 in
theorem ok_Tent_copy : MdOk md_Tent_copy 5 ∧ Cond.instanceMethod md_Tent_copy.1 ∈ T1 ∧ Cond.selects md_Tent_copy.1.cls md_Tent_copy.1 md_Tent_copy.1 ∈ T1 := ⟨⟨T1_in2 (i := 58) rfl rfl, T1_in1 (i := 1) rfl rfl, by decide +kernel, ⟨by decide +kernel, by decide +kernel⟩, by decide +kernel, by decide⟩, T1_in2 (i := 56) rfl rfl, T1_in2 (i := 57) rfl rfl⟩
def pm_Shelf_hasSpan : List PE := [(0, 1, .iload_n (2), 0, 0, 0, 0),
  (1, 3, .ifCond .lt (22), 23, 0, 0, 0),
  (4, 1, .iload_n (3), 0, 0, 0, 0),
  (5, 3, .ifCond .lt (18), 23, 0, 0, 0),
  (8, 1, .iload_n (2), 0, 0, 0, 0),
  (9, 1, .aload_n (0), 0, 0, 0, 0),
  (10, 1, .iload_n (1), 0, 0, 0, 0),
  (11, 3, .invokevirtual (26), 0, 0, 0, 0),
  (14, 1, .iload_n (3), 0, 0, 0, 0),
  (15, 1, .isub, 0, 0, 0, 0),
  (16, 3, .if_icmp .gt (7), 23, 0, 0, 0),
  (19, 1, .iconst (1), 0, 0, 1, 0),
  (20, 3, .goto (4), 24, 0, 0, 0),
  (23, 1, .iconst (0), 0, 0, 0, 0),
  (24, 1, .ireturn, 0, 0, 0, 0)]
def md_Shelf_hasSpan : Md := (y_Shelf_hasSpan, prog_6_method_5_code, 4, (some .boolean), pm_Shelf_hasSpan)
theorem tk_Shelf_hasSpan : Tm md_Shelf_hasSpan := tab_of (o := 4) (by decide +kernel)
set_option maxRecDepth 100000 in
theorem ok_Shelf_hasSpan : MdOk md_Shelf_hasSpan 3 ∧ Cond.instanceMethod md_Shelf_hasSpan.1 ∈ T1 ∧ Cond.selects md_Shelf_hasSpan.1.cls md_Shelf_hasSpan.1 md_Shelf_hasSpan.1 ∈ T1 := ⟨⟨T1_in2 (i := 62) rfl rfl, T1_in1 (i := 2) rfl rfl, by decide +kernel, ⟨by decide +kernel, by decide +kernel⟩, by decide +kernel, by decide⟩, T1_in2 (i := 60) rfl rfl, T1_in2 (i := 61) rfl rfl⟩
def pm_Shelf_move : List PE := [(0, 1, .aload_n (0), 0, 0, 0, 0),
  (1, 1, .iload_n (1), 0, 0, 0, 0),
  (2, 1, .iload_n (2), 0, 0, 0, 0),
  (3, 2, .iload (5), 0, 0, 0, 0),
  (5, 3, .invokevirtual (41), 0, 0, 0, 0),
  (8, 3, .ifCond .eq (45), 53, 0, 0, 0),
  (11, 1, .aload_n (0), 0, 0, 0, 0),
  (12, 1, .iload_n (3), 0, 0, 0, 0),
  (13, 2, .iload (4), 0, 0, 0, 0),
  (15, 2, .iload (5), 0, 0, 0, 0),
  (17, 3, .invokevirtual (41), 0, 0, 0, 0),
  (20, 3, .ifCond .eq (33), 53, 0, 0, 0),
  (23, 1, .aload_n (0), 0, 0, 0, 0),
  (24, 3, .getfield (17), 4, 2, 0, 0),
  (27, 1, .iload_n (1), 0, 0, 0, 0),
  (28, 1, .aload_n (0), 0, 0, 0, 0),
  (29, 3, .getfield (7), 4, 0, 0, 0),
  (32, 1, .imul, 0, 0, 0, 0),
  (33, 1, .iload_n (2), 0, 0, 0, 0),
  (34, 1, .iadd, 0, 0, 0, 0),
  (35, 1, .aload_n (0), 0, 0, 0, 0),
  (36, 3, .getfield (17), 4, 2, 0, 0),
  (39, 1, .iload_n (3), 0, 0, 0, 0),
  (40, 1, .aload_n (0), 0, 0, 0, 0),
  (41, 3, .getfield (7), 4, 0, 0, 0),
  (44, 1, .imul, 0, 0, 0, 0),
  (45, 2, .iload (4), 0, 0, 0, 0),
  (47, 1, .iadd, 0, 0, 0, 0),
  (48, 2, .iload (5), 0, 0, 0, 0),
  (50, 3, .invokestatic (45), 0, 0, 0, 0),
  (53, 1, .return_, 0, 0, 0, 0)]
def md_Shelf_move : Md := (y_Shelf_move, prog_6_method_11_code, 6, none, pm_Shelf_move)
theorem tk_Shelf_move : Tm md_Shelf_move := tab_of (o := 4) (by decide +kernel)
set_option maxRecDepth 100000 in
theorem ok_Shelf_move : MdOk md_Shelf_move 5 ∧ Cond.instanceMethod md_Shelf_move.1 ∈ T1 ∧ Cond.selects md_Shelf_move.1.cls md_Shelf_move.1 md_Shelf_move.1 ∈ T1 := ⟨⟨T1_in2 (i := 66) rfl rfl, T1_in1 (i := 2) rfl rfl, by decide +kernel, ⟨by decide +kernel, by decide +kernel⟩, by decide +kernel, by decide⟩, T1_in2 (i := 64) rfl rfl, T1_in2 (i := 65) rfl rfl⟩
def pm_Tent_mean : List PE := [(0, 1, .aload_n (0), 0, 0, 0, 0),
  (1, 1, .aload_n (0), 0, 0, 0, 0),
  (2, 3, .getfield (14), 5, 0, 0, 0),
  (5, 1, .iload_n (1), 0, 0, 0, 0),
  (6, 3, .invokevirtual (86), 0, 0, 0, 0),
  (9, 1, .istore_n (2), 0, 0, 0, 0),
  (10, 1, .iload_n (2), 0, 0, 0, 0),
  (11, 3, .ifCond .eq (5), 16, 0, 0, 0),
  (14, 1, .iload_n (2), 0, 0, 0, 0),
  (15, 1, .ireturn, 0, 0, 0, 0),
  (16, 1, .aload_n (0), 0, 0, 0, 0),
  (17, 3, .getfield (14), 5, 0, 0, 0),
  (20, 1, .iload_n (1), 0, 0, 0, 0),
  (21, 3, .invokevirtual (112), 0, 0, 0, 0),
  (24, 1, .istore_n (3), 0, 0, 0, 0),
  (25, 1, .iload_n (3), 0, 0, 0, 0),
  (26, 3, .ifCond .gt (9), 35, 0, 0, 0),
  (29, 1, .aload_n (0), 0, 0, 0, 0),
  (30, 1, .iconst (4), 0, 0, 4, 0),
  (31, 3, .invokevirtual (97), 0, 0, 0, 0),
  (34, 1, .ireturn, 0, 0, 0, 0),
  (35, 1, .aload_n (0), 0, 0, 0, 0),
  (36, 1, .aload_n (0), 0, 0, 0, 0),
  (37, 3, .getfield (14), 5, 0, 0, 0),
  (40, 1, .iload_n (1), 0, 0, 0, 0),
  (41, 3, .invokevirtual (115), 0, 0, 0, 0),
  (44, 1, .iload_n (3), 0, 0, 0, 0),
  (45, 1, .i2l, 0, 0, 0, 0),
  (46, 1, .ldiv, 0, 0, 0, 0),
  (47, 1, .l2i, 0, 0, 0, 0),
  (48, 3, .putfield (78), 5, 10, 0, 0),
  (51, 1, .iconst (1), 0, 0, 1, 0),
  (52, 1, .ireturn, 0, 0, 0, 0)]
def md_Tent_mean : Md := (y_Tent_mean, prog_1_method_7_code, 4, (some .int), pm_Tent_mean)
theorem tk_Tent_mean : Tm md_Tent_mean := tab_of (o := 5) (by decide +kernel)
set_option maxRecDepth 100000 in
theorem ok_Tent_mean : MdOk md_Tent_mean 1 ∧ Cond.instanceMethod md_Tent_mean.1 ∈ T1 ∧ Cond.selects md_Tent_mean.1.cls md_Tent_mean.1 md_Tent_mean.1 ∈ T1 := ⟨⟨T1_in2 (i := 74) rfl rfl, T1_in1 (i := 1) rfl rfl, by decide +kernel, ⟨by decide +kernel, by decide +kernel⟩, by decide +kernel, by decide⟩, T1_in2 (i := 72) rfl rfl, T1_in2 (i := 73) rfl rfl⟩
def pm_Shelf_sum : List PE := [(0, 1, .lconst (0), 0, 0, 0, 0),
  (1, 1, .lstore_n (2), 0, 0, 0, 0),
  (2, 1, .iconst (0), 0, 0, 0, 0),
  (3, 2, .istore (4), 0, 0, 0, 0),
  (5, 2, .iload (4), 0, 0, 0, 0),
  (7, 1, .aload_n (0), 0, 0, 0, 0),
  (8, 1, .iload_n (1), 0, 0, 0, 0),
  (9, 3, .invokevirtual (26), 0, 0, 0, 0),
  (12, 3, .if_icmp .ge (20), 32, 0, 0, 0),
  (15, 1, .lload_n (2), 0, 0, 0, 0),
  (16, 1, .aload_n (0), 0, 0, 0, 0),
  (17, 1, .iload_n (1), 0, 0, 0, 0),
  (18, 2, .iload (4), 0, 0, 0, 0),
  (20, 3, .invokevirtual (51), 0, 0, 0, 0),
  (23, 1, .i2l, 0, 0, 0, 0),
  (24, 1, .ladd, 0, 0, 0, 0),
  (25, 1, .lstore_n (2), 0, 0, 0, 0),
  (26, 3, .iinc (4) (1), 0, 0, 1, 0),
  (29, 3, .goto (-24), 5, 0, 0, 0),
  (32, 1, .lload_n (2), 0, 0, 0, 0),
  (33, 1, .lreturn, 0, 0, 0, 0)]
def md_Shelf_sum : Md := (y_Shelf_sum, prog_6_method_12_code, 5, (some .long), pm_Shelf_sum)
theorem tk_Shelf_sum : Tm md_Shelf_sum := tab_of (o := 4) (by decide +kernel)
set_option maxRecDepth 100000 in
theorem ok_Shelf_sum : MdOk md_Shelf_sum 1 ∧ Cond.instanceMethod md_Shelf_sum.1 ∈ T1 ∧ Cond.selects md_Shelf_sum.1.cls md_Shelf_sum.1 md_Shelf_sum.1 ∈ T1 := ⟨⟨T1_in2 (i := 79) rfl rfl, T1_in1 (i := 2) rfl rfl, by decide +kernel, ⟨by decide +kernel, by decide +kernel⟩, by decide +kernel, by decide⟩, T1_in2 (i := 77) rfl rfl, T1_in2 (i := 78) rfl rfl⟩
def pm_Tent_text : List PE := [(0, 1, .aload_n (0), 0, 0, 0, 0),
  (1, 1, .aload_n (0), 0, 0, 0, 0),
  (2, 3, .getfield (18), 5, 1, 0, 0),
  (5, 1, .iload_n (1), 0, 0, 0, 0),
  (6, 1, .iload_n (2), 0, 0, 0, 0),
  (7, 2, .bipush (32), 0, 0, 32, 0),
  (9, 3, .invokevirtual (66), 0, 0, 0, 0),
  (12, 1, .ireturn, 0, 0, 0, 0)]
def md_Tent_text : Md := (y_Tent_text, prog_1_method_8_code, 3, (some .int), pm_Tent_text)
theorem tk_Tent_text : Tm md_Tent_text := tab_of (o := 5) (by decide +kernel)
set_option maxRecDepth 100000 in
theorem ok_Tent_text : MdOk md_Tent_text 2 ∧ Cond.instanceMethod md_Tent_text.1 ∈ T1 ∧ Cond.selects md_Tent_text.1.cls md_Tent_text.1 md_Tent_text.1 ∈ T1 := ⟨⟨T1_in2 (i := 84) rfl rfl, T1_in1 (i := 1) rfl rfl, by decide +kernel, ⟨by decide +kernel, by decide +kernel⟩, by decide +kernel, by decide⟩, T1_in2 (i := 82) rfl rfl, T1_in2 (i := 83) rfl rfl⟩
def pm_Tent_put : List PE := [(0, 1, .aload_n (0), 0, 0, 0, 0),
  (1, 1, .aload_n (0), 0, 0, 0, 0),
  (2, 3, .getfield (18), 5, 1, 0, 0),
  (5, 1, .iload_n (1), 0, 0, 0, 0),
  (6, 1, .iload_n (2), 0, 0, 0, 0),
  (7, 3, .invokevirtual (70), 0, 0, 0, 0),
  (10, 2, .istore (4), 0, 0, 0, 0),
  (12, 2, .iload (4), 0, 0, 0, 0),
  (14, 3, .ifCond .eq (6), 20, 0, 0, 0),
  (17, 2, .iload (4), 0, 0, 0, 0),
  (19, 1, .ireturn, 0, 0, 0, 0),
  (20, 1, .aload_n (0), 0, 0, 0, 0),
  (21, 3, .getfield (18), 5, 1, 0, 0),
  (24, 1, .iload_n (1), 0, 0, 0, 0),
  (25, 1, .iload_n (2), 0, 0, 0, 0),
  (26, 3, .invokevirtual (74), 0, 0, 0, 0),
  (29, 2, .istore (5), 0, 0, 0, 0),
  (31, 1, .aload_n (0), 0, 0, 0, 0),
  (32, 3, .getfield (18), 5, 1, 0, 0),
  (35, 1, .iload_n (1), 0, 0, 0, 0),
  (36, 1, .iload_n (2), 0, 0, 0, 0),
  (37, 1, .iload_n (3), 0, 0, 0, 0),
  (38, 1, .i2b, 0, 0, 0, 0),
  (39, 3, .invokevirtual (82), 0, 0, 0, 0),
  (42, 2, .iload (5), 0, 0, 0, 0),
  (44, 3, .sipush (1000), 0, 0, 1000, 0),
  (47, 1, .iadd, 0, 0, 0, 0),
  (48, 1, .ireturn, 0, 0, 0, 0)]
def md_Tent_put : Md := (y_Tent_put, prog_1_method_9_code, 6, (some .int), pm_Tent_put)
theorem tk_Tent_put : Tm md_Tent_put := tab_of (o := 5) (by decide +kernel)
set_option maxRecDepth 100000 in
theorem ok_Tent_put : MdOk md_Tent_put 3 ∧ Cond.instanceMethod md_Tent_put.1 ∈ T1 ∧ Cond.selects md_Tent_put.1.cls md_Tent_put.1 md_Tent_put.1 ∈ T1 := ⟨⟨T1_in2 (i := 88) rfl rfl, T1_in1 (i := 1) rfl rfl, by decide +kernel, ⟨by decide +kernel, by decide +kernel⟩, by decide +kernel, by decide⟩, T1_in2 (i := 86) rfl rfl, T1_in2 (i := 87) rfl rfl⟩
def pm_Tent_fault : List PE := [(0, 1, .aload_n (0), 0, 0, 0, 0),
  (1, 1, .aload_n (0), 0, 0, 0, 0),
  (2, 3, .getfield (18), 5, 1, 0, 0),
  (5, 1, .iload_n (1), 0, 0, 0, 0),
  (6, 3, .invokevirtual (86), 0, 0, 0, 0),
  (9, 1, .istore_n (2), 0, 0, 0, 0),
  (10, 1, .iload_n (2), 0, 0, 0, 0),
  (11, 3, .ifCond .eq (7), 18, 0, 0, 0),
  (14, 1, .iload_n (2), 0, 0, 0, 0),
  (15, 3, .goto (15), 30, 0, 0, 0),
  (18, 1, .aload_n (0), 0, 0, 0, 0),
  (19, 3, .getfield (40), 5, 5, 0, 0),
  (22, 1, .aload_n (0), 0, 0, 0, 0),
  (23, 3, .getfield (18), 5, 1, 0, 0),
  (26, 1, .iload_n (1), 0, 0, 0, 0),
  (27, 3, .invokevirtual (119), 0, 0, 0, 0),
  (30, 1, .ireturn, 0, 0, 0, 0)]
def md_Tent_fault : Md := (y_Tent_fault, prog_1_method_10_code, 3, (some .int), pm_Tent_fault)
theorem tk_Tent_fault : Tm md_Tent_fault := tab_of (o := 5) (by decide +kernel)
set_option maxRecDepth 100000 in
theorem ok_Tent_fault : MdOk md_Tent_fault 1 ∧ Cond.instanceMethod md_Tent_fault.1 ∈ T1 ∧ Cond.selects md_Tent_fault.1.cls md_Tent_fault.1 md_Tent_fault.1 ∈ T1 := ⟨⟨T1_in2 (i := 92) rfl rfl, T1_in1 (i := 1) rfl rfl, by decide +kernel, ⟨by decide +kernel, by decide +kernel⟩, by decide +kernel, by decide⟩, T1_in2 (i := 90) rfl rfl, T1_in2 (i := 91) rfl rfl⟩
def pm_Reader_read : List PE := [(0, 1, .aload_n (0), 0, 0, 0, 0),
  (1, 1, .aload_n (1), 0, 0, 0, 0),
  (2, 1, .iload_n (2), 0, 0, 0, 0),
  (3, 3, .invokevirtual (24), 0, 0, 0, 0),
  (6, 1, .aload_n (0), 0, 0, 0, 0),
  (7, 3, .getfield (14), 3, 0, 0, 0),
  (10, 3, .invokevirtual (28), 0, 0, 0, 0),
  (13, 1, .aload_n (0), 0, 0, 0, 0),
  (14, 3, .invokevirtual (31), 0, 0, 0, 0),
  (17, 3, .ifCond .ne (8), 25, 0, 0, 0),
  (20, 1, .aload_n (0), 0, 0, 0, 0),
  (21, 3, .getfield (35), 3, 3, 0, 0),
  (24, 1, .ireturn, 0, 0, 0, 0),
  (25, 1, .iconst (0), 0, 0, 0, 0),
  (26, 1, .istore_n (3), 0, 0, 0, 0),
  (27, 1, .iload_n (3), 0, 0, 0, 0),
  (28, 1, .iconst (5), 0, 0, 5, 0),
  (29, 3, .if_icmp .ge (42), 71, 0, 0, 0),
  (32, 1, .aload_n (0), 0, 0, 0, 0),
  (33, 3, .invokevirtual (39), 0, 0, 0, 0),
  (36, 1, .iload_n (3), 0, 0, 0, 0),
  (37, 3, .ifCond .le (16), 53, 0, 0, 0),
  (40, 1, .aload_n (0), 0, 0, 0, 0),
  (41, 3, .invokevirtual (42), 0, 0, 0, 0),
  (44, 3, .sipush (1000), 0, 0, 1000, 0),
  (47, 3, .if_icmp .ne (6), 53, 0, 0, 0),
  (50, 2, .bipush (-9), 0, 0, (-9), 0),
  (52, 1, .ireturn, 0, 0, 0, 0),
  (53, 1, .aload_n (0), 0, 0, 0, 0),
  (54, 3, .invokevirtual (46), 0, 0, 0, 0),
  (57, 3, .ifCond .ne (8), 65, 0, 0, 0),
  (60, 1, .aload_n (0), 0, 0, 0, 0),
  (61, 3, .getfield (35), 3, 3, 0, 0),
  (64, 1, .ireturn, 0, 0, 0, 0),
  (65, 3, .iinc (3) (1), 0, 0, 1, 0),
  (68, 3, .goto (-41), 27, 0, 0, 0),
  (71, 1, .aload_n (0), 0, 0, 0, 0),
  (72, 3, .invokevirtual (39), 0, 0, 0, 0),
  (75, 1, .aload_n (0), 0, 0, 0, 0),
  (76, 3, .invokevirtual (42), 0, 0, 0, 0),
  (79, 3, .sipush (1000), 0, 0, 1000, 0),
  (82, 3, .if_icmp .ne (8), 90, 0, 0, 0),
  (85, 2, .bipush (-9), 0, 0, (-9), 0),
  (87, 3, .goto (7), 94, 0, 0, 0),
  (90, 1, .aload_n (0), 0, 0, 0, 0),
  (91, 3, .getfield (35), 3, 3, 0, 0),
  (94, 1, .ireturn, 0, 0, 0, 0)]
def md_Reader_read : Md := (y_Reader_read, prog_5_method_2_code, 4, (some .int), pm_Reader_read)
theorem tk_Reader_read : Tm md_Reader_read := tab_of (o := 3) (by decide +kernel)
set_option maxRecDepth 100000 in
theorem ok_Reader_read : MdOk md_Reader_read 2 ∧ Cond.instanceMethod md_Reader_read.1 ∈ T1 ∧ Cond.selects md_Reader_read.1.cls md_Reader_read.1 md_Reader_read.1 ∈ T1 := ⟨⟨T1_in2 (i := 96) rfl rfl, T1_in1 (i := 5) rfl rfl, by decide +kernel, ⟨by decide +kernel, by decide +kernel⟩, by decide +kernel, by decide⟩, T1_in2 (i := 94) rfl rfl, T1_in2 (i := 95) rfl rfl⟩
def pm_Reader_take : List PE := [(0, 1, .aload_n (0), 0, 0, 0, 0),
  (1, 1, .aload_n (1), 0, 0, 0, 0),
  (2, 1, .iload_n (2), 0, 0, 0, 0),
  (3, 3, .invokevirtual (49), 0, 0, 0, 0),
  (6, 2, .bipush (60), 0, 0, 60, 0),
  (8, 3, .invokestatic (55), 0, 0, 0, 0),
  (11, 3, .putfield (61), 3, 2, 0, 0),
  (14, 1, .aload_n (0), 0, 0, 0, 0),
  (15, 1, .iconst (0), 0, 0, 0, 0),
  (16, 3, .putfield (35), 3, 3, 0, 0),
  (19, 1, .iconst (0), 0, 0, 0, 0),
  (20, 1, .istore_n (3), 0, 0, 0, 0),
  (21, 1, .iload_n (3), 0, 0, 0, 0),
  (22, 1, .aload_n (0), 0, 0, 0, 0),
  (23, 3, .getfield (61), 3, 2, 0, 0),
  (26, 3, .if_icmp .ge (21), 47, 0, 0, 0),
  (29, 1, .aload_n (0), 0, 0, 0, 0),
  (30, 3, .getfield (20), 3, 1, 0, 0),
  (33, 1, .iload_n (3), 0, 0, 0, 0),
  (34, 1, .aload_n (1), 0, 0, 0, 0),
  (35, 1, .iload_n (2), 0, 0, 0, 0),
  (36, 1, .iload_n (3), 0, 0, 0, 0),
  (37, 3, .invokevirtual (64), 0, 0, 0, 0),
  (40, 1, .iastore, 0, 0, 0, 0),
  (41, 3, .iinc (3) (1), 0, 0, 1, 0),
  (44, 3, .goto (-23), 21, 0, 0, 0),
  (47, 1, .return_, 0, 0, 0, 0)]
def md_Reader_take : Md := (y_Reader_take, prog_5_method_3_code, 4, none, pm_Reader_take)
theorem tk_Reader_take : Tm md_Reader_take := tab_of (o := 3) (by decide +kernel)
set_option maxRecDepth 100000 in
theorem ok_Reader_take : MdOk md_Reader_take 2 ∧ Cond.instanceMethod md_Reader_take.1 ∈ T1 ∧ Cond.selects md_Reader_take.1.cls md_Reader_take.1 md_Reader_take.1 ∈ T1 := ⟨⟨T1_in2 (i := 100) rfl rfl, T1_in1 (i := 5) rfl rfl, by decide +kernel, ⟨by decide +kernel, by decide +kernel⟩, by decide +kernel, by decide⟩, T1_in2 (i := 99) rfl rfl, T1_inP (i := 4) rfl⟩
def pm_Camp_begin : List PE := [(0, 1, .aload_n (0), 0, 0, 0, 0),
  (1, 1, .iconst (0), 0, 0, 0, 0),
  (2, 3, .putfield (42), 0, 10, 0, 0),
  (5, 1, .aload_n (0), 0, 0, 0, 0),
  (6, 1, .iconst (0), 0, 0, 0, 0),
  (7, 3, .putfield (46), 0, 11, 0, 0),
  (10, 1, .aload_n (0), 0, 0, 0, 0),
  (11, 1, .iconst (0), 0, 0, 0, 0),
  (12, 3, .putfield (49), 0, 12, 0, 0),
  (15, 1, .aload_n (0), 0, 0, 0, 0),
  (16, 1, .iconst (0), 0, 0, 0, 0),
  (17, 3, .putfield (52), 0, 13, 0, 0),
  (20, 1, .aload_n (0), 0, 0, 0, 0),
  (21, 1, .iconst (0), 0, 0, 0, 0),
  (22, 3, .putfield (55), 0, 14, 0, 0),
  (25, 1, .aload_n (0), 0, 0, 0, 0),
  (26, 1, .iconst (0), 0, 0, 0, 0),
  (27, 3, .putfield (58), 0, 15, 0, 0),
  (30, 1, .aload_n (0), 0, 0, 0, 0),
  (31, 1, .iconst (0), 0, 0, 0, 0),
  (32, 3, .putfield (61), 0, 16, 0, 0),
  (35, 1, .return_, 0, 0, 0, 0)]
def md_Camp_begin : Md := (y_Camp_begin, prog_2_method_2_code, 1, none, pm_Camp_begin)
theorem tk_Camp_begin : Tm md_Camp_begin := tab_of (o := 0) (by decide +kernel)
set_option maxRecDepth 100000 in
theorem ok_Camp_begin : MdOk md_Camp_begin 0 ∧ Cond.instanceMethod md_Camp_begin.1 ∈ T1 ∧ Cond.selects md_Camp_begin.1.cls md_Camp_begin.1 md_Camp_begin.1 ∈ T1 := ⟨⟨T1_in2 (i := 109) rfl rfl, T1_in1 (i := 4) rfl rfl, by decide +kernel, ⟨by decide +kernel, by decide +kernel⟩, by decide +kernel, by decide⟩, T1_in2 (i := 107) rfl rfl, T1_in2 (i := 108) rfl rfl⟩
def pm_Reader_readCold : List PE := [(0, 1, .aload_n (0), 0, 0, 0, 0),
  (1, 3, .invokevirtual (39), 0, 0, 0, 0),
  (4, 1, .aload_n (0), 0, 0, 0, 0),
  (5, 3, .invokevirtual (42), 0, 0, 0, 0),
  (8, 2, .bipush (99), 0, 0, 99, 0),
  (10, 3, .if_icmp .eq (5), 15, 0, 0, 0),
  (13, 1, .iconst (0), 0, 0, 0, 0),
  (14, 1, .ireturn, 0, 0, 0, 0),
  (15, 1, .aload_n (0), 0, 0, 0, 0),
  (16, 1, .dup, 0, 0, 0, 0),
  (17, 3, .getfield (35), 3, 3, 0, 0),
  (20, 1, .iconst (1), 0, 0, 1, 0),
  (21, 1, .iadd, 0, 0, 0, 0),
  (22, 3, .putfield (35), 3, 3, 0, 0),
  (25, 1, .iconst (0), 0, 0, 0, 0),
  (26, 1, .istore_n (1), 0, 0, 0, 0),
  (27, 1, .iload_n (1), 0, 0, 0, 0),
  (28, 2, .bipush (8), 0, 0, 8, 0),
  (30, 3, .if_icmp .ge (35), 65, 0, 0, 0),
  (33, 1, .aload_n (0), 0, 0, 0, 0),
  (34, 2, .bipush (9), 0, 0, 9, 0),
  (36, 3, .invokevirtual (67), 0, 0, 0, 0),
  (39, 1, .istore_n (2), 0, 0, 0, 0),
  (40, 1, .iload_n (2), 0, 0, 0, 0),
  (41, 3, .sipush (1000), 0, 0, 1000, 0),
  (44, 3, .if_icmp .ne (5), 49, 0, 0, 0),
  (47, 1, .iconst (0), 0, 0, 0, 0),
  (48, 1, .ireturn, 0, 0, 0, 0),
  (49, 1, .aload_n (0), 0, 0, 0, 0),
  (50, 3, .getfield (14), 3, 0, 0, 0),
  (53, 3, .getfield (70), 0, 0, 0, 0),
  (56, 1, .iload_n (1), 0, 0, 0, 0),
  (57, 1, .iload_n (2), 0, 0, 0, 0),
  (58, 1, .iastore, 0, 0, 0, 0),
  (59, 3, .iinc (1) (1), 0, 0, 1, 0),
  (62, 3, .goto (-35), 27, 0, 0, 0),
  (65, 1, .iconst (1), 0, 0, 1, 0),
  (66, 1, .ireturn, 0, 0, 0, 0)]
def md_Reader_readCold : Md := (y_Reader_readCold, prog_5_method_4_code, 3, (some .boolean), pm_Reader_readCold)
theorem tk_Reader_readCold : Tm md_Reader_readCold := tab_of (o := 3) (by decide +kernel)
set_option maxRecDepth 100000 in
theorem ok_Reader_readCold : MdOk md_Reader_readCold 0 ∧ Cond.instanceMethod md_Reader_readCold.1 ∈ T1 ∧ Cond.selects md_Reader_readCold.1.cls md_Reader_readCold.1 md_Reader_readCold.1 ∈ T1 := ⟨⟨T1_in2 (i := 113) rfl rfl, T1_in1 (i := 5) rfl rfl, by decide +kernel, ⟨by decide +kernel, by decide +kernel⟩, by decide +kernel, by decide⟩, T1_in2 (i := 112) rfl rfl, T1_inP (i := 5) rfl⟩
def pm_Reader_skipBlanks : List PE := [(0, 1, .aload_n (0), 0, 0, 0, 0),
  (1, 3, .getfield (35), 3, 3, 0, 0),
  (4, 1, .aload_n (0), 0, 0, 0, 0),
  (5, 3, .getfield (61), 3, 2, 0, 0),
  (8, 3, .if_icmp .ge (25), 33, 0, 0, 0),
  (11, 1, .aload_n (0), 0, 0, 0, 0),
  (12, 3, .invokevirtual (42), 0, 0, 0, 0),
  (15, 2, .bipush (32), 0, 0, 32, 0),
  (17, 3, .if_icmp .ne (16), 33, 0, 0, 0),
  (20, 1, .aload_n (0), 0, 0, 0, 0),
  (21, 1, .dup, 0, 0, 0, 0),
  (22, 3, .getfield (35), 3, 3, 0, 0),
  (25, 1, .iconst (1), 0, 0, 1, 0),
  (26, 1, .iadd, 0, 0, 0, 0),
  (27, 3, .putfield (35), 3, 3, 0, 0),
  (30, 3, .goto (-30), 0, 0, 0, 0),
  (33, 1, .return_, 0, 0, 0, 0)]
def md_Reader_skipBlanks : Md := (y_Reader_skipBlanks, prog_5_method_7_code, 1, none, pm_Reader_skipBlanks)
theorem tk_Reader_skipBlanks : Tm md_Reader_skipBlanks := tab_of (o := 3) (by decide +kernel)
set_option maxRecDepth 100000 in
theorem ok_Reader_skipBlanks : MdOk md_Reader_skipBlanks 0 ∧ Cond.instanceMethod md_Reader_skipBlanks.1 ∈ T1 ∧ Cond.selects md_Reader_skipBlanks.1.cls md_Reader_skipBlanks.1 md_Reader_skipBlanks.1 ∈ T1 := ⟨⟨T1_in2 (i := 117) rfl rfl, T1_in1 (i := 5) rfl rfl, by decide +kernel, ⟨by decide +kernel, by decide +kernel⟩, by decide +kernel, by decide⟩, T1_in2 (i := 116) rfl rfl, T1_inP (i := 6) rfl⟩
def pm_Reader_sign : List PE := [(0, 1, .aload_n (0), 0, 0, 0, 0),
  (1, 3, .getfield (35), 3, 3, 0, 0),
  (4, 1, .aload_n (0), 0, 0, 0, 0),
  (5, 3, .getfield (61), 3, 2, 0, 0),
  (8, 3, .if_icmp .ge (15), 23, 0, 0, 0),
  (11, 1, .aload_n (0), 0, 0, 0, 0),
  (12, 3, .getfield (20), 3, 1, 0, 0),
  (15, 1, .aload_n (0), 0, 0, 0, 0),
  (16, 3, .getfield (35), 3, 3, 0, 0),
  (19, 1, .iaload, 0, 0, 0, 0),
  (20, 3, .goto (6), 26, 0, 0, 0),
  (23, 3, .sipush (1000), 0, 0, 1000, 0),
  (26, 1, .ireturn, 0, 0, 0, 0)]
def md_Reader_sign : Md := (y_Reader_sign, prog_5_method_8_code, 1, (some .int), pm_Reader_sign)
theorem tk_Reader_sign : Tm md_Reader_sign := tab_of (o := 3) (by decide +kernel)
set_option maxRecDepth 100000 in
theorem ok_Reader_sign : MdOk md_Reader_sign 0 ∧ Cond.instanceMethod md_Reader_sign.1 ∈ T1 ∧ Cond.selects md_Reader_sign.1.cls md_Reader_sign.1 md_Reader_sign.1 ∈ T1 := ⟨⟨T1_in2 (i := 121) rfl rfl, T1_in1 (i := 5) rfl rfl, by decide +kernel, ⟨by decide +kernel, by decide +kernel⟩, by decide +kernel, by decide⟩, T1_in2 (i := 120) rfl rfl, T1_inP (i := 7) rfl⟩
def pm_Reader_readFigure : List PE := [(0, 1, .aload_n (0), 0, 0, 0, 0),
  (1, 3, .invokevirtual (42), 0, 0, 0, 0),
  (4, 2, .bipush (48), 0, 0, 48, 0),
  (6, 1, .isub, 0, 0, 0, 0),
  (7, 1, .istore_n (2), 0, 0, 0, 0),
  (8, 1, .iload_n (2), 0, 0, 0, 0),
  (9, 3, .ifCond .lt (8), 17, 0, 0, 0),
  (12, 1, .iload_n (2), 0, 0, 0, 0),
  (13, 1, .iload_n (1), 0, 0, 0, 0),
  (14, 3, .if_icmp .le (7), 21, 0, 0, 0),
  (17, 3, .sipush (1000), 0, 0, 1000, 0),
  (20, 1, .ireturn, 0, 0, 0, 0),
  (21, 1, .aload_n (0), 0, 0, 0, 0),
  (22, 1, .dup, 0, 0, 0, 0),
  (23, 3, .getfield (35), 3, 3, 0, 0),
  (26, 1, .iconst (1), 0, 0, 1, 0),
  (27, 1, .iadd, 0, 0, 0, 0),
  (28, 3, .putfield (35), 3, 3, 0, 0),
  (31, 1, .iload_n (2), 0, 0, 0, 0),
  (32, 1, .ireturn, 0, 0, 0, 0)]
def md_Reader_readFigure : Md := (y_Reader_readFigure, prog_5_method_6_code, 3, (some .int), pm_Reader_readFigure)
theorem tk_Reader_readFigure : Tm md_Reader_readFigure := tab_of (o := 3) (by decide +kernel)
set_option maxRecDepth 100000 in
theorem ok_Reader_readFigure : MdOk md_Reader_readFigure 1 ∧ Cond.instanceMethod md_Reader_readFigure.1 ∈ T1 ∧ Cond.selects md_Reader_readFigure.1.cls md_Reader_readFigure.1 md_Reader_readFigure.1 ∈ T1 := ⟨⟨T1_in2 (i := 125) rfl rfl, T1_in1 (i := 5) rfl rfl, by decide +kernel, ⟨by decide +kernel, by decide +kernel⟩, by decide +kernel, by decide⟩, T1_in2 (i := 124) rfl rfl, T1_inP (i := 8) rfl⟩
def pm_Reader_readSleeper : List PE := [(0, 1, .aload_n (0), 0, 0, 0, 0),
  (1, 3, .invokevirtual (42), 0, 0, 0, 0),
  (4, 3, .invokestatic (73), 0, 0, 0, 0),
  (7, 1, .istore_n (1), 0, 0, 0, 0),
  (8, 1, .iload_n (1), 0, 0, 0, 0),
  (9, 2, .bipush (-9), 0, 0, (-9), 0),
  (11, 3, .if_icmp .ne (5), 16, 0, 0, 0),
  (14, 1, .iconst (0), 0, 0, 0, 0),
  (15, 1, .ireturn, 0, 0, 0, 0),
  (16, 1, .aload_n (0), 0, 0, 0, 0),
  (17, 1, .dup, 0, 0, 0, 0),
  (18, 3, .getfield (35), 3, 3, 0, 0),
  (21, 1, .iconst (1), 0, 0, 1, 0),
  (22, 1, .iadd, 0, 0, 0, 0),
  (23, 3, .putfield (35), 3, 3, 0, 0),
  (26, 1, .aload_n (0), 0, 0, 0, 0),
  (27, 1, .iconst (5), 0, 0, 5, 0),
  (28, 3, .invokevirtual (67), 0, 0, 0, 0),
  (31, 1, .istore_n (2), 0, 0, 0, 0),
  (32, 1, .iload_n (2), 0, 0, 0, 0),
  (33, 3, .sipush (1000), 0, 0, 1000, 0),
  (36, 3, .if_icmp .ne (5), 41, 0, 0, 0),
  (39, 1, .iconst (0), 0, 0, 0, 0),
  (40, 1, .ireturn, 0, 0, 0, 0),
  (41, 1, .aload_n (0), 0, 0, 0, 0),
  (42, 2, .bipush (9), 0, 0, 9, 0),
  (44, 3, .invokevirtual (67), 0, 0, 0, 0),
  (47, 1, .istore_n (3), 0, 0, 0, 0),
  (48, 1, .iload_n (3), 0, 0, 0, 0),
  (49, 3, .sipush (1000), 0, 0, 1000, 0),
  (52, 3, .if_icmp .ne (5), 57, 0, 0, 0),
  (55, 1, .iconst (0), 0, 0, 0, 0),
  (56, 1, .ireturn, 0, 0, 0, 0),
  (57, 1, .aload_n (0), 0, 0, 0, 0),
  (58, 3, .getfield (14), 3, 0, 0, 0),
  (61, 1, .iload_n (1), 0, 0, 0, 0),
  (62, 1, .iload_n (2), 0, 0, 0, 0),
  (63, 1, .iload_n (3), 0, 0, 0, 0),
  (64, 3, .invokevirtual (76), 0, 0, 0, 0),
  (67, 1, .iconst (1), 0, 0, 1, 0),
  (68, 1, .ireturn, 0, 0, 0, 0)]
def md_Reader_readSleeper : Md := (y_Reader_readSleeper, prog_5_method_5_code, 4, (some .boolean), pm_Reader_readSleeper)
theorem tk_Reader_readSleeper : Tm md_Reader_readSleeper := tab_of (o := 3) (by decide +kernel)
set_option maxRecDepth 100000 in
theorem ok_Reader_readSleeper : MdOk md_Reader_readSleeper 0 ∧ Cond.instanceMethod md_Reader_readSleeper.1 ∈ T1 ∧ Cond.selects md_Reader_readSleeper.1.cls md_Reader_readSleeper.1 md_Reader_readSleeper.1 ∈ T1 := ⟨⟨T1_in2 (i := 129) rfl rfl, T1_in1 (i := 5) rfl rfl, by decide +kernel, ⟨by decide +kernel, by decide +kernel⟩, by decide +kernel, by decide⟩, T1_in2 (i := 128) rfl rfl, T1_inP (i := 9) rfl⟩
def pm_Reader_kindOf : List PE := [(0, 1, .iload_n (0), 0, 0, 0, 0),
  (1, 83, .tableswitch (95) (100) (116) #[(87), (95), (95), (95), (89), (95), (95), (93), (95), (95), (85), (95), (95), (95), (95), (83), (91)], 0, 0, 0, 0),
  (84, 1, .iconst (0), 0, 0, 0, 0),
  (85, 1, .ireturn, 0, 0, 0, 0),
  (86, 1, .iconst (1), 0, 0, 1, 0),
  (87, 1, .ireturn, 0, 0, 0, 0),
  (88, 1, .iconst (2), 0, 0, 2, 0),
  (89, 1, .ireturn, 0, 0, 0, 0),
  (90, 1, .iconst (3), 0, 0, 3, 0),
  (91, 1, .ireturn, 0, 0, 0, 0),
  (92, 1, .iconst (4), 0, 0, 4, 0),
  (93, 1, .ireturn, 0, 0, 0, 0),
  (94, 1, .iconst (5), 0, 0, 5, 0),
  (95, 1, .ireturn, 0, 0, 0, 0),
  (96, 2, .bipush (-9), 0, 0, (-9), 0),
  (98, 1, .ireturn, 0, 0, 0, 0)]
def md_Reader_kindOf : Md := (y_Reader_kindOf, prog_5_method_9_code, 1, (some .int), pm_Reader_kindOf)
theorem tk_Reader_kindOf : Tm md_Reader_kindOf := tab_of (o := 3) (by decide +kernel)
set_option maxRecDepth 100000 in
theorem ok_Reader_kindOf : MdOk md_Reader_kindOf 1 ∧ Cond.static md_Reader_kindOf.1 ∈ T1 := ⟨⟨T1_in2 (i := 132) rfl rfl, T1_in1 (i := 5) rfl rfl, by decide +kernel, ⟨by decide +kernel, by decide +kernel⟩, by decide +kernel, by decide⟩, T1_in2 (i := 131) rfl rfl⟩
def pm_Camp_add : List PE := [(0, 1, .aload_n (0), 0, 0, 0, 0),
  (1, 3, .getfield (42), 0, 10, 0, 0),
  (4, 1, .iconst (5), 0, 0, 5, 0),
  (5, 3, .if_icmp .ge (89), 94, 0, 0, 0),
  (8, 1, .aload_n (0), 0, 0, 0, 0),
  (9, 3, .getfield (15), 0, 1, 0, 0),
  (12, 1, .aload_n (0), 0, 0, 0, 0),
  (13, 3, .getfield (42), 0, 10, 0, 0),
  (16, 1, .iload_n (1), 0, 0, 0, 0),
  (17, 1, .iastore, 0, 0, 0, 0),
  (18, 1, .aload_n (0), 0, 0, 0, 0),
  (19, 3, .getfield (18), 0, 2, 0, 0),
  (22, 1, .aload_n (0), 0, 0, 0, 0),
  (23, 3, .getfield (42), 0, 10, 0, 0),
  (26, 1, .iload_n (2), 0, 0, 0, 0),
  (27, 1, .iastore, 0, 0, 0, 0),
  (28, 1, .aload_n (0), 0, 0, 0, 0),
  (29, 3, .getfield (21), 0, 3, 0, 0),
  (32, 1, .aload_n (0), 0, 0, 0, 0),
  (33, 3, .getfield (42), 0, 10, 0, 0),
  (36, 1, .iload_n (3), 0, 0, 0, 0),
  (37, 1, .iastore, 0, 0, 0, 0),
  (38, 1, .aload_n (0), 0, 0, 0, 0),
  (39, 3, .getfield (24), 0, 4, 0, 0),
  (42, 1, .aload_n (0), 0, 0, 0, 0),
  (43, 3, .getfield (42), 0, 10, 0, 0),
  (46, 1, .aload_n (0), 0, 0, 0, 0),
  (47, 3, .getfield (42), 0, 10, 0, 0),
  (50, 1, .iastore, 0, 0, 0, 0),
  (51, 1, .aload_n (0), 0, 0, 0, 0),
  (52, 3, .getfield (27), 0, 5, 0, 0),
  (55, 1, .aload_n (0), 0, 0, 0, 0),
  (56, 3, .getfield (42), 0, 10, 0, 0),
  (59, 1, .aload_n (0), 0, 0, 0, 0),
  (60, 3, .getfield (42), 0, 10, 0, 0),
  (63, 1, .iastore, 0, 0, 0, 0),
  (64, 1, .aload_n (0), 0, 0, 0, 0),
  (65, 3, .getfield (30), 0, 6, 0, 0),
  (68, 1, .aload_n (0), 0, 0, 0, 0),
  (69, 3, .getfield (42), 0, 10, 0, 0),
  (72, 1, .iconst (0), 0, 0, 0, 0),
  (73, 1, .iastore, 0, 0, 0, 0),
  (74, 1, .aload_n (0), 0, 0, 0, 0),
  (75, 3, .getfield (33), 0, 7, 0, 0),
  (78, 1, .aload_n (0), 0, 0, 0, 0),
  (79, 3, .getfield (42), 0, 10, 0, 0),
  (82, 1, .iconst (0), 0, 0, 0, 0),
  (83, 1, .iastore, 0, 0, 0, 0),
  (84, 1, .aload_n (0), 0, 0, 0, 0),
  (85, 1, .dup, 0, 0, 0, 0),
  (86, 3, .getfield (42), 0, 10, 0, 0),
  (89, 1, .iconst (1), 0, 0, 1, 0),
  (90, 1, .iadd, 0, 0, 0, 0),
  (91, 3, .putfield (42), 0, 10, 0, 0),
  (94, 1, .return_, 0, 0, 0, 0)]
def md_Camp_add : Md := (y_Camp_add, prog_2_method_3_code, 4, none, pm_Camp_add)
theorem tk_Camp_add : Tm md_Camp_add := tab_of (o := 0) (by decide +kernel)
set_option maxRecDepth 100000 in
theorem ok_Camp_add : MdOk md_Camp_add 3 ∧ Cond.instanceMethod md_Camp_add.1 ∈ T1 ∧ Cond.selects md_Camp_add.1.cls md_Camp_add.1 md_Camp_add.1 ∈ T1 := ⟨⟨T1_in2 (i := 136) rfl rfl, T1_in1 (i := 4) rfl rfl, by decide +kernel, ⟨by decide +kernel, by decide +kernel⟩, by decide +kernel, by decide⟩, T1_in2 (i := 134) rfl rfl, T1_in2 (i := 135) rfl rfl⟩
def pm_Tent_tent : List PE := [(0, 1, .aload_n (0), 0, 0, 0, 0),
  (1, 1, .aload_n (0), 0, 0, 0, 0),
  (2, 3, .getfield (18), 5, 1, 0, 0),
  (5, 1, .iload_n (1), 0, 0, 0, 0),
  (6, 3, .invokevirtual (86), 0, 0, 0, 0),
  (9, 1, .istore_n (2), 0, 0, 0, 0),
  (10, 1, .iload_n (2), 0, 0, 0, 0),
  (11, 3, .ifCond .eq (5), 16, 0, 0, 0),
  (14, 1, .iload_n (2), 0, 0, 0, 0),
  (15, 1, .ireturn, 0, 0, 0, 0),
  (16, 1, .aload_n (0), 0, 0, 0, 0),
  (17, 3, .getfield (40), 5, 5, 0, 0),
  (20, 1, .aload_n (0), 0, 0, 0, 0),
  (21, 3, .getfield (18), 5, 1, 0, 0),
  (24, 1, .iload_n (1), 0, 0, 0, 0),
  (25, 3, .invokevirtual (119), 0, 0, 0, 0),
  (28, 2, .bipush (-9), 0, 0, (-9), 0),
  (30, 3, .if_icmp .eq (6), 36, 0, 0, 0),
  (33, 2, .bipush (-4), 0, 0, (-4), 0),
  (35, 1, .ireturn, 0, 0, 0, 0),
  (36, 1, .aload_n (0), 0, 0, 0, 0),
  (37, 3, .getfield (26), 5, 2, 0, 0),
  (40, 1, .aload_n (0), 0, 0, 0, 0),
  (41, 3, .getfield (40), 5, 5, 0, 0),
  (44, 3, .getfield (122), 3, 0, 0, 0),
  (47, 3, .invokevirtual (123), 0, 0, 0, 0),
  (50, 1, .iconst (0), 0, 0, 0, 0),
  (51, 1, .istore_n (3), 0, 0, 0, 0),
  (52, 1, .iload_n (3), 0, 0, 0, 0),
  (53, 1, .iconst (3), 0, 0, 3, 0),
  (54, 3, .if_icmp .ge (18), 72, 0, 0, 0),
  (57, 1, .aload_n (0), 0, 0, 0, 0),
  (58, 3, .getfield (30), 5, 3, 0, 0),
  (61, 1, .iload_n (3), 0, 0, 0, 0),
  (62, 1, .aaload, 0, 0, 0, 0),
  (63, 3, .invokevirtual (127), 0, 0, 0, 0),
  (66, 3, .iinc (3) (1), 0, 0, 1, 0),
  (69, 3, .goto (-17), 52, 0, 0, 0),
  (72, 1, .aload_n (0), 0, 0, 0, 0),
  (73, 3, .getfield (26), 5, 2, 0, 0),
  (76, 3, .getfield (130), 0, 10, 0, 0),
  (79, 1, .ireturn, 0, 0, 0, 0)]
def md_Tent_tent : Md := (y_Tent_tent, prog_1_method_11_code, 4, (some .int), pm_Tent_tent)
theorem tk_Tent_tent : Tm md_Tent_tent := tab_of (o := 5) (by decide +kernel)
set_option maxRecDepth 100000 in
theorem ok_Tent_tent : MdOk md_Tent_tent 1 ∧ Cond.instanceMethod md_Tent_tent.1 ∈ T1 ∧ Cond.selects md_Tent_tent.1.cls md_Tent_tent.1 md_Tent_tent.1 ∈ T1 := ⟨⟨T1_in2 (i := 140) rfl rfl, T1_in1 (i := 1) rfl rfl, by decide +kernel, ⟨by decide +kernel, by decide +kernel⟩, by decide +kernel, by decide⟩, T1_in2 (i := 138) rfl rfl, T1_in2 (i := 139) rfl rfl⟩
def pm_Camp_takeWhole : List PE := [(0, 1, .aload_n (0), 0, 0, 0, 0),
  (1, 1, .aload_n (1), 0, 0, 0, 0),
  (2, 3, .invokevirtual (70), 0, 0, 0, 0),
  (5, 1, .aload_n (0), 0, 0, 0, 0),
  (6, 1, .aload_n (1), 0, 0, 0, 0),
  (7, 3, .getfield (61), 0, 16, 0, 0),
  (10, 3, .putfield (61), 0, 16, 0, 0),
  (13, 1, .aload_n (1), 0, 0, 0, 0),
  (14, 3, .getfield (39), 0, 9, 0, 0),
  (17, 1, .iconst (0), 0, 0, 0, 0),
  (18, 1, .aload_n (0), 0, 0, 0, 0),
  (19, 3, .getfield (39), 0, 9, 0, 0),
  (22, 1, .iconst (0), 0, 0, 0, 0),
  (23, 1, .aload_n (1), 0, 0, 0, 0),
  (24, 3, .getfield (39), 0, 9, 0, 0),
  (27, 1, .arraylength, 0, 0, 0, 0),
  (28, 1, .aload_n (0), 0, 0, 0, 0),
  (29, 3, .getfield (39), 0, 9, 0, 0),
  (32, 1, .arraylength, 0, 0, 0, 0),
  (33, 3, .invokestatic (74), 0, 0, 0, 0),
  (36, 3, .invokestatic (64), 0, 0, 0, 0),
  (39, 1, .return_, 0, 0, 0, 0)]
def md_Camp_takeWhole : Md := (y_Camp_takeWhole, prog_2_method_5_code, 2, none, pm_Camp_takeWhole)
theorem tk_Camp_takeWhole : Tm md_Camp_takeWhole := tab_of (o := 0) (by decide +kernel)
set_option maxRecDepth 100000 in
theorem ok_Camp_takeWhole : MdOk md_Camp_takeWhole 1 ∧ Cond.instanceMethod md_Camp_takeWhole.1 ∈ T1 ∧ Cond.selects md_Camp_takeWhole.1.cls md_Camp_takeWhole.1 md_Camp_takeWhole.1 ∈ T1 := ⟨⟨T1_in2 (i := 144) rfl rfl, T1_in1 (i := 4) rfl rfl, by decide +kernel, ⟨by decide +kernel, by decide +kernel⟩, by decide +kernel, by decide⟩, T1_in2 (i := 142) rfl rfl, T1_in2 (i := 143) rfl rfl⟩
def pm_Camp_takePresent : List PE := [(0, 1, .aload_n (1), 0, 0, 0, 0),
  (1, 3, .getfield (11), 0, 0, 0, 0),
  (4, 1, .iconst (0), 0, 0, 0, 0),
  (5, 1, .aload_n (0), 0, 0, 0, 0),
  (6, 3, .getfield (11), 0, 0, 0, 0),
  (9, 1, .iconst (0), 0, 0, 0, 0),
  (10, 2, .bipush (8), 0, 0, 8, 0),
  (12, 3, .invokestatic (64), 0, 0, 0, 0),
  (15, 1, .aload_n (1), 0, 0, 0, 0),
  (16, 3, .getfield (15), 0, 1, 0, 0),
  (19, 1, .iconst (0), 0, 0, 0, 0),
  (20, 1, .aload_n (0), 0, 0, 0, 0),
  (21, 3, .getfield (15), 0, 1, 0, 0),
  (24, 1, .iconst (0), 0, 0, 0, 0),
  (25, 1, .iconst (5), 0, 0, 5, 0),
  (26, 3, .invokestatic (64), 0, 0, 0, 0),
  (29, 1, .aload_n (1), 0, 0, 0, 0),
  (30, 3, .getfield (18), 0, 2, 0, 0),
  (33, 1, .iconst (0), 0, 0, 0, 0),
  (34, 1, .aload_n (0), 0, 0, 0, 0),
  (35, 3, .getfield (18), 0, 2, 0, 0),
  (38, 1, .iconst (0), 0, 0, 0, 0),
  (39, 1, .iconst (5), 0, 0, 5, 0),
  (40, 3, .invokestatic (64), 0, 0, 0, 0),
  (43, 1, .aload_n (1), 0, 0, 0, 0),
  (44, 3, .getfield (21), 0, 3, 0, 0),
  (47, 1, .iconst (0), 0, 0, 0, 0),
  (48, 1, .aload_n (0), 0, 0, 0, 0),
  (49, 3, .getfield (21), 0, 3, 0, 0),
  (52, 1, .iconst (0), 0, 0, 0, 0),
  (53, 1, .iconst (5), 0, 0, 5, 0),
  (54, 3, .invokestatic (64), 0, 0, 0, 0),
  (57, 1, .aload_n (1), 0, 0, 0, 0),
  (58, 3, .getfield (24), 0, 4, 0, 0),
  (61, 1, .iconst (0), 0, 0, 0, 0),
  (62, 1, .aload_n (0), 0, 0, 0, 0),
  (63, 3, .getfield (24), 0, 4, 0, 0),
  (66, 1, .iconst (0), 0, 0, 0, 0),
  (67, 1, .iconst (5), 0, 0, 5, 0),
  (68, 3, .invokestatic (64), 0, 0, 0, 0),
  (71, 1, .aload_n (1), 0, 0, 0, 0),
  (72, 3, .getfield (27), 0, 5, 0, 0),
  (75, 1, .iconst (0), 0, 0, 0, 0),
  (76, 1, .aload_n (0), 0, 0, 0, 0),
  (77, 3, .getfield (27), 0, 5, 0, 0),
  (80, 1, .iconst (0), 0, 0, 0, 0),
  (81, 1, .iconst (5), 0, 0, 5, 0),
  (82, 3, .invokestatic (64), 0, 0, 0, 0),
  (85, 1, .aload_n (1), 0, 0, 0, 0),
  (86, 3, .getfield (30), 0, 6, 0, 0),
  (89, 1, .iconst (0), 0, 0, 0, 0),
  (90, 1, .aload_n (0), 0, 0, 0, 0),
  (91, 3, .getfield (30), 0, 6, 0, 0),
  (94, 1, .iconst (0), 0, 0, 0, 0),
  (95, 1, .iconst (5), 0, 0, 5, 0),
  (96, 3, .invokestatic (64), 0, 0, 0, 0),
  (99, 1, .aload_n (1), 0, 0, 0, 0),
  (100, 3, .getfield (33), 0, 7, 0, 0),
  (103, 1, .iconst (0), 0, 0, 0, 0),
  (104, 1, .aload_n (0), 0, 0, 0, 0),
  (105, 3, .getfield (33), 0, 7, 0, 0),
  (108, 1, .iconst (0), 0, 0, 0, 0),
  (109, 1, .iconst (5), 0, 0, 5, 0),
  (110, 3, .invokestatic (64), 0, 0, 0, 0),
  (113, 1, .aload_n (0), 0, 0, 0, 0),
  (114, 1, .aload_n (1), 0, 0, 0, 0),
  (115, 3, .getfield (42), 0, 10, 0, 0),
  (118, 3, .putfield (42), 0, 10, 0, 0),
  (121, 1, .aload_n (0), 0, 0, 0, 0),
  (122, 1, .aload_n (1), 0, 0, 0, 0),
  (123, 3, .getfield (46), 0, 11, 0, 0),
  (126, 3, .putfield (46), 0, 11, 0, 0),
  (129, 1, .aload_n (0), 0, 0, 0, 0),
  (130, 1, .aload_n (1), 0, 0, 0, 0),
  (131, 3, .getfield (49), 0, 12, 0, 0),
  (134, 3, .putfield (49), 0, 12, 0, 0),
  (137, 1, .aload_n (0), 0, 0, 0, 0),
  (138, 1, .aload_n (1), 0, 0, 0, 0),
  (139, 3, .getfield (52), 0, 13, 0, 0),
  (142, 3, .putfield (52), 0, 13, 0, 0),
  (145, 1, .aload_n (0), 0, 0, 0, 0),
  (146, 1, .aload_n (1), 0, 0, 0, 0),
  (147, 3, .getfield (55), 0, 14, 0, 0),
  (150, 3, .putfield (55), 0, 14, 0, 0),
  (153, 1, .aload_n (0), 0, 0, 0, 0),
  (154, 1, .aload_n (1), 0, 0, 0, 0),
  (155, 3, .getfield (58), 0, 15, 0, 0),
  (158, 3, .putfield (58), 0, 15, 0, 0),
  (161, 1, .return_, 0, 0, 0, 0)]
def md_Camp_takePresent : Md := (y_Camp_takePresent, prog_2_method_4_code, 2, none, pm_Camp_takePresent)
theorem tk_Camp_takePresent : Tm md_Camp_takePresent := tab_of (o := 0) (by decide +kernel)
set_option maxRecDepth 100000 in
theorem ok_Camp_takePresent : MdOk md_Camp_takePresent 1 ∧ Cond.instanceMethod md_Camp_takePresent.1 ∈ T1 ∧ Cond.selects md_Camp_takePresent.1.cls md_Camp_takePresent.1 md_Camp_takePresent.1 ∈ T1 := ⟨⟨T1_in2 (i := 148) rfl rfl, T1_in1 (i := 4) rfl rfl, by decide +kernel, ⟨by decide +kernel, by decide +kernel⟩, by decide +kernel, by decide⟩, T1_in2 (i := 146) rfl rfl, T1_in2 (i := 147) rfl rfl⟩
def pm_Tent_sleeper : List PE := [(0, 1, .aload_n (0), 0, 0, 0, 0),
  (1, 3, .getfield (26), 5, 2, 0, 0),
  (4, 1, .iload_n (1), 0, 0, 0, 0),
  (5, 3, .invokevirtual (133), 0, 0, 0, 0),
  (8, 3, .ifCond .eq (13), 21, 0, 0, 0),
  (11, 1, .iload_n (2), 0, 0, 0, 0),
  (12, 3, .ifCond .lt (9), 21, 0, 0, 0),
  (15, 1, .iload_n (2), 0, 0, 0, 0),
  (16, 2, .bipush (6), 0, 0, 6, 0),
  (18, 3, .if_icmp .lt (5), 23, 0, 0, 0),
  (21, 1, .iconst (-1), 0, 0, (-1), 0),
  (22, 1, .ireturn, 0, 0, 0, 0),
  (23, 1, .aload_n (0), 0, 0, 0, 0),
  (24, 1, .aload_n (0), 0, 0, 0, 0),
  (25, 3, .getfield (26), 5, 2, 0, 0),
  (28, 1, .iload_n (1), 0, 0, 0, 0),
  (29, 1, .iload_n (2), 0, 0, 0, 0),
  (30, 3, .invokevirtual (136), 0, 0, 0, 0),
  (33, 3, .putfield (78), 5, 10, 0, 0),
  (36, 1, .iconst (1), 0, 0, 1, 0),
  (37, 1, .ireturn, 0, 0, 0, 0)]
def md_Tent_sleeper : Md := (y_Tent_sleeper, prog_1_method_12_code, 3, (some .int), pm_Tent_sleeper)
theorem tk_Tent_sleeper : Tm md_Tent_sleeper := tab_of (o := 5) (by decide +kernel)
set_option maxRecDepth 100000 in
theorem ok_Tent_sleeper : MdOk md_Tent_sleeper 2 ∧ Cond.instanceMethod md_Tent_sleeper.1 ∈ T1 ∧ Cond.selects md_Tent_sleeper.1.cls md_Tent_sleeper.1 md_Tent_sleeper.1 ∈ T1 := ⟨⟨T1_in2 (i := 155) rfl rfl, T1_in1 (i := 1) rfl rfl, by decide +kernel, ⟨by decide +kernel, by decide +kernel⟩, by decide +kernel, by decide⟩, T1_in2 (i := 153) rfl rfl, T1_in2 (i := 154) rfl rfl⟩
def pm_Camp_isSleeper : List PE := [(0, 1, .iload_n (1), 0, 0, 0, 0),
  (1, 3, .ifCond .lt (15), 16, 0, 0, 0),
  (4, 1, .iload_n (1), 0, 0, 0, 0),
  (5, 1, .aload_n (0), 0, 0, 0, 0),
  (6, 3, .getfield (42), 0, 10, 0, 0),
  (9, 3, .if_icmp .ge (7), 16, 0, 0, 0),
  (12, 1, .iconst (1), 0, 0, 1, 0),
  (13, 3, .goto (4), 17, 0, 0, 0),
  (16, 1, .iconst (0), 0, 0, 0, 0),
  (17, 1, .ireturn, 0, 0, 0, 0)]
def md_Camp_isSleeper : Md := (y_Camp_isSleeper, prog_2_method_12_code, 2, (some .boolean), pm_Camp_isSleeper)
theorem tk_Camp_isSleeper : Tm md_Camp_isSleeper := tab_of (o := 0) (by decide +kernel)
set_option maxRecDepth 100000 in
theorem ok_Camp_isSleeper : MdOk md_Camp_isSleeper 1 ∧ Cond.instanceMethod md_Camp_isSleeper.1 ∈ T1 ∧ Cond.selects md_Camp_isSleeper.1.cls md_Camp_isSleeper.1 md_Camp_isSleeper.1 ∈ T1 := ⟨⟨T1_in2 (i := 159) rfl rfl, T1_in1 (i := 4) rfl rfl, by decide +kernel, ⟨by decide +kernel, by decide +kernel⟩, by decide +kernel, by decide⟩, T1_in2 (i := 157) rfl rfl, T1_in2 (i := 158) rfl rfl⟩
def pm_Camp_trait : List PE := [(0, 1, .iload_n (2), 0, 0, 0, 0),
  (1, 35, .tableswitch (74) (0) (4) #[(35), (42), (53), (60), (67)], 0, 0, 0, 0),
  (36, 1, .aload_n (0), 0, 0, 0, 0),
  (37, 3, .getfield (15), 0, 1, 0, 0),
  (40, 1, .iload_n (1), 0, 0, 0, 0),
  (41, 1, .iaload, 0, 0, 0, 0),
  (42, 1, .ireturn, 0, 0, 0, 0),
  (43, 1, .aload_n (0), 0, 0, 0, 0),
  (44, 1, .aload_n (0), 0, 0, 0, 0),
  (45, 3, .getfield (24), 0, 4, 0, 0),
  (48, 1, .iload_n (1), 0, 0, 0, 0),
  (49, 1, .iaload, 0, 0, 0, 0),
  (50, 3, .invokevirtual (94), 0, 0, 0, 0),
  (53, 1, .ireturn, 0, 0, 0, 0),
  (54, 1, .aload_n (0), 0, 0, 0, 0),
  (55, 3, .getfield (21), 0, 3, 0, 0),
  (58, 1, .iload_n (1), 0, 0, 0, 0),
  (59, 1, .iaload, 0, 0, 0, 0),
  (60, 1, .ireturn, 0, 0, 0, 0),
  (61, 1, .aload_n (0), 0, 0, 0, 0),
  (62, 3, .getfield (24), 0, 4, 0, 0),
  (65, 1, .iload_n (1), 0, 0, 0, 0),
  (66, 1, .iaload, 0, 0, 0, 0),
  (67, 1, .ireturn, 0, 0, 0, 0),
  (68, 1, .aload_n (0), 0, 0, 0, 0),
  (69, 3, .getfield (30), 0, 6, 0, 0),
  (72, 1, .iload_n (1), 0, 0, 0, 0),
  (73, 1, .iaload, 0, 0, 0, 0),
  (74, 1, .ireturn, 0, 0, 0, 0),
  (75, 1, .aload_n (0), 0, 0, 0, 0),
  (76, 3, .getfield (33), 0, 7, 0, 0),
  (79, 1, .iload_n (1), 0, 0, 0, 0),
  (80, 1, .iaload, 0, 0, 0, 0),
  (81, 1, .ireturn, 0, 0, 0, 0)]
def md_Camp_trait : Md := (y_Camp_trait, prog_2_method_13_code, 3, (some .int), pm_Camp_trait)
theorem tk_Camp_trait : Tm md_Camp_trait := tab_of (o := 0) (by decide +kernel)
set_option maxRecDepth 100000 in
theorem ok_Camp_trait : MdOk md_Camp_trait 2 ∧ Cond.instanceMethod md_Camp_trait.1 ∈ T1 ∧ Cond.selects md_Camp_trait.1.cls md_Camp_trait.1 md_Camp_trait.1 ∈ T1 := ⟨⟨T1_in2 (i := 163) rfl rfl, T1_in1 (i := 4) rfl rfl, by decide +kernel, ⟨by decide +kernel, by decide +kernel⟩, by decide +kernel, by decide⟩, T1_in2 (i := 161) rfl rfl, T1_in2 (i := 162) rfl rfl⟩
def pm_Camp_givenFrom : List PE := [(0, 1, .iload_n (1), 0, 0, 0, 0),
  (1, 3, .ifCond .lt (11), 12, 0, 0, 0),
  (4, 1, .iload_n (1), 0, 0, 0, 0),
  (5, 1, .aload_n (0), 0, 0, 0, 0),
  (6, 3, .getfield (42), 0, 10, 0, 0),
  (9, 3, .if_icmp .lt (5), 14, 0, 0, 0),
  (12, 1, .iconst (0), 0, 0, 0, 0),
  (13, 1, .ireturn, 0, 0, 0, 0),
  (14, 1, .aload_n (0), 0, 0, 0, 0),
  (15, 3, .getfield (27), 0, 5, 0, 0),
  (18, 1, .iload_n (1), 0, 0, 0, 0),
  (19, 1, .iaload, 0, 0, 0, 0),
  (20, 1, .istore_n (2), 0, 0, 0, 0),
  (21, 1, .aload_n (0), 0, 0, 0, 0),
  (22, 3, .getfield (15), 0, 1, 0, 0),
  (25, 1, .iload_n (2), 0, 0, 0, 0),
  (26, 1, .iaload, 0, 0, 0, 0),
  (27, 1, .iconst (3), 0, 0, 3, 0),
  (28, 3, .if_icmp .ne (14), 42, 0, 0, 0),
  (31, 1, .iconst (2), 0, 0, 2, 0),
  (32, 1, .aload_n (0), 0, 0, 0, 0),
  (33, 3, .getfield (18), 0, 2, 0, 0),
  (36, 1, .iload_n (2), 0, 0, 0, 0),
  (37, 1, .iaload, 0, 0, 0, 0),
  (38, 1, .imul, 0, 0, 0, 0),
  (39, 3, .goto (9), 48, 0, 0, 0),
  (42, 1, .aload_n (0), 0, 0, 0, 0),
  (43, 3, .getfield (18), 0, 2, 0, 0),
  (46, 1, .iload_n (2), 0, 0, 0, 0),
  (47, 1, .iaload, 0, 0, 0, 0),
  (48, 1, .ireturn, 0, 0, 0, 0)]
def md_Camp_givenFrom : Md := (y_Camp_givenFrom, prog_2_method_16_code, 3, (some .int), pm_Camp_givenFrom)
theorem tk_Camp_givenFrom : Tm md_Camp_givenFrom := tab_of (o := 0) (by decide +kernel)
set_option maxRecDepth 100000 in
theorem ok_Camp_givenFrom : MdOk md_Camp_givenFrom 1 ∧ Cond.instanceMethod md_Camp_givenFrom.1 ∈ T1 ∧ Cond.selects md_Camp_givenFrom.1.cls md_Camp_givenFrom.1 md_Camp_givenFrom.1 ∈ T1 := ⟨⟨T1_in2 (i := 167) rfl rfl, T1_in1 (i := 4) rfl rfl, by decide +kernel, ⟨by decide +kernel, by decide +kernel⟩, by decide +kernel, by decide⟩, T1_in2 (i := 166) rfl rfl, T1_inP (i := 10) rfl⟩
def pm_Tent_mark : List PE := [(0, 1, .aload_n (0), 0, 0, 0, 0),
  (1, 3, .getfield (26), 5, 2, 0, 0),
  (4, 1, .iload_n (1), 0, 0, 0, 0),
  (5, 3, .invokevirtual (133), 0, 0, 0, 0),
  (8, 3, .ifCond .eq (13), 21, 0, 0, 0),
  (11, 1, .iload_n (2), 0, 0, 0, 0),
  (12, 3, .ifCond .le (9), 21, 0, 0, 0),
  (15, 1, .iload_n (2), 0, 0, 0, 0),
  (16, 2, .bipush (6), 0, 0, 6, 0),
  (18, 3, .if_icmp .lt (5), 23, 0, 0, 0),
  (21, 1, .iconst (-1), 0, 0, (-1), 0),
  (22, 1, .ireturn, 0, 0, 0, 0),
  (23, 1, .aload_n (0), 0, 0, 0, 0),
  (24, 3, .getfield (26), 5, 2, 0, 0),
  (27, 3, .getfield (139), 0, 1, 0, 0),
  (30, 1, .iload_n (1), 0, 0, 0, 0),
  (31, 1, .iaload, 0, 0, 0, 0),
  (32, 1, .iload_n (2), 0, 0, 0, 0),
  (33, 3, .invokestatic (142), 0, 0, 0, 0),
  (36, 3, .ifCond .ne (9), 45, 0, 0, 0),
  (39, 1, .aload_n (0), 0, 0, 0, 0),
  (40, 1, .iconst (3), 0, 0, 3, 0),
  (41, 3, .invokevirtual (97), 0, 0, 0, 0),
  (44, 1, .ireturn, 0, 0, 0, 0),
  (45, 1, .iload_n (2), 0, 0, 0, 0),
  (46, 30, .tableswitch (65) (1) (4) #[(30), (39), (48), (57)], 0, 0, 0, 0),
  (76, 1, .aload_n (0), 0, 0, 0, 0),
  (77, 3, .getfield (26), 5, 2, 0, 0),
  (80, 1, .iload_n (1), 0, 0, 0, 0),
  (81, 3, .invokevirtual (146), 0, 0, 0, 0),
  (84, 1, .ireturn, 0, 0, 0, 0),
  (85, 1, .aload_n (0), 0, 0, 0, 0),
  (86, 3, .getfield (26), 5, 2, 0, 0),
  (89, 1, .iload_n (1), 0, 0, 0, 0),
  (90, 3, .invokevirtual (149), 0, 0, 0, 0),
  (93, 1, .ireturn, 0, 0, 0, 0),
  (94, 1, .aload_n (0), 0, 0, 0, 0),
  (95, 3, .getfield (26), 5, 2, 0, 0),
  (98, 1, .iload_n (1), 0, 0, 0, 0),
  (99, 3, .invokevirtual (152), 0, 0, 0, 0),
  (102, 1, .ireturn, 0, 0, 0, 0),
  (103, 1, .aload_n (0), 0, 0, 0, 0),
  (104, 3, .getfield (26), 5, 2, 0, 0),
  (107, 3, .invokevirtual (155), 0, 0, 0, 0),
  (110, 1, .ireturn, 0, 0, 0, 0),
  (111, 1, .aload_n (0), 0, 0, 0, 0),
  (112, 3, .getfield (26), 5, 2, 0, 0),
  (115, 3, .getfield (159), 0, 13, 0, 0),
  (118, 3, .invokestatic (162), 0, 0, 0, 0),
  (121, 1, .ireturn, 0, 0, 0, 0)]
def md_Tent_mark : Md := (y_Tent_mark, prog_1_method_13_code, 3, (some .int), pm_Tent_mark)
theorem tk_Tent_mark : Tm md_Tent_mark := tab_of (o := 5) (by decide +kernel)
set_option maxRecDepth 100000 in
theorem ok_Tent_mark : MdOk md_Tent_mark 2 ∧ Cond.instanceMethod md_Tent_mark.1 ∈ T1 ∧ Cond.selects md_Tent_mark.1.cls md_Tent_mark.1 md_Tent_mark.1 ∈ T1 := ⟨⟨T1_in2 (i := 171) rfl rfl, T1_in1 (i := 1) rfl rfl, by decide +kernel, ⟨by decide +kernel, by decide +kernel⟩, by decide +kernel, by decide⟩, T1_in2 (i := 169) rfl rfl, T1_in2 (i := 170) rfl rfl⟩
def pm_Camp_isOf : List PE := [(0, 1, .iload_n (0), 0, 0, 0, 0),
  (1, 1, .iload_n (1), 0, 0, 0, 0),
  (2, 3, .if_icmp .eq (23), 25, 0, 0, 0),
  (5, 1, .iload_n (1), 0, 0, 0, 0),
  (6, 1, .iconst (1), 0, 0, 1, 0),
  (7, 3, .if_icmp .ne (8), 15, 0, 0, 0),
  (10, 1, .iload_n (0), 0, 0, 0, 0),
  (11, 1, .iconst (4), 0, 0, 4, 0),
  (12, 3, .if_icmp .eq (13), 25, 0, 0, 0),
  (15, 1, .iload_n (1), 0, 0, 0, 0),
  (16, 1, .iconst (2), 0, 0, 2, 0),
  (17, 3, .if_icmp .ne (12), 29, 0, 0, 0),
  (20, 1, .iload_n (0), 0, 0, 0, 0),
  (21, 1, .iconst (5), 0, 0, 5, 0),
  (22, 3, .if_icmp .ne (7), 29, 0, 0, 0),
  (25, 1, .iconst (1), 0, 0, 1, 0),
  (26, 3, .goto (4), 30, 0, 0, 0),
  (29, 1, .iconst (0), 0, 0, 0, 0),
  (30, 1, .ireturn, 0, 0, 0, 0)]
def md_Camp_isOf : Md := (y_Camp_isOf, prog_2_method_14_code, 2, (some .boolean), pm_Camp_isOf)
theorem tk_Camp_isOf : Tm md_Camp_isOf := tab_of (o := 0) (by decide +kernel)
set_option maxRecDepth 100000 in
theorem ok_Camp_isOf : MdOk md_Camp_isOf 2 ∧ Cond.static md_Camp_isOf.1 ∈ T1 := ⟨⟨T1_in2 (i := 174) rfl rfl, T1_in1 (i := 4) rfl rfl, by decide +kernel, ⟨by decide +kernel, by decide +kernel⟩, by decide +kernel, by decide⟩, T1_in2 (i := 173) rfl rfl⟩
def pm_Camp_hearersOf : List PE := [(0, 1, .iconst (0), 0, 0, 0, 0),
  (1, 1, .istore_n (2), 0, 0, 0, 0),
  (2, 1, .iconst (0), 0, 0, 0, 0),
  (3, 1, .istore_n (3), 0, 0, 0, 0),
  (4, 1, .iload_n (3), 0, 0, 0, 0),
  (5, 1, .aload_n (0), 0, 0, 0, 0),
  (6, 3, .getfield (42), 0, 10, 0, 0),
  (9, 3, .if_icmp .ge (35), 44, 0, 0, 0),
  (12, 1, .iload_n (2), 0, 0, 0, 0),
  (13, 1, .aload_n (0), 0, 0, 0, 0),
  (14, 1, .iload_n (3), 0, 0, 0, 0),
  (15, 1, .iload_n (1), 0, 0, 0, 0),
  (16, 1, .aload_n (0), 0, 0, 0, 0),
  (17, 3, .getfield (15), 0, 1, 0, 0),
  (20, 1, .iload_n (1), 0, 0, 0, 0),
  (21, 1, .iaload, 0, 0, 0, 0),
  (22, 3, .invokestatic (105), 0, 0, 0, 0),
  (25, 3, .invokevirtual (108), 0, 0, 0, 0),
  (28, 3, .ifCond .eq (7), 35, 0, 0, 0),
  (31, 1, .iconst (1), 0, 0, 1, 0),
  (32, 3, .goto (4), 36, 0, 0, 0),
  (35, 1, .iconst (0), 0, 0, 0, 0),
  (36, 1, .iadd, 0, 0, 0, 0),
  (37, 1, .istore_n (2), 0, 0, 0, 0),
  (38, 3, .iinc (3) (1), 0, 0, 1, 0),
  (41, 3, .goto (-37), 4, 0, 0, 0),
  (44, 1, .iload_n (2), 0, 0, 0, 0),
  (45, 1, .ireturn, 0, 0, 0, 0)]
def md_Camp_hearersOf : Md := (y_Camp_hearersOf, prog_2_method_22_code, 4, (some .int), pm_Camp_hearersOf)
theorem tk_Camp_hearersOf : Tm md_Camp_hearersOf := tab_of (o := 0) (by decide +kernel)
set_option maxRecDepth 100000 in
theorem ok_Camp_hearersOf : MdOk md_Camp_hearersOf 1 ∧ Cond.instanceMethod md_Camp_hearersOf.1 ∈ T1 ∧ Cond.selects md_Camp_hearersOf.1.cls md_Camp_hearersOf.1 md_Camp_hearersOf.1 ∈ T1 := ⟨⟨T1_in2 (i := 178) rfl rfl, T1_in1 (i := 4) rfl rfl, by decide +kernel, ⟨by decide +kernel, by decide +kernel⟩, by decide +kernel, by decide⟩, T1_in2 (i := 176) rfl rfl, T1_in2 (i := 177) rfl rfl⟩
def pm_Camp_reach : List PE := [(0, 1, .iload_n (0), 0, 0, 0, 0),
  (1, 1, .iconst (4), 0, 0, 4, 0),
  (2, 3, .if_icmp .ne (7), 9, 0, 0, 0),
  (5, 1, .iconst (2), 0, 0, 2, 0),
  (6, 3, .goto (13), 19, 0, 0, 0),
  (9, 1, .iload_n (0), 0, 0, 0, 0),
  (10, 1, .iconst (1), 0, 0, 1, 0),
  (11, 3, .if_icmp .ne (7), 18, 0, 0, 0),
  (14, 1, .iconst (1), 0, 0, 1, 0),
  (15, 3, .goto (4), 19, 0, 0, 0),
  (18, 1, .iconst (0), 0, 0, 0, 0),
  (19, 1, .ireturn, 0, 0, 0, 0)]
def md_Camp_reach : Md := (y_Camp_reach, prog_2_method_15_code, 1, (some .int), pm_Camp_reach)
theorem tk_Camp_reach : Tm md_Camp_reach := tab_of (o := 0) (by decide +kernel)
set_option maxRecDepth 100000 in
theorem ok_Camp_reach : MdOk md_Camp_reach 1 ∧ Cond.static md_Camp_reach.1 ∈ T1 := ⟨⟨T1_in2 (i := 181) rfl rfl, T1_in1 (i := 4) rfl rfl, by decide +kernel, ⟨by decide +kernel, by decide +kernel⟩, by decide +kernel, by decide⟩, T1_in2 (i := 180) rfl rfl⟩
def pm_Camp_hearsWithin : List PE := [(0, 1, .aload_n (0), 0, 0, 0, 0),
  (1, 3, .getfield (15), 0, 1, 0, 0),
  (4, 1, .iload_n (1), 0, 0, 0, 0),
  (5, 1, .iaload, 0, 0, 0, 0),
  (6, 1, .iconst (2), 0, 0, 2, 0),
  (7, 3, .invokestatic (97), 0, 0, 0, 0),
  (10, 3, .ifCond .ne (17), 27, 0, 0, 0),
  (13, 1, .aload_n (0), 0, 0, 0, 0),
  (14, 1, .iload_n (1), 0, 0, 0, 0),
  (15, 1, .iload_n (2), 0, 0, 0, 0),
  (16, 1, .iload_n (3), 0, 0, 0, 0),
  (17, 3, .invokevirtual (101), 0, 0, 0, 0),
  (20, 3, .ifCond .eq (7), 27, 0, 0, 0),
  (23, 1, .iconst (1), 0, 0, 1, 0),
  (24, 3, .goto (4), 28, 0, 0, 0),
  (27, 1, .iconst (0), 0, 0, 0, 0),
  (28, 1, .ireturn, 0, 0, 0, 0)]
def md_Camp_hearsWithin : Md := (y_Camp_hearsWithin, prog_2_method_21_code, 4, (some .boolean), pm_Camp_hearsWithin)
theorem tk_Camp_hearsWithin : Tm md_Camp_hearsWithin := tab_of (o := 0) (by decide +kernel)
set_option maxRecDepth 100000 in
theorem ok_Camp_hearsWithin : MdOk md_Camp_hearsWithin 3 ∧ Cond.instanceMethod md_Camp_hearsWithin.1 ∈ T1 ∧ Cond.selects md_Camp_hearsWithin.1.cls md_Camp_hearsWithin.1 md_Camp_hearsWithin.1 ∈ T1 := ⟨⟨T1_in2 (i := 185) rfl rfl, T1_in1 (i := 4) rfl rfl, by decide +kernel, ⟨by decide +kernel, by decide +kernel⟩, by decide +kernel, by decide⟩, T1_in2 (i := 183) rfl rfl, T1_in2 (i := 184) rfl rfl⟩
def pm_Camp_isWithin : List PE := [(0, 1, .aload_n (0), 0, 0, 0, 0),
  (1, 3, .getfield (24), 0, 4, 0, 0),
  (4, 1, .iload_n (1), 0, 0, 0, 0),
  (5, 1, .iaload, 0, 0, 0, 0),
  (6, 1, .aload_n (0), 0, 0, 0, 0),
  (7, 3, .getfield (24), 0, 4, 0, 0),
  (10, 1, .iload_n (2), 0, 0, 0, 0),
  (11, 1, .iaload, 0, 0, 0, 0),
  (12, 1, .isub, 0, 0, 0, 0),
  (13, 2, .istore (4), 0, 0, 0, 0),
  (15, 2, .iload (4), 0, 0, 0, 0),
  (17, 3, .ifCond .eq (20), 37, 0, 0, 0),
  (20, 2, .iload (4), 0, 0, 0, 0),
  (22, 1, .iload_n (3), 0, 0, 0, 0),
  (23, 3, .if_icmp .gt (14), 37, 0, 0, 0),
  (26, 2, .iload (4), 0, 0, 0, 0),
  (28, 1, .ineg, 0, 0, 0, 0),
  (29, 1, .iload_n (3), 0, 0, 0, 0),
  (30, 3, .if_icmp .gt (7), 37, 0, 0, 0),
  (33, 1, .iconst (1), 0, 0, 1, 0),
  (34, 3, .goto (4), 38, 0, 0, 0),
  (37, 1, .iconst (0), 0, 0, 0, 0),
  (38, 1, .ireturn, 0, 0, 0, 0)]
def md_Camp_isWithin : Md := (y_Camp_isWithin, prog_2_method_20_code, 5, (some .boolean), pm_Camp_isWithin)
theorem tk_Camp_isWithin : Tm md_Camp_isWithin := tab_of (o := 0) (by decide +kernel)
set_option maxRecDepth 100000 in
theorem ok_Camp_isWithin : MdOk md_Camp_isWithin 3 ∧ Cond.instanceMethod md_Camp_isWithin.1 ∈ T1 ∧ Cond.selects md_Camp_isWithin.1.cls md_Camp_isWithin.1 md_Camp_isWithin.1 ∈ T1 := ⟨⟨T1_in2 (i := 190) rfl rfl, T1_in1 (i := 4) rfl rfl, by decide +kernel, ⟨by decide +kernel, by decide +kernel⟩, by decide +kernel, by decide⟩, T1_in2 (i := 189) rfl rfl, T1_inP (i := 11) rfl⟩
def pm_Camp_snorersNear : List PE := [(0, 1, .iconst (0), 0, 0, 0, 0),
  (1, 1, .istore_n (2), 0, 0, 0, 0),
  (2, 1, .iconst (0), 0, 0, 0, 0),
  (3, 1, .istore_n (3), 0, 0, 0, 0),
  (4, 1, .iload_n (3), 0, 0, 0, 0),
  (5, 1, .aload_n (0), 0, 0, 0, 0),
  (6, 3, .getfield (42), 0, 10, 0, 0),
  (9, 3, .if_icmp .ge (35), 44, 0, 0, 0),
  (12, 1, .iload_n (2), 0, 0, 0, 0),
  (13, 1, .aload_n (0), 0, 0, 0, 0),
  (14, 1, .iload_n (1), 0, 0, 0, 0),
  (15, 1, .iload_n (3), 0, 0, 0, 0),
  (16, 1, .aload_n (0), 0, 0, 0, 0),
  (17, 3, .getfield (15), 0, 1, 0, 0),
  (20, 1, .iload_n (3), 0, 0, 0, 0),
  (21, 1, .iaload, 0, 0, 0, 0),
  (22, 3, .invokestatic (105), 0, 0, 0, 0),
  (25, 3, .invokevirtual (101), 0, 0, 0, 0),
  (28, 3, .ifCond .eq (7), 35, 0, 0, 0),
  (31, 1, .iconst (1), 0, 0, 1, 0),
  (32, 3, .goto (4), 36, 0, 0, 0),
  (35, 1, .iconst (0), 0, 0, 0, 0),
  (36, 1, .iadd, 0, 0, 0, 0),
  (37, 1, .istore_n (2), 0, 0, 0, 0),
  (38, 3, .iinc (3) (1), 0, 0, 1, 0),
  (41, 3, .goto (-37), 4, 0, 0, 0),
  (44, 1, .iload_n (2), 0, 0, 0, 0),
  (45, 1, .ireturn, 0, 0, 0, 0)]
def md_Camp_snorersNear : Md := (y_Camp_snorersNear, prog_2_method_23_code, 4, (some .int), pm_Camp_snorersNear)
theorem tk_Camp_snorersNear : Tm md_Camp_snorersNear := tab_of (o := 0) (by decide +kernel)
set_option maxRecDepth 100000 in
theorem ok_Camp_snorersNear : MdOk md_Camp_snorersNear 1 ∧ Cond.instanceMethod md_Camp_snorersNear.1 ∈ T1 ∧ Cond.selects md_Camp_snorersNear.1.cls md_Camp_snorersNear.1 md_Camp_snorersNear.1 ∈ T1 := ⟨⟨T1_in2 (i := 194) rfl rfl, T1_in1 (i := 4) rfl rfl, by decide +kernel, ⟨by decide +kernel, by decide +kernel⟩, by decide +kernel, by decide⟩, T1_in2 (i := 192) rfl rfl, T1_in2 (i := 193) rfl rfl⟩
def pm_Camp_givenAway : List PE := [(0, 1, .aload_n (0), 0, 0, 0, 0),
  (1, 3, .getfield (24), 0, 4, 0, 0),
  (4, 1, .iload_n (1), 0, 0, 0, 0),
  (5, 1, .iaload, 0, 0, 0, 0),
  (6, 3, .ifCond .le (7), 13, 0, 0, 0),
  (9, 1, .iconst (1), 0, 0, 1, 0),
  (10, 3, .goto (4), 14, 0, 0, 0),
  (13, 1, .iconst (0), 0, 0, 0, 0),
  (14, 1, .aload_n (0), 0, 0, 0, 0),
  (15, 3, .getfield (24), 0, 4, 0, 0),
  (18, 1, .iload_n (1), 0, 0, 0, 0),
  (19, 1, .iaload, 0, 0, 0, 0),
  (20, 1, .aload_n (0), 0, 0, 0, 0),
  (21, 3, .getfield (42), 0, 10, 0, 0),
  (24, 1, .iconst (1), 0, 0, 1, 0),
  (25, 1, .isub, 0, 0, 0, 0),
  (26, 3, .if_icmp .ge (7), 33, 0, 0, 0),
  (29, 1, .iconst (1), 0, 0, 1, 0),
  (30, 3, .goto (4), 34, 0, 0, 0),
  (33, 1, .iconst (0), 0, 0, 0, 0),
  (34, 1, .iadd, 0, 0, 0, 0),
  (35, 1, .istore_n (2), 0, 0, 0, 0),
  (36, 1, .iload_n (2), 0, 0, 0, 0),
  (37, 1, .aload_n (0), 0, 0, 0, 0),
  (38, 1, .aload_n (0), 0, 0, 0, 0),
  (39, 3, .getfield (24), 0, 4, 0, 0),
  (42, 1, .iload_n (1), 0, 0, 0, 0),
  (43, 1, .iaload, 0, 0, 0, 0),
  (44, 3, .invokevirtual (94), 0, 0, 0, 0),
  (47, 1, .imul, 0, 0, 0, 0),
  (48, 1, .ireturn, 0, 0, 0, 0)]
def md_Camp_givenAway : Md := (y_Camp_givenAway, prog_2_method_17_code, 3, (some .int), pm_Camp_givenAway)
theorem tk_Camp_givenAway : Tm md_Camp_givenAway := tab_of (o := 0) (by decide +kernel)
set_option maxRecDepth 100000 in
theorem ok_Camp_givenAway : MdOk md_Camp_givenAway 1 ∧ Cond.instanceMethod md_Camp_givenAway.1 ∈ T1 ∧ Cond.selects md_Camp_givenAway.1.cls md_Camp_givenAway.1 md_Camp_givenAway.1 ∈ T1 := ⟨⟨T1_in2 (i := 198) rfl rfl, T1_in1 (i := 4) rfl rfl, by decide +kernel, ⟨by decide +kernel, by decide +kernel⟩, by decide +kernel, by decide⟩, T1_in2 (i := 196) rfl rfl, T1_in2 (i := 197) rfl rfl⟩
def pm_Camp_snorers : List PE := [(0, 1, .iconst (0), 0, 0, 0, 0),
  (1, 1, .istore_n (1), 0, 0, 0, 0),
  (2, 1, .iconst (0), 0, 0, 0, 0),
  (3, 1, .istore_n (2), 0, 0, 0, 0),
  (4, 1, .iload_n (2), 0, 0, 0, 0),
  (5, 1, .aload_n (0), 0, 0, 0, 0),
  (6, 3, .getfield (42), 0, 10, 0, 0),
  (9, 3, .if_icmp .ge (30), 39, 0, 0, 0),
  (12, 1, .iload_n (1), 0, 0, 0, 0),
  (13, 1, .aload_n (0), 0, 0, 0, 0),
  (14, 3, .getfield (15), 0, 1, 0, 0),
  (17, 1, .iload_n (2), 0, 0, 0, 0),
  (18, 1, .iaload, 0, 0, 0, 0),
  (19, 1, .iconst (1), 0, 0, 1, 0),
  (20, 3, .invokestatic (97), 0, 0, 0, 0),
  (23, 3, .ifCond .eq (7), 30, 0, 0, 0),
  (26, 1, .iconst (1), 0, 0, 1, 0),
  (27, 3, .goto (4), 31, 0, 0, 0),
  (30, 1, .iconst (0), 0, 0, 0, 0),
  (31, 1, .iadd, 0, 0, 0, 0),
  (32, 1, .istore_n (1), 0, 0, 0, 0),
  (33, 3, .iinc (2) (1), 0, 0, 1, 0),
  (36, 3, .goto (-32), 4, 0, 0, 0),
  (39, 1, .iload_n (1), 0, 0, 0, 0),
  (40, 1, .ireturn, 0, 0, 0, 0)]
def md_Camp_snorers : Md := (y_Camp_snorers, prog_2_method_19_code, 3, (some .int), pm_Camp_snorers)
theorem tk_Camp_snorers : Tm md_Camp_snorers := tab_of (o := 0) (by decide +kernel)
set_option maxRecDepth 100000 in
theorem ok_Camp_snorers : MdOk md_Camp_snorers 0 ∧ Cond.instanceMethod md_Camp_snorers.1 ∈ T1 ∧ Cond.selects md_Camp_snorers.1.cls md_Camp_snorers.1 md_Camp_snorers.1 ∈ T1 := ⟨⟨T1_in2 (i := 202) rfl rfl, T1_in1 (i := 4) rfl rfl, by decide +kernel, ⟨by decide +kernel, by decide +kernel⟩, by decide +kernel, by decide⟩, T1_in2 (i := 200) rfl rfl, T1_in2 (i := 201) rfl rfl⟩
def pm_Integer_bitCount : List PE := [(0, 1, .iload_n (0), 0, 0, 0, 0),
  (1, 1, .iload_n (0), 0, 0, 0, 0),
  (2, 1, .iconst (1), 0, 0, 1, 0),
  (3, 1, .iushr, 0, 0, 0, 0),
  (4, 3, .ldc_w (265), 0, 0, 1431655765, 0),
  (7, 1, .iand, 0, 0, 0, 0),
  (8, 1, .isub, 0, 0, 0, 0),
  (9, 1, .istore_n (0), 0, 0, 0, 0),
  (10, 1, .iload_n (0), 0, 0, 0, 0),
  (11, 3, .ldc_w (266), 0, 0, 858993459, 0),
  (14, 1, .iand, 0, 0, 0, 0),
  (15, 1, .iload_n (0), 0, 0, 0, 0),
  (16, 1, .iconst (2), 0, 0, 2, 0),
  (17, 1, .iushr, 0, 0, 0, 0),
  (18, 3, .ldc_w (266), 0, 0, 858993459, 0),
  (21, 1, .iand, 0, 0, 0, 0),
  (22, 1, .iadd, 0, 0, 0, 0),
  (23, 1, .istore_n (0), 0, 0, 0, 0),
  (24, 1, .iload_n (0), 0, 0, 0, 0),
  (25, 1, .iload_n (0), 0, 0, 0, 0),
  (26, 1, .iconst (4), 0, 0, 4, 0),
  (27, 1, .iushr, 0, 0, 0, 0),
  (28, 1, .iadd, 0, 0, 0, 0),
  (29, 3, .ldc_w (267), 0, 0, 252645135, 0),
  (32, 1, .iand, 0, 0, 0, 0),
  (33, 1, .istore_n (0), 0, 0, 0, 0),
  (34, 1, .iload_n (0), 0, 0, 0, 0),
  (35, 1, .iload_n (0), 0, 0, 0, 0),
  (36, 2, .bipush (8), 0, 0, 8, 0),
  (38, 1, .iushr, 0, 0, 0, 0),
  (39, 1, .iadd, 0, 0, 0, 0),
  (40, 1, .istore_n (0), 0, 0, 0, 0),
  (41, 1, .iload_n (0), 0, 0, 0, 0),
  (42, 1, .iload_n (0), 0, 0, 0, 0),
  (43, 2, .bipush (16), 0, 0, 16, 0),
  (45, 1, .iushr, 0, 0, 0, 0),
  (46, 1, .iadd, 0, 0, 0, 0),
  (47, 1, .istore_n (0), 0, 0, 0, 0),
  (48, 1, .iload_n (0), 0, 0, 0, 0),
  (49, 2, .bipush (63), 0, 0, 63, 0),
  (51, 1, .iand, 0, 0, 0, 0),
  (52, 1, .ireturn, 0, 0, 0, 0)]
def md_Integer_bitCount : Md := (y_Integer_bitCount, prog_9_method_49_code, 1, (some .int), pm_Integer_bitCount)
theorem tk_Integer_bitCount : Tm md_Integer_bitCount := tab_of (o := 8) (by decide +kernel)
set_option maxRecDepth 100000 in
theorem ok_Integer_bitCount : MdOk md_Integer_bitCount 1 ∧ Cond.static md_Integer_bitCount.1 ∈ T1 := ⟨⟨T1_in2 (i := 205) rfl rfl, T1_in1 (i := 11) rfl rfl, by decide +kernel, ⟨by decide +kernel, by decide +kernel⟩, by decide +kernel, by decide⟩, T1_in2 (i := 204) rfl rfl⟩
def pm_Tent_vent : List PE := [(0, 1, .iload_n (1), 0, 0, 0, 0),
  (1, 3, .ifCond .eq (10), 11, 0, 0, 0),
  (4, 1, .iload_n (1), 0, 0, 0, 0),
  (5, 1, .iconst (1), 0, 0, 1, 0),
  (6, 3, .if_icmp .eq (5), 11, 0, 0, 0),
  (9, 1, .iconst (-1), 0, 0, (-1), 0),
  (10, 1, .ireturn, 0, 0, 0, 0),
  (11, 1, .aload_n (0), 0, 0, 0, 0),
  (12, 3, .getfield (26), 5, 2, 0, 0),
  (15, 3, .getfield (130), 0, 10, 0, 0),
  (18, 3, .ifCond .ne (6), 24, 0, 0, 0),
  (21, 2, .bipush (-4), 0, 0, (-4), 0),
  (23, 1, .ireturn, 0, 0, 0, 0),
  (24, 1, .aload_n (0), 0, 0, 0, 0),
  (25, 3, .getfield (26), 5, 2, 0, 0),
  (28, 3, .getfield (167), 0, 11, 0, 0),
  (31, 1, .istore_n (2), 0, 0, 0, 0),
  (32, 1, .aload_n (0), 0, 0, 0, 0),
  (33, 3, .getfield (26), 5, 2, 0, 0),
  (36, 1, .iload_n (1), 0, 0, 0, 0),
  (37, 3, .putfield (167), 0, 11, 0, 0),
  (40, 1, .iload_n (2), 0, 0, 0, 0),
  (41, 1, .ireturn, 0, 0, 0, 0)]
def md_Tent_vent : Md := (y_Tent_vent, prog_1_method_14_code, 3, (some .int), pm_Tent_vent)
theorem tk_Tent_vent : Tm md_Tent_vent := tab_of (o := 5) (by decide +kernel)
set_option maxRecDepth 100000 in
theorem ok_Tent_vent : MdOk md_Tent_vent 1 ∧ Cond.instanceMethod md_Tent_vent.1 ∈ T1 ∧ Cond.selects md_Tent_vent.1.cls md_Tent_vent.1 md_Tent_vent.1 ∈ T1 := ⟨⟨T1_in2 (i := 212) rfl rfl, T1_in1 (i := 1) rfl rfl, by decide +kernel, ⟨by decide +kernel, by decide +kernel⟩, by decide +kernel, by decide⟩, T1_in2 (i := 210) rfl rfl, T1_in2 (i := 211) rfl rfl⟩
def pm_Tent_bottle : List PE := [(0, 1, .aload_n (0), 0, 0, 0, 0),
  (1, 3, .getfield (26), 5, 2, 0, 0),
  (4, 1, .iload_n (1), 0, 0, 0, 0),
  (5, 3, .invokevirtual (133), 0, 0, 0, 0),
  (8, 3, .ifCond .ne (5), 13, 0, 0, 0),
  (11, 1, .iconst (-1), 0, 0, (-1), 0),
  (12, 1, .ireturn, 0, 0, 0, 0),
  (13, 1, .aload_n (0), 0, 0, 0, 0),
  (14, 3, .getfield (26), 5, 2, 0, 0),
  (17, 3, .getfield (170), 0, 12, 0, 0),
  (20, 1, .istore_n (2), 0, 0, 0, 0),
  (21, 1, .aload_n (0), 0, 0, 0, 0),
  (22, 3, .getfield (26), 5, 2, 0, 0),
  (25, 1, .iload_n (1), 0, 0, 0, 0),
  (26, 3, .putfield (170), 0, 12, 0, 0),
  (29, 1, .iload_n (2), 0, 0, 0, 0),
  (30, 1, .ireturn, 0, 0, 0, 0)]
def md_Tent_bottle : Md := (y_Tent_bottle, prog_1_method_15_code, 3, (some .int), pm_Tent_bottle)
theorem tk_Tent_bottle : Tm md_Tent_bottle := tab_of (o := 5) (by decide +kernel)
set_option maxRecDepth 100000 in
theorem ok_Tent_bottle : MdOk md_Tent_bottle 1 ∧ Cond.instanceMethod md_Tent_bottle.1 ∈ T1 ∧ Cond.selects md_Tent_bottle.1.cls md_Tent_bottle.1 md_Tent_bottle.1 ∈ T1 := ⟨⟨T1_in2 (i := 216) rfl rfl, T1_in1 (i := 1) rfl rfl, by decide +kernel, ⟨by decide +kernel, by decide +kernel⟩, by decide +kernel, by decide⟩, T1_in2 (i := 214) rfl rfl, T1_in2 (i := 215) rfl rfl⟩
def pm_Tent_turns : List PE := [(0, 1, .iload_n (1), 0, 0, 0, 0),
  (1, 3, .ifCond .lt (10), 11, 0, 0, 0),
  (4, 1, .iload_n (1), 0, 0, 0, 0),
  (5, 3, .sipush (256), 0, 0, 256, 0),
  (8, 3, .if_icmp .lt (5), 13, 0, 0, 0),
  (11, 1, .iconst (-1), 0, 0, (-1), 0),
  (12, 1, .ireturn, 0, 0, 0, 0),
  (13, 1, .aload_n (0), 0, 0, 0, 0),
  (14, 3, .getfield (26), 5, 2, 0, 0),
  (17, 3, .getfield (130), 0, 10, 0, 0),
  (20, 3, .ifCond .ne (6), 26, 0, 0, 0),
  (23, 2, .bipush (-4), 0, 0, (-4), 0),
  (25, 1, .ireturn, 0, 0, 0, 0),
  (26, 1, .aload_n (0), 0, 0, 0, 0),
  (27, 3, .getfield (26), 5, 2, 0, 0),
  (30, 3, .getfield (159), 0, 13, 0, 0),
  (33, 1, .istore_n (2), 0, 0, 0, 0),
  (34, 1, .aload_n (0), 0, 0, 0, 0),
  (35, 3, .getfield (26), 5, 2, 0, 0),
  (38, 1, .iload_n (1), 0, 0, 0, 0),
  (39, 3, .putfield (159), 0, 13, 0, 0),
  (42, 1, .iload_n (2), 0, 0, 0, 0),
  (43, 1, .ireturn, 0, 0, 0, 0)]
def md_Tent_turns : Md := (y_Tent_turns, prog_1_method_16_code, 3, (some .int), pm_Tent_turns)
theorem tk_Tent_turns : Tm md_Tent_turns := tab_of (o := 5) (by decide +kernel)
set_option maxRecDepth 100000 in
theorem ok_Tent_turns : MdOk md_Tent_turns 1 ∧ Cond.instanceMethod md_Tent_turns.1 ∈ T1 ∧ Cond.selects md_Tent_turns.1.cls md_Tent_turns.1 md_Tent_turns.1 ∈ T1 := ⟨⟨T1_in2 (i := 220) rfl rfl, T1_in1 (i := 1) rfl rfl, by decide +kernel, ⟨by decide +kernel, by decide +kernel⟩, by decide +kernel, by decide⟩, T1_in2 (i := 218) rfl rfl, T1_in2 (i := 219) rfl rfl⟩
def pm_Tent_change : List PE := [(0, 1, .aload_n (0), 0, 0, 0, 0),
  (1, 3, .getfield (26), 5, 2, 0, 0),
  (4, 1, .iload_n (1), 0, 0, 0, 0),
  (5, 3, .invokevirtual (133), 0, 0, 0, 0),
  (8, 3, .ifCond .eq (14), 22, 0, 0, 0),
  (11, 1, .aload_n (0), 0, 0, 0, 0),
  (12, 3, .getfield (26), 5, 2, 0, 0),
  (15, 1, .iload_n (2), 0, 0, 0, 0),
  (16, 3, .invokevirtual (133), 0, 0, 0, 0),
  (19, 3, .ifCond .ne (5), 24, 0, 0, 0),
  (22, 1, .iconst (-1), 0, 0, (-1), 0),
  (23, 1, .ireturn, 0, 0, 0, 0),
  (24, 1, .aload_n (0), 0, 0, 0, 0),
  (25, 3, .getfield (26), 5, 2, 0, 0),
  (28, 3, .getfield (173), 0, 4, 0, 0),
  (31, 1, .iload_n (1), 0, 0, 0, 0),
  (32, 1, .iload_n (2), 0, 0, 0, 0),
  (33, 3, .invokestatic (176), 0, 0, 0, 0),
  (36, 1, .aload_n (0), 0, 0, 0, 0),
  (37, 3, .getfield (26), 5, 2, 0, 0),
  (40, 3, .invokevirtual (180), 0, 0, 0, 0),
  (43, 1, .aload_n (0), 0, 0, 0, 0),
  (44, 3, .getfield (26), 5, 2, 0, 0),
  (47, 3, .getfield (173), 0, 4, 0, 0),
  (50, 1, .iload_n (1), 0, 0, 0, 0),
  (51, 1, .iaload, 0, 0, 0, 0),
  (52, 1, .ireturn, 0, 0, 0, 0)]
def md_Tent_change : Md := (y_Tent_change, prog_1_method_17_code, 3, (some .int), pm_Tent_change)
theorem tk_Tent_change : Tm md_Tent_change := tab_of (o := 5) (by decide +kernel)
set_option maxRecDepth 100000 in
theorem ok_Tent_change : MdOk md_Tent_change 2 ∧ Cond.instanceMethod md_Tent_change.1 ∈ T1 ∧ Cond.selects md_Tent_change.1.cls md_Tent_change.1 md_Tent_change.1 ∈ T1 := ⟨⟨T1_in2 (i := 224) rfl rfl, T1_in1 (i := 1) rfl rfl, by decide +kernel, ⟨by decide +kernel, by decide +kernel⟩, by decide +kernel, by decide⟩, T1_in2 (i := 222) rfl rfl, T1_in2 (i := 223) rfl rfl⟩
def pm_Tent_swap : List PE := [(0, 1, .aload_n (0), 0, 0, 0, 0),
  (1, 1, .iload_n (1), 0, 0, 0, 0),
  (2, 1, .iaload, 0, 0, 0, 0),
  (3, 1, .istore_n (3), 0, 0, 0, 0),
  (4, 1, .aload_n (0), 0, 0, 0, 0),
  (5, 1, .iload_n (1), 0, 0, 0, 0),
  (6, 1, .aload_n (0), 0, 0, 0, 0),
  (7, 1, .iload_n (2), 0, 0, 0, 0),
  (8, 1, .iaload, 0, 0, 0, 0),
  (9, 1, .iastore, 0, 0, 0, 0),
  (10, 1, .aload_n (0), 0, 0, 0, 0),
  (11, 1, .iload_n (2), 0, 0, 0, 0),
  (12, 1, .iload_n (3), 0, 0, 0, 0),
  (13, 1, .iastore, 0, 0, 0, 0),
  (14, 1, .return_, 0, 0, 0, 0)]
def md_Tent_swap : Md := (y_Tent_swap, prog_1_method_66_code, 4, none, pm_Tent_swap)
theorem tk_Tent_swap : Tm md_Tent_swap := tab_of (o := 5) (by decide +kernel)
set_option maxRecDepth 100000 in
theorem ok_Tent_swap : MdOk md_Tent_swap 3 ∧ Cond.static md_Tent_swap.1 ∈ T1 := ⟨⟨T1_in2 (i := 227) rfl rfl, T1_in1 (i := 1) rfl rfl, by decide +kernel, ⟨by decide +kernel, by decide +kernel⟩, by decide +kernel, by decide⟩, T1_in2 (i := 226) rfl rfl⟩
def pm_Camp_fillPlaces : List PE := [(0, 1, .iconst (0), 0, 0, 0, 0),
  (1, 1, .istore_n (1), 0, 0, 0, 0),
  (2, 1, .iload_n (1), 0, 0, 0, 0),
  (3, 1, .aload_n (0), 0, 0, 0, 0),
  (4, 3, .getfield (42), 0, 10, 0, 0),
  (7, 3, .if_icmp .ge (21), 28, 0, 0, 0),
  (10, 1, .aload_n (0), 0, 0, 0, 0),
  (11, 3, .getfield (27), 0, 5, 0, 0),
  (14, 1, .aload_n (0), 0, 0, 0, 0),
  (15, 3, .getfield (24), 0, 4, 0, 0),
  (18, 1, .iload_n (1), 0, 0, 0, 0),
  (19, 1, .iaload, 0, 0, 0, 0),
  (20, 1, .iload_n (1), 0, 0, 0, 0),
  (21, 1, .iastore, 0, 0, 0, 0),
  (22, 3, .iinc (1) (1), 0, 0, 1, 0),
  (25, 3, .goto (-23), 2, 0, 0, 0),
  (28, 1, .return_, 0, 0, 0, 0)]
def md_Camp_fillPlaces : Md := (y_Camp_fillPlaces, prog_2_method_8_code, 2, none, pm_Camp_fillPlaces)
theorem tk_Camp_fillPlaces : Tm md_Camp_fillPlaces := tab_of (o := 0) (by decide +kernel)
set_option maxRecDepth 100000 in
theorem ok_Camp_fillPlaces : MdOk md_Camp_fillPlaces 0 ∧ Cond.instanceMethod md_Camp_fillPlaces.1 ∈ T1 ∧ Cond.selects md_Camp_fillPlaces.1.cls md_Camp_fillPlaces.1 md_Camp_fillPlaces.1 ∈ T1 := ⟨⟨T1_in2 (i := 231) rfl rfl, T1_in1 (i := 4) rfl rfl, by decide +kernel, ⟨by decide +kernel, by decide +kernel⟩, by decide +kernel, by decide⟩, T1_in2 (i := 229) rfl rfl, T1_in2 (i := 230) rfl rfl⟩
def pm_Tent_bags : List PE := [(0, 1, .aload_n (0), 0, 0, 0, 0),
  (1, 3, .getfield (26), 5, 2, 0, 0),
  (4, 1, .iload_n (1), 0, 0, 0, 0),
  (5, 3, .invokevirtual (133), 0, 0, 0, 0),
  (8, 3, .ifCond .eq (14), 22, 0, 0, 0),
  (11, 1, .aload_n (0), 0, 0, 0, 0),
  (12, 3, .getfield (26), 5, 2, 0, 0),
  (15, 1, .iload_n (2), 0, 0, 0, 0),
  (16, 3, .invokevirtual (133), 0, 0, 0, 0),
  (19, 3, .ifCond .ne (5), 24, 0, 0, 0),
  (22, 1, .iconst (-1), 0, 0, (-1), 0),
  (23, 1, .ireturn, 0, 0, 0, 0),
  (24, 1, .aload_n (0), 0, 0, 0, 0),
  (25, 3, .getfield (26), 5, 2, 0, 0),
  (28, 3, .getfield (183), 0, 3, 0, 0),
  (31, 1, .iload_n (1), 0, 0, 0, 0),
  (32, 1, .iload_n (2), 0, 0, 0, 0),
  (33, 3, .invokestatic (176), 0, 0, 0, 0),
  (36, 1, .aload_n (0), 0, 0, 0, 0),
  (37, 3, .getfield (26), 5, 2, 0, 0),
  (40, 3, .getfield (183), 0, 3, 0, 0),
  (43, 1, .iload_n (1), 0, 0, 0, 0),
  (44, 1, .iaload, 0, 0, 0, 0),
  (45, 1, .ireturn, 0, 0, 0, 0)]
def md_Tent_bags : Md := (y_Tent_bags, prog_1_method_18_code, 3, (some .int), pm_Tent_bags)
theorem tk_Tent_bags : Tm md_Tent_bags := tab_of (o := 5) (by decide +kernel)
set_option maxRecDepth 100000 in
theorem ok_Tent_bags : MdOk md_Tent_bags 2 ∧ Cond.instanceMethod md_Tent_bags.1 ∈ T1 ∧ Cond.selects md_Tent_bags.1.cls md_Tent_bags.1 md_Tent_bags.1 ∈ T1 := ⟨⟨T1_in2 (i := 235) rfl rfl, T1_in1 (i := 1) rfl rfl, by decide +kernel, ⟨by decide +kernel, by decide +kernel⟩, by decide +kernel, by decide⟩, T1_in2 (i := 233) rfl rfl, T1_in2 (i := 234) rfl rfl⟩
def pm_Tent_lie : List PE := [(0, 1, .aload_n (0), 0, 0, 0, 0),
  (1, 1, .iload_n (1), 0, 0, 0, 0),
  (2, 3, .invokevirtual (186), 0, 0, 0, 0),
  (5, 1, .istore_n (2), 0, 0, 0, 0),
  (6, 1, .iload_n (2), 0, 0, 0, 0),
  (7, 3, .ifCond .eq (5), 12, 0, 0, 0),
  (10, 1, .iload_n (2), 0, 0, 0, 0),
  (11, 1, .ireturn, 0, 0, 0, 0),
  (12, 1, .aload_n (0), 0, 0, 0, 0),
  (13, 1, .iload_n (1), 0, 0, 0, 0),
  (14, 3, .invokevirtual (189), 0, 0, 0, 0),
  (17, 3, .ifCond .ne (9), 26, 0, 0, 0),
  (20, 1, .aload_n (0), 0, 0, 0, 0),
  (21, 1, .iconst (3), 0, 0, 3, 0),
  (22, 3, .invokevirtual (97), 0, 0, 0, 0),
  (25, 1, .ireturn, 0, 0, 0, 0),
  (26, 1, .aload_n (0), 0, 0, 0, 0),
  (27, 3, .getfield (47), 5, 6, 0, 0),
  (30, 1, .aload_n (0), 0, 0, 0, 0),
  (31, 3, .getfield (14), 5, 0, 0, 0),
  (34, 1, .iload_n (1), 0, 0, 0, 0),
  (35, 1, .aload_n (0), 0, 0, 0, 0),
  (36, 3, .getfield (26), 5, 2, 0, 0),
  (39, 3, .getfield (130), 0, 10, 0, 0),
  (42, 3, .invokevirtual (192), 0, 0, 0, 0),
  (45, 1, .aload_n (0), 0, 0, 0, 0),
  (46, 3, .getfield (26), 5, 2, 0, 0),
  (49, 1, .aload_n (0), 0, 0, 0, 0),
  (50, 3, .getfield (47), 5, 6, 0, 0),
  (53, 3, .getfield (196), 1, 0, 0, 0),
  (56, 3, .invokevirtual (199), 0, 0, 0, 0),
  (59, 1, .iconst (1), 0, 0, 1, 0),
  (60, 1, .ireturn, 0, 0, 0, 0)]
def md_Tent_lie : Md := (y_Tent_lie, prog_1_method_19_code, 3, (some .int), pm_Tent_lie)
theorem tk_Tent_lie : Tm md_Tent_lie := tab_of (o := 5) (by decide +kernel)
set_option maxRecDepth 100000 in
theorem ok_Tent_lie : MdOk md_Tent_lie 1 ∧ Cond.instanceMethod md_Tent_lie.1 ∈ T1 ∧ Cond.selects md_Tent_lie.1.cls md_Tent_lie.1 md_Tent_lie.1 ∈ T1 := ⟨⟨T1_in2 (i := 239) rfl rfl, T1_in1 (i := 1) rfl rfl, by decide +kernel, ⟨by decide +kernel, by decide +kernel⟩, by decide +kernel, by decide⟩, T1_in2 (i := 237) rfl rfl, T1_in2 (i := 238) rfl rfl⟩
def pm_Tent_refuseRowForPlaces : List PE := [(0, 1, .aload_n (0), 0, 0, 0, 0),
  (1, 1, .iload_n (1), 0, 0, 0, 0),
  (2, 3, .invokevirtual (263), 0, 0, 0, 0),
  (5, 1, .istore_n (2), 0, 0, 0, 0),
  (6, 1, .iload_n (2), 0, 0, 0, 0),
  (7, 3, .ifCond .eq (5), 12, 0, 0, 0),
  (10, 1, .iload_n (2), 0, 0, 0, 0),
  (11, 1, .ireturn, 0, 0, 0, 0),
  (12, 1, .aload_n (0), 0, 0, 0, 0),
  (13, 3, .getfield (14), 5, 0, 0, 0),
  (16, 1, .iload_n (1), 0, 0, 0, 0),
  (17, 3, .invokevirtual (101), 0, 0, 0, 0),
  (20, 3, .ifCond .ne (9), 29, 0, 0, 0),
  (23, 1, .aload_n (0), 0, 0, 0, 0),
  (24, 1, .iconst (1), 0, 0, 1, 0),
  (25, 3, .invokevirtual (97), 0, 0, 0, 0),
  (28, 1, .ireturn, 0, 0, 0, 0),
  (29, 1, .aload_n (0), 0, 0, 0, 0),
  (30, 3, .getfield (14), 5, 0, 0, 0),
  (33, 1, .iload_n (1), 0, 0, 0, 0),
  (34, 3, .invokevirtual (112), 0, 0, 0, 0),
  (37, 1, .aload_n (0), 0, 0, 0, 0),
  (38, 3, .getfield (26), 5, 2, 0, 0),
  (41, 3, .getfield (130), 0, 10, 0, 0),
  (44, 3, .if_icmp .ne (7), 51, 0, 0, 0),
  (47, 1, .iconst (0), 0, 0, 0, 0),
  (48, 3, .goto (8), 56, 0, 0, 0),
  (51, 1, .aload_n (0), 0, 0, 0, 0),
  (52, 1, .iconst (5), 0, 0, 5, 0),
  (53, 3, .invokevirtual (97), 0, 0, 0, 0),
  (56, 1, .ireturn, 0, 0, 0, 0)]
def md_Tent_refuseRowForPlaces : Md := (y_Tent_refuseRowForPlaces, prog_1_method_57_code, 3, (some .int), pm_Tent_refuseRowForPlaces)
theorem tk_Tent_refuseRowForPlaces : Tm md_Tent_refuseRowForPlaces := tab_of (o := 5) (by decide +kernel)
set_option maxRecDepth 100000 in
theorem ok_Tent_refuseRowForPlaces : MdOk md_Tent_refuseRowForPlaces 1 ∧ Cond.instanceMethod md_Tent_refuseRowForPlaces.1 ∈ T1 ∧ Cond.selects md_Tent_refuseRowForPlaces.1.cls md_Tent_refuseRowForPlaces.1 md_Tent_refuseRowForPlaces.1 ∈ T1 := ⟨⟨T1_in3 (i := 3) rfl rfl, T1_in1 (i := 1) rfl rfl, by decide +kernel, ⟨by decide +kernel, by decide +kernel⟩, by decide +kernel, by decide⟩, T1_in3 (i := 2) rfl rfl, T1_inP (i := 12) rfl⟩
def pm_Tent_refuseRowToFill : List PE := [(0, 1, .aload_n (0), 0, 0, 0, 0),
  (1, 3, .getfield (14), 5, 0, 0, 0),
  (4, 1, .iload_n (1), 0, 0, 0, 0),
  (5, 3, .invokevirtual (93), 0, 0, 0, 0),
  (8, 3, .ifCond .ne (5), 13, 0, 0, 0),
  (11, 1, .iconst (-1), 0, 0, (-1), 0),
  (12, 1, .ireturn, 0, 0, 0, 0),
  (13, 1, .aload_n (0), 0, 0, 0, 0),
  (14, 3, .getfield (26), 5, 2, 0, 0),
  (17, 3, .getfield (130), 0, 10, 0, 0),
  (20, 3, .ifCond .ne (8), 28, 0, 0, 0),
  (23, 2, .bipush (-4), 0, 0, (-4), 0),
  (25, 3, .goto (4), 29, 0, 0, 0),
  (28, 1, .iconst (0), 0, 0, 0, 0),
  (29, 1, .ireturn, 0, 0, 0, 0)]
def md_Tent_refuseRowToFill : Md := (y_Tent_refuseRowToFill, prog_1_method_56_code, 2, (some .int), pm_Tent_refuseRowToFill)
theorem tk_Tent_refuseRowToFill : Tm md_Tent_refuseRowToFill := tab_of (o := 5) (by decide +kernel)
set_option maxRecDepth 100000 in
theorem ok_Tent_refuseRowToFill : MdOk md_Tent_refuseRowToFill 1 ∧ Cond.instanceMethod md_Tent_refuseRowToFill.1 ∈ T1 ∧ Cond.selects md_Tent_refuseRowToFill.1.cls md_Tent_refuseRowToFill.1 md_Tent_refuseRowToFill.1 ∈ T1 := ⟨⟨T1_in3 (i := 7) rfl rfl, T1_in1 (i := 1) rfl rfl, by decide +kernel, ⟨by decide +kernel, by decide +kernel⟩, by decide +kernel, by decide⟩, T1_in3 (i := 6) rfl rfl, T1_inP (i := 13) rfl⟩
def pm_Tent_holdsOrder : List PE := [(0, 1, .iconst (0), 0, 0, 0, 0),
  (1, 1, .istore_n (2), 0, 0, 0, 0),
  (2, 1, .iconst (0), 0, 0, 0, 0),
  (3, 1, .istore_n (3), 0, 0, 0, 0),
  (4, 1, .iload_n (3), 0, 0, 0, 0),
  (5, 1, .aload_n (0), 0, 0, 0, 0),
  (6, 3, .getfield (26), 5, 2, 0, 0),
  (9, 3, .getfield (130), 0, 10, 0, 0),
  (12, 3, .if_icmp .ge (51), 63, 0, 0, 0),
  (15, 1, .aload_n (0), 0, 0, 0, 0),
  (16, 3, .getfield (14), 5, 0, 0, 0),
  (19, 1, .iload_n (1), 0, 0, 0, 0),
  (20, 1, .iload_n (3), 0, 0, 0, 0),
  (21, 3, .invokevirtual (74), 0, 0, 0, 0),
  (24, 2, .istore (4), 0, 0, 0, 0),
  (26, 1, .aload_n (0), 0, 0, 0, 0),
  (27, 3, .getfield (26), 5, 2, 0, 0),
  (30, 2, .iload (4), 0, 0, 0, 0),
  (32, 3, .invokevirtual (133), 0, 0, 0, 0),
  (35, 3, .ifCond .eq (13), 48, 0, 0, 0),
  (38, 1, .iload_n (2), 0, 0, 0, 0),
  (39, 2, .iload (4), 0, 0, 0, 0),
  (41, 1, .ishr, 0, 0, 0, 0),
  (42, 1, .iconst (1), 0, 0, 1, 0),
  (43, 1, .iand, 0, 0, 0, 0),
  (44, 1, .iconst (1), 0, 0, 1, 0),
  (45, 3, .if_icmp .ne (5), 50, 0, 0, 0),
  (48, 1, .iconst (0), 0, 0, 0, 0),
  (49, 1, .ireturn, 0, 0, 0, 0),
  (50, 1, .iload_n (2), 0, 0, 0, 0),
  (51, 1, .iconst (1), 0, 0, 1, 0),
  (52, 2, .iload (4), 0, 0, 0, 0),
  (54, 1, .ishl, 0, 0, 0, 0),
  (55, 1, .ior, 0, 0, 0, 0),
  (56, 1, .istore_n (2), 0, 0, 0, 0),
  (57, 3, .iinc (3) (1), 0, 0, 1, 0),
  (60, 3, .goto (-56), 4, 0, 0, 0),
  (63, 1, .iconst (1), 0, 0, 1, 0),
  (64, 1, .ireturn, 0, 0, 0, 0)]
def md_Tent_holdsOrder : Md := (y_Tent_holdsOrder, prog_1_method_58_code, 5, (some .boolean), pm_Tent_holdsOrder)
theorem tk_Tent_holdsOrder : Tm md_Tent_holdsOrder := tab_of (o := 5) (by decide +kernel)
set_option maxRecDepth 100000 in
theorem ok_Tent_holdsOrder : MdOk md_Tent_holdsOrder 1 ∧ Cond.instanceMethod md_Tent_holdsOrder.1 ∈ T1 ∧ Cond.selects md_Tent_holdsOrder.1.cls md_Tent_holdsOrder.1 md_Tent_holdsOrder.1 ∈ T1 := ⟨⟨T1_in3 (i := 11) rfl rfl, T1_in1 (i := 1) rfl rfl, by decide +kernel, ⟨by decide +kernel, by decide +kernel⟩, by decide +kernel, by decide⟩, T1_in3 (i := 10) rfl rfl, T1_inP (i := 14) rfl⟩
def pm_Orders_readFrom : List PE := [(0, 1, .aload_n (0), 0, 0, 0, 0),
  (1, 1, .iload_n (3), 0, 0, 0, 0),
  (2, 1, .iconst (5), 0, 0, 5, 0),
  (3, 3, .invokestatic (15), 0, 0, 0, 0),
  (6, 3, .putfield (21), 1, 1, 0, 0),
  (9, 1, .iconst (0), 0, 0, 0, 0),
  (10, 2, .istore (4), 0, 0, 0, 0),
  (12, 2, .iload (4), 0, 0, 0, 0),
  (14, 1, .aload_n (0), 0, 0, 0, 0),
  (15, 3, .getfield (21), 1, 1, 0, 0),
  (18, 3, .if_icmp .ge (23), 41, 0, 0, 0),
  (21, 1, .aload_n (0), 0, 0, 0, 0),
  (22, 3, .getfield (9), 1, 0, 0, 0),
  (25, 2, .iload (4), 0, 0, 0, 0),
  (27, 1, .aload_n (1), 0, 0, 0, 0),
  (28, 1, .iload_n (2), 0, 0, 0, 0),
  (29, 2, .iload (4), 0, 0, 0, 0),
  (31, 3, .invokevirtual (40), 0, 0, 0, 0),
  (34, 1, .iastore, 0, 0, 0, 0),
  (35, 3, .iinc (4) (1), 0, 0, 1, 0),
  (38, 3, .goto (-26), 12, 0, 0, 0),
  (41, 1, .return_, 0, 0, 0, 0)]
def md_Orders_readFrom : Md := (y_Orders_readFrom, prog_3_method_8_code, 5, none, pm_Orders_readFrom)
theorem tk_Orders_readFrom : Tm md_Orders_readFrom := tab_of (o := 1) (by decide +kernel)
set_option maxRecDepth 100000 in
theorem ok_Orders_readFrom : MdOk md_Orders_readFrom 3 ∧ Cond.instanceMethod md_Orders_readFrom.1 ∈ T1 ∧ Cond.selects md_Orders_readFrom.1.cls md_Orders_readFrom.1 md_Orders_readFrom.1 ∈ T1 := ⟨⟨T1_in3 (i := 15) rfl rfl, T1_in1 (i := 6) rfl rfl, by decide +kernel, ⟨by decide +kernel, by decide +kernel⟩, by decide +kernel, by decide⟩, T1_in3 (i := 13) rfl rfl, T1_in3 (i := 14) rfl rfl⟩
def pm_Camp_layBy : List PE := [(0, 1, .iconst (0), 0, 0, 0, 0),
  (1, 1, .istore_n (2), 0, 0, 0, 0),
  (2, 1, .iload_n (2), 0, 0, 0, 0),
  (3, 1, .aload_n (0), 0, 0, 0, 0),
  (4, 3, .getfield (42), 0, 10, 0, 0),
  (7, 3, .if_icmp .ge (27), 34, 0, 0, 0),
  (10, 1, .aload_n (0), 0, 0, 0, 0),
  (11, 3, .getfield (27), 0, 5, 0, 0),
  (14, 1, .iload_n (2), 0, 0, 0, 0),
  (15, 1, .aload_n (1), 0, 0, 0, 0),
  (16, 1, .iload_n (2), 0, 0, 0, 0),
  (17, 1, .iaload, 0, 0, 0, 0),
  (18, 1, .iastore, 0, 0, 0, 0),
  (19, 1, .aload_n (0), 0, 0, 0, 0),
  (20, 3, .getfield (24), 0, 4, 0, 0),
  (23, 1, .aload_n (1), 0, 0, 0, 0),
  (24, 1, .iload_n (2), 0, 0, 0, 0),
  (25, 1, .iaload, 0, 0, 0, 0),
  (26, 1, .iload_n (2), 0, 0, 0, 0),
  (27, 1, .iastore, 0, 0, 0, 0),
  (28, 3, .iinc (2) (1), 0, 0, 1, 0),
  (31, 3, .goto (-29), 2, 0, 0, 0),
  (34, 1, .return_, 0, 0, 0, 0)]
def md_Camp_layBy : Md := (y_Camp_layBy, prog_2_method_7_code, 3, none, pm_Camp_layBy)
theorem tk_Camp_layBy : Tm md_Camp_layBy := tab_of (o := 0) (by decide +kernel)
set_option maxRecDepth 100000 in
theorem ok_Camp_layBy : MdOk md_Camp_layBy 1 ∧ Cond.instanceMethod md_Camp_layBy.1 ∈ T1 ∧ Cond.selects md_Camp_layBy.1.cls md_Camp_layBy.1 md_Camp_layBy.1 ∈ T1 := ⟨⟨T1_in3 (i := 21) rfl rfl, T1_in1 (i := 4) rfl rfl, by decide +kernel, ⟨by decide +kernel, by decide +kernel⟩, by decide +kernel, by decide⟩, T1_in3 (i := 19) rfl rfl, T1_in3 (i := 20) rfl rfl⟩
def pm_Tent_hour : List PE := [(0, 1, .aload_n (0), 0, 0, 0, 0),
  (1, 3, .getfield (26), 5, 2, 0, 0),
  (4, 3, .getfield (130), 0, 10, 0, 0),
  (7, 3, .ifCond .eq (15), 22, 0, 0, 0),
  (10, 1, .aload_n (0), 0, 0, 0, 0),
  (11, 3, .getfield (26), 5, 2, 0, 0),
  (14, 3, .getfield (203), 0, 14, 0, 0),
  (17, 2, .bipush (8), 0, 0, 8, 0),
  (19, 3, .if_icmp .lt (6), 25, 0, 0, 0),
  (22, 2, .bipush (-4), 0, 0, (-4), 0),
  (24, 1, .ireturn, 0, 0, 0, 0),
  (25, 1, .aload_n (0), 0, 0, 0, 0),
  (26, 3, .getfield (26), 5, 2, 0, 0),
  (29, 3, .getfield (206), 0, 16, 0, 0),
  (32, 2, .bipush (40), 0, 0, 40, 0),
  (34, 3, .if_icmp .lt (6), 40, 0, 0, 0),
  (37, 2, .bipush (-2), 0, 0, (-2), 0),
  (39, 1, .ireturn, 0, 0, 0, 0),
  (40, 1, .aload_n (0), 0, 0, 0, 0),
  (41, 3, .getfield (26), 5, 2, 0, 0),
  (44, 3, .invokevirtual (209), 0, 0, 0, 0),
  (47, 1, .ireturn, 0, 0, 0, 0)]
def md_Tent_hour : Md := (y_Tent_hour, prog_1_method_20_code, 1, (some .int), pm_Tent_hour)
theorem tk_Tent_hour : Tm md_Tent_hour := tab_of (o := 5) (by decide +kernel)
set_option maxRecDepth 100000 in
theorem ok_Tent_hour : MdOk md_Tent_hour 0 ∧ Cond.instanceMethod md_Tent_hour.1 ∈ T1 ∧ Cond.selects md_Tent_hour.1.cls md_Tent_hour.1 md_Tent_hour.1 ∈ T1 := ⟨⟨T1_in3 (i := 25) rfl rfl, T1_in1 (i := 1) rfl rfl, by decide +kernel, ⟨by decide +kernel, by decide +kernel⟩, by decide +kernel, by decide⟩, T1_in3 (i := 23) rfl rfl, T1_in3 (i := 24) rfl rfl⟩
def pm_Camp_passHour : List PE := [(0, 1, .aload_n (0), 0, 0, 0, 0),
  (1, 1, .aload_n (0), 0, 0, 0, 0),
  (2, 3, .getfield (55), 0, 14, 0, 0),
  (5, 3, .invokevirtual (80), 0, 0, 0, 0),
  (8, 1, .istore_n (1), 0, 0, 0, 0),
  (9, 1, .aload_n (0), 0, 0, 0, 0),
  (10, 3, .invokevirtual (84), 0, 0, 0, 0),
  (13, 1, .iconst (0), 0, 0, 0, 0),
  (14, 1, .istore_n (2), 0, 0, 0, 0),
  (15, 1, .iload_n (2), 0, 0, 0, 0),
  (16, 1, .aload_n (0), 0, 0, 0, 0),
  (17, 3, .getfield (42), 0, 10, 0, 0),
  (20, 3, .if_icmp .ge (45), 65, 0, 0, 0),
  (23, 1, .aload_n (0), 0, 0, 0, 0),
  (24, 3, .getfield (30), 0, 6, 0, 0),
  (27, 1, .iload_n (2), 0, 0, 0, 0),
  (28, 1, .dup2, 0, 0, 0, 0),
  (29, 1, .iaload, 0, 0, 0, 0),
  (30, 1, .iload_n (1), 0, 0, 0, 0),
  (31, 1, .iload_n (2), 0, 0, 0, 0),
  (32, 1, .ishr, 0, 0, 0, 0),
  (33, 1, .iconst (1), 0, 0, 1, 0),
  (34, 1, .iand, 0, 0, 0, 0),
  (35, 1, .iadd, 0, 0, 0, 0),
  (36, 1, .iastore, 0, 0, 0, 0),
  (37, 1, .aload_n (0), 0, 0, 0, 0),
  (38, 3, .getfield (33), 0, 7, 0, 0),
  (41, 1, .iload_n (2), 0, 0, 0, 0),
  (42, 1, .dup2, 0, 0, 0, 0),
  (43, 1, .iaload, 0, 0, 0, 0),
  (44, 1, .aload_n (0), 0, 0, 0, 0),
  (45, 1, .iload_n (2), 0, 0, 0, 0),
  (46, 3, .invokevirtual (87), 0, 0, 0, 0),
  (49, 3, .ifCond .eq (7), 56, 0, 0, 0),
  (52, 1, .iconst (1), 0, 0, 1, 0),
  (53, 3, .goto (4), 57, 0, 0, 0),
  (56, 1, .iconst (0), 0, 0, 0, 0),
  (57, 1, .iadd, 0, 0, 0, 0),
  (58, 1, .iastore, 0, 0, 0, 0),
  (59, 3, .iinc (2) (1), 0, 0, 1, 0),
  (62, 3, .goto (-47), 15, 0, 0, 0),
  (65, 1, .aload_n (0), 0, 0, 0, 0),
  (66, 1, .dup, 0, 0, 0, 0),
  (67, 3, .getfield (55), 0, 14, 0, 0),
  (70, 1, .iconst (1), 0, 0, 1, 0),
  (71, 1, .iadd, 0, 0, 0, 0),
  (72, 3, .putfield (55), 0, 14, 0, 0),
  (75, 1, .aload_n (0), 0, 0, 0, 0),
  (76, 1, .dup, 0, 0, 0, 0),
  (77, 3, .getfield (61), 0, 16, 0, 0),
  (80, 1, .iconst (1), 0, 0, 1, 0),
  (81, 1, .iadd, 0, 0, 0, 0),
  (82, 3, .putfield (61), 0, 16, 0, 0),
  (85, 1, .iload_n (1), 0, 0, 0, 0),
  (86, 1, .ireturn, 0, 0, 0, 0)]
def md_Camp_passHour : Md := (y_Camp_passHour, prog_2_method_9_code, 3, (some .int), pm_Camp_passHour)
theorem tk_Camp_passHour : Tm md_Camp_passHour := tab_of (o := 0) (by decide +kernel)
set_option maxRecDepth 100000 in
theorem ok_Camp_passHour : MdOk md_Camp_passHour 0 ∧ Cond.instanceMethod md_Camp_passHour.1 ∈ T1 ∧ Cond.selects md_Camp_passHour.1.cls md_Camp_passHour.1 md_Camp_passHour.1 ∈ T1 := ⟨⟨T1_in3 (i := 29) rfl rfl, T1_in1 (i := 4) rfl rfl, by decide +kernel, ⟨by decide +kernel, by decide +kernel⟩, by decide +kernel, by decide⟩, T1_in3 (i := 27) rfl rfl, T1_in3 (i := 28) rfl rfl⟩
def pm_Camp_sleepingOnes : List PE := [(0, 1, .iconst (0), 0, 0, 0, 0),
  (1, 1, .istore_n (2), 0, 0, 0, 0),
  (2, 1, .iconst (0), 0, 0, 0, 0),
  (3, 1, .istore_n (3), 0, 0, 0, 0),
  (4, 1, .iload_n (3), 0, 0, 0, 0),
  (5, 1, .aload_n (0), 0, 0, 0, 0),
  (6, 3, .getfield (42), 0, 10, 0, 0),
  (9, 3, .if_icmp .ge (28), 37, 0, 0, 0),
  (12, 1, .iload_n (2), 0, 0, 0, 0),
  (13, 1, .aload_n (0), 0, 0, 0, 0),
  (14, 1, .iload_n (3), 0, 0, 0, 0),
  (15, 1, .iload_n (1), 0, 0, 0, 0),
  (16, 3, .invokevirtual (130), 0, 0, 0, 0),
  (19, 3, .ifCond .ne (9), 28, 0, 0, 0),
  (22, 1, .iconst (1), 0, 0, 1, 0),
  (23, 1, .iload_n (3), 0, 0, 0, 0),
  (24, 1, .ishl, 0, 0, 0, 0),
  (25, 3, .goto (4), 29, 0, 0, 0),
  (28, 1, .iconst (0), 0, 0, 0, 0),
  (29, 1, .ior, 0, 0, 0, 0),
  (30, 1, .istore_n (2), 0, 0, 0, 0),
  (31, 3, .iinc (3) (1), 0, 0, 1, 0),
  (34, 3, .goto (-30), 4, 0, 0, 0),
  (37, 1, .iload_n (2), 0, 0, 0, 0),
  (38, 1, .ireturn, 0, 0, 0, 0)]
def md_Camp_sleepingOnes : Md := (y_Camp_sleepingOnes, prog_2_method_31_code, 4, (some .int), pm_Camp_sleepingOnes)
theorem tk_Camp_sleepingOnes : Tm md_Camp_sleepingOnes := tab_of (o := 0) (by decide +kernel)
set_option maxRecDepth 100000 in
theorem ok_Camp_sleepingOnes : MdOk md_Camp_sleepingOnes 1 ∧ Cond.instanceMethod md_Camp_sleepingOnes.1 ∈ T1 ∧ Cond.selects md_Camp_sleepingOnes.1.cls md_Camp_sleepingOnes.1 md_Camp_sleepingOnes.1 ∈ T1 := ⟨⟨T1_in3 (i := 33) rfl rfl, T1_in1 (i := 4) rfl rfl, by decide +kernel, ⟨by decide +kernel, by decide +kernel⟩, by decide +kernel, by decide⟩, T1_in3 (i := 31) rfl rfl, T1_in3 (i := 32) rfl rfl⟩
def pm_Camp_reasons : List PE := [(0, 1, .aload_n (0), 0, 0, 0, 0),
  (1, 1, .iload_n (1), 0, 0, 0, 0),
  (2, 1, .iload_n (2), 0, 0, 0, 0),
  (3, 3, .invokevirtual (117), 0, 0, 0, 0),
  (6, 3, .ifCond .ge (7), 13, 0, 0, 0),
  (9, 1, .iconst (1), 0, 0, 1, 0),
  (10, 3, .goto (4), 14, 0, 0, 0),
  (13, 1, .iconst (0), 0, 0, 0, 0),
  (14, 1, .aload_n (0), 0, 0, 0, 0),
  (15, 1, .iload_n (1), 0, 0, 0, 0),
  (16, 3, .invokevirtual (120), 0, 0, 0, 0),
  (19, 3, .ifCond .eq (7), 26, 0, 0, 0),
  (22, 1, .iconst (2), 0, 0, 2, 0),
  (23, 3, .goto (4), 27, 0, 0, 0),
  (26, 1, .iconst (0), 0, 0, 0, 0),
  (27, 1, .iadd, 0, 0, 0, 0),
  (28, 1, .aload_n (0), 0, 0, 0, 0),
  (29, 3, .invokevirtual (123), 0, 0, 0, 0),
  (32, 1, .iload_n (2), 0, 0, 0, 0),
  (33, 1, .ishr, 0, 0, 0, 0),
  (34, 1, .iconst (1), 0, 0, 1, 0),
  (35, 1, .iand, 0, 0, 0, 0),
  (36, 1, .iconst (1), 0, 0, 1, 0),
  (37, 3, .if_icmp .ne (7), 44, 0, 0, 0),
  (40, 1, .iconst (4), 0, 0, 4, 0),
  (41, 3, .goto (4), 45, 0, 0, 0),
  (44, 1, .iconst (0), 0, 0, 0, 0),
  (45, 1, .iadd, 0, 0, 0, 0),
  (46, 1, .aload_n (0), 0, 0, 0, 0),
  (47, 1, .iload_n (1), 0, 0, 0, 0),
  (48, 3, .invokevirtual (127), 0, 0, 0, 0),
  (51, 1, .iload_n (2), 0, 0, 0, 0),
  (52, 1, .ishr, 0, 0, 0, 0),
  (53, 1, .iconst (1), 0, 0, 1, 0),
  (54, 1, .iand, 0, 0, 0, 0),
  (55, 1, .iconst (1), 0, 0, 1, 0),
  (56, 3, .if_icmp .ne (8), 64, 0, 0, 0),
  (59, 2, .bipush (8), 0, 0, 8, 0),
  (61, 3, .goto (4), 65, 0, 0, 0),
  (64, 1, .iconst (0), 0, 0, 0, 0),
  (65, 1, .iadd, 0, 0, 0, 0),
  (66, 1, .ireturn, 0, 0, 0, 0)]
def md_Camp_reasons : Md := (y_Camp_reasons, prog_2_method_30_code, 3, (some .int), pm_Camp_reasons)
theorem tk_Camp_reasons : Tm md_Camp_reasons := tab_of (o := 0) (by decide +kernel)
set_option maxRecDepth 100000 in
theorem ok_Camp_reasons : MdOk md_Camp_reasons 2 ∧ Cond.instanceMethod md_Camp_reasons.1 ∈ T1 ∧ Cond.selects md_Camp_reasons.1.cls md_Camp_reasons.1 md_Camp_reasons.1 ∈ T1 := ⟨⟨T1_in3 (i := 37) rfl rfl, T1_in1 (i := 4) rfl rfl, by decide +kernel, ⟨by decide +kernel, by decide +kernel⟩, by decide +kernel, by decide⟩, T1_in3 (i := 35) rfl rfl, T1_in3 (i := 36) rfl rfl⟩
def pm_Camp_feeling : List PE := [(0, 1, .aload_n (0), 0, 0, 0, 0),
  (1, 1, .iload_n (1), 0, 0, 0, 0),
  (2, 3, .invokevirtual (111), 0, 0, 0, 0),
  (5, 1, .aload_n (0), 0, 0, 0, 0),
  (6, 1, .iload_n (1), 0, 0, 0, 0),
  (7, 1, .iload_n (2), 0, 0, 0, 0),
  (8, 3, .invokevirtual (114), 0, 0, 0, 0),
  (11, 1, .iadd, 0, 0, 0, 0),
  (12, 1, .ireturn, 0, 0, 0, 0)]
def md_Camp_feeling : Md := (y_Camp_feeling, prog_2_method_25_code, 3, (some .int), pm_Camp_feeling)
theorem tk_Camp_feeling : Tm md_Camp_feeling := tab_of (o := 0) (by decide +kernel)
set_option maxRecDepth 100000 in
theorem ok_Camp_feeling : MdOk md_Camp_feeling 2 ∧ Cond.instanceMethod md_Camp_feeling.1 ∈ T1 ∧ Cond.selects md_Camp_feeling.1.cls md_Camp_feeling.1 md_Camp_feeling.1 ∈ T1 := ⟨⟨T1_in3 (i := 41) rfl rfl, T1_in1 (i := 4) rfl rfl, by decide +kernel, ⟨by decide +kernel, by decide +kernel⟩, by decide +kernel, by decide⟩, T1_in3 (i := 39) rfl rfl, T1_in3 (i := 40) rfl rfl⟩
def pm_Camp_steadyFeeling : List PE := [(0, 1, .aload_n (0), 0, 0, 0, 0),
  (1, 3, .getfield (21), 0, 3, 0, 0),
  (4, 1, .iload_n (1), 0, 0, 0, 0),
  (5, 1, .iaload, 0, 0, 0, 0),
  (6, 1, .aload_n (0), 0, 0, 0, 0),
  (7, 1, .aload_n (0), 0, 0, 0, 0),
  (8, 3, .getfield (24), 0, 4, 0, 0),
  (11, 1, .iload_n (1), 0, 0, 0, 0),
  (12, 1, .iaload, 0, 0, 0, 0),
  (13, 1, .iconst (1), 0, 0, 1, 0),
  (14, 1, .isub, 0, 0, 0, 0),
  (15, 3, .invokevirtual (94), 0, 0, 0, 0),
  (18, 1, .iadd, 0, 0, 0, 0),
  (19, 1, .aload_n (0), 0, 0, 0, 0),
  (20, 1, .aload_n (0), 0, 0, 0, 0),
  (21, 3, .getfield (24), 0, 4, 0, 0),
  (24, 1, .iload_n (1), 0, 0, 0, 0),
  (25, 1, .iaload, 0, 0, 0, 0),
  (26, 1, .iconst (1), 0, 0, 1, 0),
  (27, 1, .iadd, 0, 0, 0, 0),
  (28, 3, .invokevirtual (94), 0, 0, 0, 0),
  (31, 1, .iadd, 0, 0, 0, 0),
  (32, 1, .aload_n (0), 0, 0, 0, 0),
  (33, 1, .iload_n (1), 0, 0, 0, 0),
  (34, 3, .invokevirtual (87), 0, 0, 0, 0),
  (37, 3, .ifCond .eq (7), 44, 0, 0, 0),
  (40, 1, .iconst (2), 0, 0, 2, 0),
  (41, 3, .goto (4), 45, 0, 0, 0),
  (44, 1, .iconst (0), 0, 0, 0, 0),
  (45, 1, .isub, 0, 0, 0, 0),
  (46, 1, .aload_n (0), 0, 0, 0, 0),
  (47, 3, .getfield (46), 0, 11, 0, 0),
  (50, 1, .iconst (1), 0, 0, 1, 0),
  (51, 3, .if_icmp .ne (7), 58, 0, 0, 0),
  (54, 1, .iconst (2), 0, 0, 2, 0),
  (55, 3, .goto (4), 59, 0, 0, 0),
  (58, 1, .iconst (0), 0, 0, 0, 0),
  (59, 1, .isub, 0, 0, 0, 0),
  (60, 1, .ireturn, 0, 0, 0, 0)]
def md_Camp_steadyFeeling : Md := (y_Camp_steadyFeeling, prog_2_method_26_code, 2, (some .int), pm_Camp_steadyFeeling)
theorem tk_Camp_steadyFeeling : Tm md_Camp_steadyFeeling := tab_of (o := 0) (by decide +kernel)
set_option maxRecDepth 100000 in
theorem ok_Camp_steadyFeeling : MdOk md_Camp_steadyFeeling 1 ∧ Cond.instanceMethod md_Camp_steadyFeeling.1 ∈ T1 ∧ Cond.selects md_Camp_steadyFeeling.1.cls md_Camp_steadyFeeling.1 md_Camp_steadyFeeling.1 ∈ T1 := ⟨⟨T1_in3 (i := 45) rfl rfl, T1_in1 (i := 4) rfl rfl, by decide +kernel, ⟨by decide +kernel, by decide +kernel⟩, by decide +kernel, by decide⟩, T1_in3 (i := 44) rfl rfl, T1_inP (i := 15) rfl⟩
def pm_Camp_isAtRim : List PE := [(0, 1, .aload_n (0), 0, 0, 0, 0),
  (1, 3, .getfield (24), 0, 4, 0, 0),
  (4, 1, .iload_n (1), 0, 0, 0, 0),
  (5, 1, .iaload, 0, 0, 0, 0),
  (6, 3, .ifCond .eq (18), 24, 0, 0, 0),
  (9, 1, .aload_n (0), 0, 0, 0, 0),
  (10, 3, .getfield (24), 0, 4, 0, 0),
  (13, 1, .iload_n (1), 0, 0, 0, 0),
  (14, 1, .iaload, 0, 0, 0, 0),
  (15, 1, .aload_n (0), 0, 0, 0, 0),
  (16, 3, .getfield (42), 0, 10, 0, 0),
  (19, 1, .iconst (1), 0, 0, 1, 0),
  (20, 1, .isub, 0, 0, 0, 0),
  (21, 3, .if_icmp .ne (7), 28, 0, 0, 0),
  (24, 1, .iconst (1), 0, 0, 1, 0),
  (25, 3, .goto (4), 29, 0, 0, 0),
  (28, 1, .iconst (0), 0, 0, 0, 0),
  (29, 1, .ireturn, 0, 0, 0, 0)]
def md_Camp_isAtRim : Md := (y_Camp_isAtRim, prog_2_method_18_code, 2, (some .boolean), pm_Camp_isAtRim)
theorem tk_Camp_isAtRim : Tm md_Camp_isAtRim := tab_of (o := 0) (by decide +kernel)
set_option maxRecDepth 100000 in
theorem ok_Camp_isAtRim : MdOk md_Camp_isAtRim 1 ∧ Cond.instanceMethod md_Camp_isAtRim.1 ∈ T1 ∧ Cond.selects md_Camp_isAtRim.1.cls md_Camp_isAtRim.1 md_Camp_isAtRim.1 ∈ T1 := ⟨⟨T1_in3 (i := 49) rfl rfl, T1_in1 (i := 4) rfl rfl, by decide +kernel, ⟨by decide +kernel, by decide +kernel⟩, by decide +kernel, by decide⟩, T1_in3 (i := 47) rfl rfl, T1_in3 (i := 48) rfl rfl⟩
def pm_Camp_hourlyFeeling : List PE := [(0, 1, .aload_n (0), 0, 0, 0, 0),
  (1, 3, .getfield (42), 0, 10, 0, 0),
  (4, 3, .ifCond .le (17), 21, 0, 0, 0),
  (7, 1, .aload_n (0), 0, 0, 0, 0),
  (8, 3, .getfield (49), 0, 12, 0, 0),
  (11, 1, .iload_n (2), 0, 0, 0, 0),
  (12, 1, .iadd, 0, 0, 0, 0),
  (13, 1, .aload_n (0), 0, 0, 0, 0),
  (14, 3, .getfield (42), 0, 10, 0, 0),
  (17, 1, .irem, 0, 0, 0, 0),
  (18, 3, .goto (5), 23, 0, 0, 0),
  (21, 2, .bipush (-9), 0, 0, (-9), 0),
  (23, 1, .istore_n (3), 0, 0, 0, 0),
  (24, 1, .aload_n (0), 0, 0, 0, 0),
  (25, 3, .getfield (24), 0, 4, 0, 0),
  (28, 1, .iload_n (1), 0, 0, 0, 0),
  (29, 1, .iaload, 0, 0, 0, 0),
  (30, 1, .iload_n (3), 0, 0, 0, 0),
  (31, 3, .if_icmp .ne (7), 38, 0, 0, 0),
  (34, 1, .iconst (3), 0, 0, 3, 0),
  (35, 3, .goto (4), 39, 0, 0, 0),
  (38, 1, .iconst (0), 0, 0, 0, 0),
  (39, 1, .aload_n (0), 0, 0, 0, 0),
  (40, 3, .getfield (11), 0, 0, 0, 0),
  (43, 1, .iload_n (2), 0, 0, 0, 0),
  (44, 1, .iaload, 0, 0, 0, 0),
  (45, 1, .isub, 0, 0, 0, 0),
  (46, 1, .aload_n (0), 0, 0, 0, 0),
  (47, 3, .getfield (46), 0, 11, 0, 0),
  (50, 3, .ifCond .ne (17), 67, 0, 0, 0),
  (53, 1, .aload_n (0), 0, 0, 0, 0),
  (54, 1, .iload_n (1), 0, 0, 0, 0),
  (55, 3, .invokevirtual (87), 0, 0, 0, 0),
  (58, 3, .ifCond .eq (9), 67, 0, 0, 0),
  (61, 1, .iload_n (2), 0, 0, 0, 0),
  (62, 1, .iconst (2), 0, 0, 2, 0),
  (63, 1, .idiv, 0, 0, 0, 0),
  (64, 3, .goto (4), 68, 0, 0, 0),
  (67, 1, .iconst (0), 0, 0, 0, 0),
  (68, 1, .isub, 0, 0, 0, 0),
  (69, 1, .ireturn, 0, 0, 0, 0)]
def md_Camp_hourlyFeeling : Md := (y_Camp_hourlyFeeling, prog_2_method_27_code, 4, (some .int), pm_Camp_hourlyFeeling)
theorem tk_Camp_hourlyFeeling : Tm md_Camp_hourlyFeeling := tab_of (o := 0) (by decide +kernel)
set_option maxRecDepth 100000 in
theorem ok_Camp_hourlyFeeling : MdOk md_Camp_hourlyFeeling 2 ∧ Cond.instanceMethod md_Camp_hourlyFeeling.1 ∈ T1 ∧ Cond.selects md_Camp_hourlyFeeling.1.cls md_Camp_hourlyFeeling.1 md_Camp_hourlyFeeling.1 ∈ T1 := ⟨⟨T1_in3 (i := 53) rfl rfl, T1_in1 (i := 4) rfl rfl, by decide +kernel, ⟨by decide +kernel, by decide +kernel⟩, by decide +kernel, by decide⟩, T1_in3 (i := 52) rfl rfl, T1_inP (i := 16) rfl⟩
def pm_Camp_hearsAny : List PE := [(0, 1, .iconst (0), 0, 0, 0, 0),
  (1, 1, .istore_n (2), 0, 0, 0, 0),
  (2, 1, .iconst (0), 0, 0, 0, 0),
  (3, 1, .istore_n (3), 0, 0, 0, 0),
  (4, 1, .iload_n (3), 0, 0, 0, 0),
  (5, 1, .aload_n (0), 0, 0, 0, 0),
  (6, 3, .getfield (42), 0, 10, 0, 0),
  (9, 3, .if_icmp .ge (29), 38, 0, 0, 0),
  (12, 1, .iload_n (2), 0, 0, 0, 0),
  (13, 3, .ifCond .ne (25), 38, 0, 0, 0),
  (16, 1, .aload_n (0), 0, 0, 0, 0),
  (17, 1, .iload_n (1), 0, 0, 0, 0),
  (18, 1, .iload_n (3), 0, 0, 0, 0),
  (19, 1, .aload_n (0), 0, 0, 0, 0),
  (20, 3, .getfield (15), 0, 1, 0, 0),
  (23, 1, .iload_n (3), 0, 0, 0, 0),
  (24, 1, .iaload, 0, 0, 0, 0),
  (25, 3, .invokestatic (105), 0, 0, 0, 0),
  (28, 3, .invokevirtual (101), 0, 0, 0, 0),
  (31, 1, .istore_n (2), 0, 0, 0, 0),
  (32, 3, .iinc (3) (1), 0, 0, 1, 0),
  (35, 3, .goto (-31), 4, 0, 0, 0),
  (38, 1, .iload_n (2), 0, 0, 0, 0),
  (39, 3, .ifCond .eq (20), 59, 0, 0, 0),
  (42, 1, .aload_n (0), 0, 0, 0, 0),
  (43, 3, .getfield (15), 0, 1, 0, 0),
  (46, 1, .iload_n (1), 0, 0, 0, 0),
  (47, 1, .iaload, 0, 0, 0, 0),
  (48, 1, .iconst (2), 0, 0, 2, 0),
  (49, 3, .invokestatic (97), 0, 0, 0, 0),
  (52, 3, .ifCond .ne (7), 59, 0, 0, 0),
  (55, 1, .iconst (1), 0, 0, 1, 0),
  (56, 3, .goto (4), 60, 0, 0, 0),
  (59, 1, .iconst (0), 0, 0, 0, 0),
  (60, 1, .ireturn, 0, 0, 0, 0)]
def md_Camp_hearsAny : Md := (y_Camp_hearsAny, prog_2_method_24_code, 4, (some .boolean), pm_Camp_hearsAny)
theorem tk_Camp_hearsAny : Tm md_Camp_hearsAny := tab_of (o := 0) (by decide +kernel)
set_option maxRecDepth 100000 in
theorem ok_Camp_hearsAny : MdOk md_Camp_hearsAny 1 ∧ Cond.instanceMethod md_Camp_hearsAny.1 ∈ T1 ∧ Cond.selects md_Camp_hearsAny.1.cls md_Camp_hearsAny.1 md_Camp_hearsAny.1 ∈ T1 := ⟨⟨T1_in3 (i := 57) rfl rfl, T1_in1 (i := 4) rfl rfl, by decide +kernel, ⟨by decide +kernel, by decide +kernel⟩, by decide +kernel, by decide⟩, T1_in3 (i := 56) rfl rfl, T1_inP (i := 17) rfl⟩
def pm_Camp_soreHours : List PE := [(0, 1, .iconst (0), 0, 0, 0, 0),
  (1, 1, .istore_n (1), 0, 0, 0, 0),
  (2, 1, .iconst (0), 0, 0, 0, 0),
  (3, 1, .istore_n (2), 0, 0, 0, 0),
  (4, 1, .iconst (0), 0, 0, 0, 0),
  (5, 1, .istore_n (3), 0, 0, 0, 0),
  (6, 1, .iload_n (3), 0, 0, 0, 0),
  (7, 2, .bipush (8), 0, 0, 8, 0),
  (9, 3, .if_icmp .ge (36), 45, 0, 0, 0),
  (12, 1, .aload_n (0), 0, 0, 0, 0),
  (13, 3, .getfield (52), 0, 13, 0, 0),
  (16, 1, .iload_n (3), 0, 0, 0, 0),
  (17, 1, .ishr, 0, 0, 0, 0),
  (18, 1, .iconst (1), 0, 0, 1, 0),
  (19, 1, .iand, 0, 0, 0, 0),
  (20, 1, .iconst (1), 0, 0, 1, 0),
  (21, 3, .if_icmp .ne (5), 26, 0, 0, 0),
  (24, 1, .iload_n (3), 0, 0, 0, 0),
  (25, 1, .istore_n (2), 0, 0, 0, 0),
  (26, 1, .iload_n (3), 0, 0, 0, 0),
  (27, 1, .iload_n (2), 0, 0, 0, 0),
  (28, 1, .isub, 0, 0, 0, 0),
  (29, 1, .iconst (3), 0, 0, 3, 0),
  (30, 3, .if_icmp .lt (9), 39, 0, 0, 0),
  (33, 1, .iload_n (1), 0, 0, 0, 0),
  (34, 1, .iconst (1), 0, 0, 1, 0),
  (35, 1, .iload_n (3), 0, 0, 0, 0),
  (36, 1, .ishl, 0, 0, 0, 0),
  (37, 1, .ior, 0, 0, 0, 0),
  (38, 1, .istore_n (1), 0, 0, 0, 0),
  (39, 3, .iinc (3) (1), 0, 0, 1, 0),
  (42, 3, .goto (-36), 6, 0, 0, 0),
  (45, 1, .iload_n (1), 0, 0, 0, 0),
  (46, 1, .ireturn, 0, 0, 0, 0)]
def md_Camp_soreHours : Md := (y_Camp_soreHours, prog_2_method_28_code, 4, (some .int), pm_Camp_soreHours)
theorem tk_Camp_soreHours : Tm md_Camp_soreHours := tab_of (o := 0) (by decide +kernel)
set_option maxRecDepth 100000 in
theorem ok_Camp_soreHours : MdOk md_Camp_soreHours 0 ∧ Cond.instanceMethod md_Camp_soreHours.1 ∈ T1 ∧ Cond.selects md_Camp_soreHours.1.cls md_Camp_soreHours.1 md_Camp_soreHours.1 ∈ T1 := ⟨⟨T1_in3 (i := 61) rfl rfl, T1_in1 (i := 4) rfl rfl, by decide +kernel, ⟨by decide +kernel, by decide +kernel⟩, by decide +kernel, by decide⟩, T1_in3 (i := 60) rfl rfl, T1_inP (i := 18) rfl⟩
def pm_Camp_wokenHours : List PE := [(0, 1, .aload_n (0), 0, 0, 0, 0),
  (1, 3, .getfield (15), 0, 1, 0, 0),
  (4, 1, .iload_n (1), 0, 0, 0, 0),
  (5, 1, .iaload, 0, 0, 0, 0),
  (6, 1, .iconst (5), 0, 0, 5, 0),
  (7, 3, .if_icmp .ne (7), 14, 0, 0, 0),
  (10, 1, .iconst (0), 0, 0, 0, 0),
  (11, 3, .goto (7), 18, 0, 0, 0),
  (14, 1, .aload_n (0), 0, 0, 0, 0),
  (15, 3, .getfield (52), 0, 13, 0, 0),
  (18, 1, .ireturn, 0, 0, 0, 0)]
def md_Camp_wokenHours : Md := (y_Camp_wokenHours, prog_2_method_29_code, 2, (some .int), pm_Camp_wokenHours)
theorem tk_Camp_wokenHours : Tm md_Camp_wokenHours := tab_of (o := 0) (by decide +kernel)
set_option maxRecDepth 100000 in
theorem ok_Camp_wokenHours : MdOk md_Camp_wokenHours 1 ∧ Cond.instanceMethod md_Camp_wokenHours.1 ∈ T1 ∧ Cond.selects md_Camp_wokenHours.1.cls md_Camp_wokenHours.1 md_Camp_wokenHours.1 ∈ T1 := ⟨⟨T1_in3 (i := 65) rfl rfl, T1_in1 (i := 4) rfl rfl, by decide +kernel, ⟨by decide +kernel, by decide +kernel⟩, by decide +kernel, by decide⟩, T1_in3 (i := 64) rfl rfl, T1_inP (i := 19) rfl⟩
def pm_Camp_remember : List PE := [(0, 1, .aload_n (0), 0, 0, 0, 0),
  (1, 3, .getfield (61), 0, 16, 0, 0),
  (4, 2, .bipush (25), 0, 0, 25, 0),
  (6, 1, .imul, 0, 0, 0, 0),
  (7, 1, .istore_n (1), 0, 0, 0, 0),
  (8, 1, .iload_n (1), 0, 0, 0, 0),
  (9, 3, .ifCond .lt (15), 24, 0, 0, 0),
  (12, 1, .iload_n (1), 0, 0, 0, 0),
  (13, 2, .bipush (25), 0, 0, 25, 0),
  (15, 1, .iadd, 0, 0, 0, 0),
  (16, 1, .aload_n (0), 0, 0, 0, 0),
  (17, 3, .getfield (39), 0, 9, 0, 0),
  (20, 1, .arraylength, 0, 0, 0, 0),
  (21, 3, .if_icmp .le (4), 25, 0, 0, 0),
  (24, 1, .return_, 0, 0, 0, 0),
  (25, 1, .aload_n (0), 0, 0, 0, 0),
  (26, 3, .getfield (39), 0, 9, 0, 0),
  (29, 1, .iload_n (1), 0, 0, 0, 0),
  (30, 1, .aload_n (0), 0, 0, 0, 0),
  (31, 3, .getfield (55), 0, 14, 0, 0),
  (34, 1, .iastore, 0, 0, 0, 0),
  (35, 1, .aload_n (0), 0, 0, 0, 0),
  (36, 3, .getfield (39), 0, 9, 0, 0),
  (39, 1, .iload_n (1), 0, 0, 0, 0),
  (40, 1, .iconst (1), 0, 0, 1, 0),
  (41, 1, .iadd, 0, 0, 0, 0),
  (42, 1, .aload_n (0), 0, 0, 0, 0),
  (43, 3, .getfield (58), 0, 15, 0, 0),
  (46, 1, .iastore, 0, 0, 0, 0),
  (47, 1, .aload_n (0), 0, 0, 0, 0),
  (48, 3, .getfield (39), 0, 9, 0, 0),
  (51, 1, .iload_n (1), 0, 0, 0, 0),
  (52, 1, .iconst (2), 0, 0, 2, 0),
  (53, 1, .iadd, 0, 0, 0, 0),
  (54, 1, .aload_n (0), 0, 0, 0, 0),
  (55, 3, .getfield (46), 0, 11, 0, 0),
  (58, 1, .iastore, 0, 0, 0, 0),
  (59, 1, .aload_n (0), 0, 0, 0, 0),
  (60, 3, .getfield (39), 0, 9, 0, 0),
  (63, 1, .iload_n (1), 0, 0, 0, 0),
  (64, 1, .iconst (3), 0, 0, 3, 0),
  (65, 1, .iadd, 0, 0, 0, 0),
  (66, 1, .aload_n (0), 0, 0, 0, 0),
  (67, 3, .getfield (49), 0, 12, 0, 0),
  (70, 1, .iastore, 0, 0, 0, 0),
  (71, 1, .aload_n (0), 0, 0, 0, 0),
  (72, 3, .getfield (39), 0, 9, 0, 0),
  (75, 1, .iload_n (1), 0, 0, 0, 0),
  (76, 1, .iconst (4), 0, 0, 4, 0),
  (77, 1, .iadd, 0, 0, 0, 0),
  (78, 1, .aload_n (0), 0, 0, 0, 0),
  (79, 3, .getfield (52), 0, 13, 0, 0),
  (82, 1, .iastore, 0, 0, 0, 0),
  (83, 1, .iload_n (1), 0, 0, 0, 0),
  (84, 1, .iconst (5), 0, 0, 5, 0),
  (85, 1, .iadd, 0, 0, 0, 0),
  (86, 1, .istore_n (2), 0, 0, 0, 0),
  (87, 1, .aload_n (0), 0, 0, 0, 0),
  (88, 3, .getfield (24), 0, 4, 0, 0),
  (91, 1, .iconst (0), 0, 0, 0, 0),
  (92, 1, .aload_n (0), 0, 0, 0, 0),
  (93, 3, .getfield (39), 0, 9, 0, 0),
  (96, 1, .iload_n (2), 0, 0, 0, 0),
  (97, 1, .iconst (5), 0, 0, 5, 0),
  (98, 3, .invokestatic (64), 0, 0, 0, 0),
  (101, 1, .aload_n (0), 0, 0, 0, 0),
  (102, 3, .getfield (21), 0, 3, 0, 0),
  (105, 1, .iconst (0), 0, 0, 0, 0),
  (106, 1, .aload_n (0), 0, 0, 0, 0),
  (107, 3, .getfield (39), 0, 9, 0, 0),
  (110, 1, .iload_n (2), 0, 0, 0, 0),
  (111, 1, .iconst (5), 0, 0, 5, 0),
  (112, 1, .iadd, 0, 0, 0, 0),
  (113, 1, .iconst (5), 0, 0, 5, 0),
  (114, 3, .invokestatic (64), 0, 0, 0, 0),
  (117, 1, .aload_n (0), 0, 0, 0, 0),
  (118, 3, .getfield (30), 0, 6, 0, 0),
  (121, 1, .iconst (0), 0, 0, 0, 0),
  (122, 1, .aload_n (0), 0, 0, 0, 0),
  (123, 3, .getfield (39), 0, 9, 0, 0),
  (126, 1, .iload_n (2), 0, 0, 0, 0),
  (127, 2, .bipush (10), 0, 0, 10, 0),
  (129, 1, .iadd, 0, 0, 0, 0),
  (130, 1, .iconst (5), 0, 0, 5, 0),
  (131, 3, .invokestatic (64), 0, 0, 0, 0),
  (134, 1, .aload_n (0), 0, 0, 0, 0),
  (135, 3, .getfield (33), 0, 7, 0, 0),
  (138, 1, .iconst (0), 0, 0, 0, 0),
  (139, 1, .aload_n (0), 0, 0, 0, 0),
  (140, 3, .getfield (39), 0, 9, 0, 0),
  (143, 1, .iload_n (2), 0, 0, 0, 0),
  (144, 2, .bipush (15), 0, 0, 15, 0),
  (146, 1, .iadd, 0, 0, 0, 0),
  (147, 1, .iconst (5), 0, 0, 5, 0),
  (148, 3, .invokestatic (64), 0, 0, 0, 0),
  (151, 1, .return_, 0, 0, 0, 0)]
def md_Camp_remember : Md := (y_Camp_remember, prog_2_method_10_code, 3, none, pm_Camp_remember)
theorem tk_Camp_remember : Tm md_Camp_remember := tab_of (o := 0) (by decide +kernel)
set_option maxRecDepth 100000 in
theorem ok_Camp_remember : MdOk md_Camp_remember 0 ∧ Cond.instanceMethod md_Camp_remember.1 ∈ T1 ∧ Cond.selects md_Camp_remember.1.cls md_Camp_remember.1 md_Camp_remember.1 ∈ T1 := ⟨⟨T1_in3 (i := 69) rfl rfl, T1_in1 (i := 4) rfl rfl, by decide +kernel, ⟨by decide +kernel, by decide +kernel⟩, by decide +kernel, by decide⟩, T1_in3 (i := 68) rfl rfl, T1_inP (i := 20) rfl⟩
def pm_Tent_night : List PE := [(0, 1, .aload_n (0), 0, 0, 0, 0),
  (1, 3, .getfield (26), 5, 2, 0, 0),
  (4, 3, .getfield (130), 0, 10, 0, 0),
  (7, 3, .ifCond .ne (6), 13, 0, 0, 0),
  (10, 2, .bipush (-4), 0, 0, (-4), 0),
  (12, 1, .ireturn, 0, 0, 0, 0),
  (13, 1, .aload_n (0), 0, 0, 0, 0),
  (14, 3, .getfield (26), 5, 2, 0, 0),
  (17, 3, .getfield (212), 0, 15, 0, 0),
  (20, 2, .bipush (9), 0, 0, 9, 0),
  (22, 3, .if_icmp .lt (6), 28, 0, 0, 0),
  (25, 2, .bipush (-2), 0, 0, (-2), 0),
  (27, 1, .ireturn, 0, 0, 0, 0),
  (28, 1, .aload_n (0), 0, 0, 0, 0),
  (29, 3, .getfield (26), 5, 2, 0, 0),
  (32, 1, .dup, 0, 0, 0, 0),
  (33, 3, .getfield (212), 0, 15, 0, 0),
  (36, 1, .iconst (1), 0, 0, 1, 0),
  (37, 1, .iadd, 0, 0, 0, 0),
  (38, 3, .putfield (212), 0, 15, 0, 0),
  (41, 1, .aload_n (0), 0, 0, 0, 0),
  (42, 3, .getfield (26), 5, 2, 0, 0),
  (45, 1, .iconst (0), 0, 0, 0, 0),
  (46, 3, .putfield (203), 0, 14, 0, 0),
  (49, 1, .aload_n (0), 0, 0, 0, 0),
  (50, 3, .getfield (26), 5, 2, 0, 0),
  (53, 3, .getfield (212), 0, 15, 0, 0),
  (56, 1, .ireturn, 0, 0, 0, 0)]
def md_Tent_night : Md := (y_Tent_night, prog_1_method_21_code, 1, (some .int), pm_Tent_night)
theorem tk_Tent_night : Tm md_Tent_night := tab_of (o := 5) (by decide +kernel)
set_option maxRecDepth 100000 in
theorem ok_Tent_night : MdOk md_Tent_night 0 ∧ Cond.instanceMethod md_Tent_night.1 ∈ T1 ∧ Cond.selects md_Tent_night.1.cls md_Tent_night.1 md_Tent_night.1 ∈ T1 := ⟨⟨T1_in3 (i := 73) rfl rfl, T1_in1 (i := 1) rfl rfl, by decide +kernel, ⟨by decide +kernel, by decide +kernel⟩, by decide +kernel, by decide⟩, T1_in3 (i := 71) rfl rfl, T1_in3 (i := 72) rfl rfl⟩
def pm_Tent_undo : List PE := [(0, 1, .iload_n (1), 0, 0, 0, 0),
  (1, 3, .ifCond .lt (14), 15, 0, 0, 0),
  (4, 1, .iload_n (1), 0, 0, 0, 0),
  (5, 1, .aload_n (0), 0, 0, 0, 0),
  (6, 3, .getfield (26), 5, 2, 0, 0),
  (9, 3, .getfield (206), 0, 16, 0, 0),
  (12, 3, .if_icmp .le (5), 17, 0, 0, 0),
  (15, 1, .iconst (-1), 0, 0, (-1), 0),
  (16, 1, .ireturn, 0, 0, 0, 0),
  (17, 1, .aload_n (0), 0, 0, 0, 0),
  (18, 3, .getfield (26), 5, 2, 0, 0),
  (21, 3, .getfield (206), 0, 16, 0, 0),
  (24, 1, .iload_n (1), 0, 0, 0, 0),
  (25, 1, .isub, 0, 0, 0, 0),
  (26, 1, .istore_n (2), 0, 0, 0, 0),
  (27, 1, .iload_n (2), 0, 0, 0, 0),
  (28, 3, .ifCond .le (11), 39, 0, 0, 0),
  (31, 1, .aload_n (0), 0, 0, 0, 0),
  (32, 3, .getfield (26), 5, 2, 0, 0),
  (35, 1, .iload_n (1), 0, 0, 0, 0),
  (36, 3, .invokevirtual (215), 0, 0, 0, 0),
  (39, 1, .iload_n (2), 0, 0, 0, 0),
  (40, 1, .ireturn, 0, 0, 0, 0)]
def md_Tent_undo : Md := (y_Tent_undo, prog_1_method_22_code, 3, (some .int), pm_Tent_undo)
theorem tk_Tent_undo : Tm md_Tent_undo := tab_of (o := 5) (by decide +kernel)
set_option maxRecDepth 100000 in
theorem ok_Tent_undo : MdOk md_Tent_undo 1 ∧ Cond.instanceMethod md_Tent_undo.1 ∈ T1 ∧ Cond.selects md_Tent_undo.1.cls md_Tent_undo.1 md_Tent_undo.1 ∈ T1 := ⟨⟨T1_in3 (i := 77) rfl rfl, T1_in1 (i := 1) rfl rfl, by decide +kernel, ⟨by decide +kernel, by decide +kernel⟩, by decide +kernel, by decide⟩, T1_in3 (i := 75) rfl rfl, T1_in3 (i := 76) rfl rfl⟩
def pm_Camp_recall : List PE := [(0, 1, .iload_n (1), 0, 0, 0, 0),
  (1, 2, .bipush (25), 0, 0, 25, 0),
  (3, 1, .imul, 0, 0, 0, 0),
  (4, 1, .istore_n (2), 0, 0, 0, 0),
  (5, 1, .iload_n (1), 0, 0, 0, 0),
  (6, 3, .ifCond .lt (23), 29, 0, 0, 0),
  (9, 1, .iload_n (1), 0, 0, 0, 0),
  (10, 1, .aload_n (0), 0, 0, 0, 0),
  (11, 3, .getfield (61), 0, 16, 0, 0),
  (14, 3, .if_icmp .ge (15), 29, 0, 0, 0),
  (17, 1, .iload_n (2), 0, 0, 0, 0),
  (18, 2, .bipush (25), 0, 0, 25, 0),
  (20, 1, .iadd, 0, 0, 0, 0),
  (21, 1, .aload_n (0), 0, 0, 0, 0),
  (22, 3, .getfield (39), 0, 9, 0, 0),
  (25, 1, .arraylength, 0, 0, 0, 0),
  (26, 3, .if_icmp .le (4), 30, 0, 0, 0),
  (29, 1, .return_, 0, 0, 0, 0),
  (30, 1, .aload_n (0), 0, 0, 0, 0),
  (31, 1, .iload_n (1), 0, 0, 0, 0),
  (32, 3, .putfield (61), 0, 16, 0, 0),
  (35, 1, .aload_n (0), 0, 0, 0, 0),
  (36, 1, .aload_n (0), 0, 0, 0, 0),
  (37, 3, .getfield (39), 0, 9, 0, 0),
  (40, 1, .iload_n (2), 0, 0, 0, 0),
  (41, 1, .iaload, 0, 0, 0, 0),
  (42, 3, .putfield (55), 0, 14, 0, 0),
  (45, 1, .aload_n (0), 0, 0, 0, 0),
  (46, 1, .aload_n (0), 0, 0, 0, 0),
  (47, 3, .getfield (39), 0, 9, 0, 0),
  (50, 1, .iload_n (2), 0, 0, 0, 0),
  (51, 1, .iconst (1), 0, 0, 1, 0),
  (52, 1, .iadd, 0, 0, 0, 0),
  (53, 1, .iaload, 0, 0, 0, 0),
  (54, 3, .putfield (58), 0, 15, 0, 0),
  (57, 1, .aload_n (0), 0, 0, 0, 0),
  (58, 1, .aload_n (0), 0, 0, 0, 0),
  (59, 3, .getfield (39), 0, 9, 0, 0),
  (62, 1, .iload_n (2), 0, 0, 0, 0),
  (63, 1, .iconst (2), 0, 0, 2, 0),
  (64, 1, .iadd, 0, 0, 0, 0),
  (65, 1, .iaload, 0, 0, 0, 0),
  (66, 3, .putfield (46), 0, 11, 0, 0),
  (69, 1, .aload_n (0), 0, 0, 0, 0),
  (70, 1, .aload_n (0), 0, 0, 0, 0),
  (71, 3, .getfield (39), 0, 9, 0, 0),
  (74, 1, .iload_n (2), 0, 0, 0, 0),
  (75, 1, .iconst (3), 0, 0, 3, 0),
  (76, 1, .iadd, 0, 0, 0, 0),
  (77, 1, .iaload, 0, 0, 0, 0),
  (78, 3, .putfield (49), 0, 12, 0, 0),
  (81, 1, .aload_n (0), 0, 0, 0, 0),
  (82, 1, .aload_n (0), 0, 0, 0, 0),
  (83, 3, .getfield (39), 0, 9, 0, 0),
  (86, 1, .iload_n (2), 0, 0, 0, 0),
  (87, 1, .iconst (4), 0, 0, 4, 0),
  (88, 1, .iadd, 0, 0, 0, 0),
  (89, 1, .iaload, 0, 0, 0, 0),
  (90, 3, .putfield (52), 0, 13, 0, 0),
  (93, 1, .iload_n (2), 0, 0, 0, 0),
  (94, 1, .iconst (5), 0, 0, 5, 0),
  (95, 1, .iadd, 0, 0, 0, 0),
  (96, 1, .istore_n (3), 0, 0, 0, 0),
  (97, 1, .aload_n (0), 0, 0, 0, 0),
  (98, 3, .getfield (39), 0, 9, 0, 0),
  (101, 1, .iload_n (3), 0, 0, 0, 0),
  (102, 1, .aload_n (0), 0, 0, 0, 0),
  (103, 3, .getfield (24), 0, 4, 0, 0),
  (106, 1, .iconst (0), 0, 0, 0, 0),
  (107, 1, .iconst (5), 0, 0, 5, 0),
  (108, 3, .invokestatic (64), 0, 0, 0, 0),
  (111, 1, .aload_n (0), 0, 0, 0, 0),
  (112, 3, .getfield (39), 0, 9, 0, 0),
  (115, 1, .iload_n (3), 0, 0, 0, 0),
  (116, 1, .iconst (5), 0, 0, 5, 0),
  (117, 1, .iadd, 0, 0, 0, 0),
  (118, 1, .aload_n (0), 0, 0, 0, 0),
  (119, 3, .getfield (21), 0, 3, 0, 0),
  (122, 1, .iconst (0), 0, 0, 0, 0),
  (123, 1, .iconst (5), 0, 0, 5, 0),
  (124, 3, .invokestatic (64), 0, 0, 0, 0),
  (127, 1, .aload_n (0), 0, 0, 0, 0),
  (128, 3, .getfield (39), 0, 9, 0, 0),
  (131, 1, .iload_n (3), 0, 0, 0, 0),
  (132, 2, .bipush (10), 0, 0, 10, 0),
  (134, 1, .iadd, 0, 0, 0, 0),
  (135, 1, .aload_n (0), 0, 0, 0, 0),
  (136, 3, .getfield (30), 0, 6, 0, 0),
  (139, 1, .iconst (0), 0, 0, 0, 0),
  (140, 1, .iconst (5), 0, 0, 5, 0),
  (141, 3, .invokestatic (64), 0, 0, 0, 0),
  (144, 1, .aload_n (0), 0, 0, 0, 0),
  (145, 3, .getfield (39), 0, 9, 0, 0),
  (148, 1, .iload_n (3), 0, 0, 0, 0),
  (149, 2, .bipush (15), 0, 0, 15, 0),
  (151, 1, .iadd, 0, 0, 0, 0),
  (152, 1, .aload_n (0), 0, 0, 0, 0),
  (153, 3, .getfield (33), 0, 7, 0, 0),
  (156, 1, .iconst (0), 0, 0, 0, 0),
  (157, 1, .iconst (5), 0, 0, 5, 0),
  (158, 3, .invokestatic (64), 0, 0, 0, 0),
  (161, 1, .aload_n (0), 0, 0, 0, 0),
  (162, 3, .invokevirtual (91), 0, 0, 0, 0),
  (165, 1, .return_, 0, 0, 0, 0)]
def md_Camp_recall : Md := (y_Camp_recall, prog_2_method_11_code, 4, none, pm_Camp_recall)
theorem tk_Camp_recall : Tm md_Camp_recall := tab_of (o := 0) (by decide +kernel)
set_option maxRecDepth 100000 in
theorem ok_Camp_recall : MdOk md_Camp_recall 1 ∧ Cond.instanceMethod md_Camp_recall.1 ∈ T1 ∧ Cond.selects md_Camp_recall.1.cls md_Camp_recall.1 md_Camp_recall.1 ∈ T1 := ⟨⟨T1_in3 (i := 81) rfl rfl, T1_in1 (i := 4) rfl rfl, by decide +kernel, ⟨by decide +kernel, by decide +kernel⟩, by decide +kernel, by decide⟩, T1_in3 (i := 79) rfl rfl, T1_in3 (i := 80) rfl rfl⟩
def pm_Tent_now : List PE := [(0, 1, .aload_n (0), 0, 0, 0, 0),
  (1, 3, .getfield (26), 5, 2, 0, 0),
  (4, 3, .getfield (130), 0, 10, 0, 0),
  (7, 3, .ifCond .ne (6), 13, 0, 0, 0),
  (10, 2, .bipush (-4), 0, 0, (-4), 0),
  (12, 1, .ireturn, 0, 0, 0, 0),
  (13, 1, .aload_n (0), 0, 0, 0, 0),
  (14, 1, .aload_n (0), 0, 0, 0, 0),
  (15, 3, .getfield (26), 5, 2, 0, 0),
  (18, 3, .getfield (212), 0, 15, 0, 0),
  (21, 3, .putfield (78), 5, 10, 0, 0),
  (24, 1, .aload_n (0), 0, 0, 0, 0),
  (25, 3, .getfield (26), 5, 2, 0, 0),
  (28, 3, .getfield (203), 0, 14, 0, 0),
  (31, 1, .ireturn, 0, 0, 0, 0)]
def md_Tent_now : Md := (y_Tent_now, prog_1_method_23_code, 1, (some .int), pm_Tent_now)
theorem tk_Tent_now : Tm md_Tent_now := tab_of (o := 5) (by decide +kernel)
set_option maxRecDepth 100000 in
theorem ok_Tent_now : MdOk md_Tent_now 0 ∧ Cond.instanceMethod md_Tent_now.1 ∈ T1 ∧ Cond.selects md_Tent_now.1.cls md_Tent_now.1 md_Tent_now.1 ∈ T1 := ⟨⟨T1_in3 (i := 86) rfl rfl, T1_in1 (i := 1) rfl rfl, by decide +kernel, ⟨by decide +kernel, by decide +kernel⟩, by decide +kernel, by decide⟩, T1_in3 (i := 84) rfl rfl, T1_in3 (i := 85) rfl rfl⟩
def pm_Tent_keep : List PE := [(0, 1, .iload_n (1), 0, 0, 0, 0),
  (1, 3, .ifCond .lt (8), 9, 0, 0, 0),
  (4, 1, .iload_n (1), 0, 0, 0, 0),
  (5, 1, .iconst (3), 0, 0, 3, 0),
  (6, 3, .if_icmp .lt (5), 11, 0, 0, 0),
  (9, 1, .iconst (-1), 0, 0, (-1), 0),
  (10, 1, .ireturn, 0, 0, 0, 0),
  (11, 1, .aload_n (0), 0, 0, 0, 0),
  (12, 3, .getfield (26), 5, 2, 0, 0),
  (15, 3, .getfield (130), 0, 10, 0, 0),
  (18, 3, .ifCond .ne (6), 24, 0, 0, 0),
  (21, 2, .bipush (-4), 0, 0, (-4), 0),
  (23, 1, .ireturn, 0, 0, 0, 0),
  (24, 1, .aload_n (0), 0, 0, 0, 0),
  (25, 3, .getfield (30), 5, 3, 0, 0),
  (28, 1, .iload_n (1), 0, 0, 0, 0),
  (29, 1, .aaload, 0, 0, 0, 0),
  (30, 1, .aload_n (0), 0, 0, 0, 0),
  (31, 3, .getfield (26), 5, 2, 0, 0),
  (34, 3, .invokevirtual (123), 0, 0, 0, 0),
  (37, 1, .aload_n (0), 0, 0, 0, 0),
  (38, 3, .getfield (26), 5, 2, 0, 0),
  (41, 3, .getfield (206), 0, 16, 0, 0),
  (44, 1, .ireturn, 0, 0, 0, 0)]
def md_Tent_keep : Md := (y_Tent_keep, prog_1_method_24_code, 2, (some .int), pm_Tent_keep)
theorem tk_Tent_keep : Tm md_Tent_keep := tab_of (o := 5) (by decide +kernel)
set_option maxRecDepth 100000 in
theorem ok_Tent_keep : MdOk md_Tent_keep 1 ∧ Cond.instanceMethod md_Tent_keep.1 ∈ T1 ∧ Cond.selects md_Tent_keep.1.cls md_Tent_keep.1 md_Tent_keep.1 ∈ T1 := ⟨⟨T1_in3 (i := 90) rfl rfl, T1_in1 (i := 1) rfl rfl, by decide +kernel, ⟨by decide +kernel, by decide +kernel⟩, by decide +kernel, by decide⟩, T1_in3 (i := 88) rfl rfl, T1_in3 (i := 89) rfl rfl⟩
def pm_Tent_on : List PE := [(0, 1, .iload_n (1), 0, 0, 0, 0),
  (1, 3, .ifCond .lt (8), 9, 0, 0, 0),
  (4, 1, .iload_n (1), 0, 0, 0, 0),
  (5, 1, .iconst (3), 0, 0, 3, 0),
  (6, 3, .if_icmp .lt (5), 11, 0, 0, 0),
  (9, 1, .iconst (-1), 0, 0, (-1), 0),
  (10, 1, .ireturn, 0, 0, 0, 0),
  (11, 1, .aload_n (0), 0, 0, 0, 0),
  (12, 1, .iload_n (1), 0, 0, 0, 0),
  (13, 3, .invokevirtual (218), 0, 0, 0, 0),
  (16, 3, .ifCond .ne (9), 25, 0, 0, 0),
  (19, 1, .aload_n (0), 0, 0, 0, 0),
  (20, 1, .iconst (1), 0, 0, 1, 0),
  (21, 3, .invokevirtual (97), 0, 0, 0, 0),
  (24, 1, .ireturn, 0, 0, 0, 0),
  (25, 1, .aload_n (0), 0, 0, 0, 0),
  (26, 3, .getfield (26), 5, 2, 0, 0),
  (29, 1, .aload_n (0), 0, 0, 0, 0),
  (30, 3, .getfield (30), 5, 3, 0, 0),
  (33, 1, .iload_n (1), 0, 0, 0, 0),
  (34, 1, .aaload, 0, 0, 0, 0),
  (35, 3, .invokevirtual (123), 0, 0, 0, 0),
  (38, 1, .aload_n (0), 0, 0, 0, 0),
  (39, 3, .getfield (26), 5, 2, 0, 0),
  (42, 3, .getfield (206), 0, 16, 0, 0),
  (45, 1, .ireturn, 0, 0, 0, 0)]
def md_Tent_on : Md := (y_Tent_on, prog_1_method_25_code, 2, (some .int), pm_Tent_on)
theorem tk_Tent_on : Tm md_Tent_on := tab_of (o := 5) (by decide +kernel)
set_option maxRecDepth 100000 in
theorem ok_Tent_on : MdOk md_Tent_on 1 ∧ Cond.instanceMethod md_Tent_on.1 ∈ T1 ∧ Cond.selects md_Tent_on.1.cls md_Tent_on.1 md_Tent_on.1 ∈ T1 := ⟨⟨T1_in3 (i := 94) rfl rfl, T1_in1 (i := 1) rfl rfl, by decide +kernel, ⟨by decide +kernel, by decide +kernel⟩, by decide +kernel, by decide⟩, T1_in3 (i := 92) rfl rfl, T1_in3 (i := 93) rfl rfl⟩
def pm_Tent_isKept : List PE := [(0, 1, .aload_n (0), 0, 0, 0, 0),
  (1, 3, .getfield (30), 5, 3, 0, 0),
  (4, 1, .iload_n (1), 0, 0, 0, 0),
  (5, 1, .aaload, 0, 0, 0, 0),
  (6, 3, .getfield (130), 0, 10, 0, 0),
  (9, 3, .ifCond .le (7), 16, 0, 0, 0),
  (12, 1, .iconst (1), 0, 0, 1, 0),
  (13, 3, .goto (4), 17, 0, 0, 0),
  (16, 1, .iconst (0), 0, 0, 0, 0),
  (17, 1, .ireturn, 0, 0, 0, 0)]
def md_Tent_isKept : Md := (y_Tent_isKept, prog_1_method_60_code, 2, (some .boolean), pm_Tent_isKept)
theorem tk_Tent_isKept : Tm md_Tent_isKept := tab_of (o := 5) (by decide +kernel)
set_option maxRecDepth 100000 in
theorem ok_Tent_isKept : MdOk md_Tent_isKept 1 ∧ Cond.instanceMethod md_Tent_isKept.1 ∈ T1 ∧ Cond.selects md_Tent_isKept.1.cls md_Tent_isKept.1 md_Tent_isKept.1 ∈ T1 := ⟨⟨T1_in3 (i := 98) rfl rfl, T1_in1 (i := 1) rfl rfl, by decide +kernel, ⟨by decide +kernel, by decide +kernel⟩, by decide +kernel, by decide⟩, T1_in3 (i := 97) rfl rfl, T1_inP (i := 21) rfl⟩
def pm_Tent_feels : List PE := [(0, 1, .aload_n (0), 0, 0, 0, 0),
  (1, 3, .getfield (26), 5, 2, 0, 0),
  (4, 1, .iload_n (1), 0, 0, 0, 0),
  (5, 3, .invokevirtual (133), 0, 0, 0, 0),
  (8, 3, .ifCond .eq (10), 18, 0, 0, 0),
  (11, 1, .iload_n (2), 0, 0, 0, 0),
  (12, 3, .invokestatic (221), 0, 0, 0, 0),
  (15, 3, .ifCond .ne (5), 20, 0, 0, 0),
  (18, 1, .iconst (-1), 0, 0, (-1), 0),
  (19, 1, .ireturn, 0, 0, 0, 0),
  (20, 1, .aload_n (0), 0, 0, 0, 0),
  (21, 1, .aload_n (0), 0, 0, 0, 0),
  (22, 3, .getfield (26), 5, 2, 0, 0),
  (25, 1, .iload_n (1), 0, 0, 0, 0),
  (26, 1, .iload_n (2), 0, 0, 0, 0),
  (27, 3, .invokevirtual (224), 0, 0, 0, 0),
  (30, 3, .putfield (78), 5, 10, 0, 0),
  (33, 1, .iconst (1), 0, 0, 1, 0),
  (34, 1, .ireturn, 0, 0, 0, 0)]
def md_Tent_feels : Md := (y_Tent_feels, prog_1_method_26_code, 3, (some .int), pm_Tent_feels)
theorem tk_Tent_feels : Tm md_Tent_feels := tab_of (o := 5) (by decide +kernel)
set_option maxRecDepth 100000 in
theorem ok_Tent_feels : MdOk md_Tent_feels 2 ∧ Cond.instanceMethod md_Tent_feels.1 ∈ T1 ∧ Cond.selects md_Tent_feels.1.cls md_Tent_feels.1 md_Tent_feels.1 ∈ T1 := ⟨⟨T1_in3 (i := 102) rfl rfl, T1_in1 (i := 1) rfl rfl, by decide +kernel, ⟨by decide +kernel, by decide +kernel⟩, by decide +kernel, by decide⟩, T1_in3 (i := 100) rfl rfl, T1_in3 (i := 101) rfl rfl⟩
def pm_Tent_isHour : List PE := [(0, 1, .iload_n (0), 0, 0, 0, 0),
  (1, 3, .ifCond .lt (13), 14, 0, 0, 0),
  (4, 1, .iload_n (0), 0, 0, 0, 0),
  (5, 2, .bipush (8), 0, 0, 8, 0),
  (7, 3, .if_icmp .ge (7), 14, 0, 0, 0),
  (10, 1, .iconst (1), 0, 0, 1, 0),
  (11, 3, .goto (4), 15, 0, 0, 0),
  (14, 1, .iconst (0), 0, 0, 0, 0),
  (15, 1, .ireturn, 0, 0, 0, 0)]
def md_Tent_isHour : Md := (y_Tent_isHour, prog_1_method_59_code, 1, (some .boolean), pm_Tent_isHour)
theorem tk_Tent_isHour : Tm md_Tent_isHour := tab_of (o := 5) (by decide +kernel)
set_option maxRecDepth 100000 in
theorem ok_Tent_isHour : MdOk md_Tent_isHour 1 ∧ Cond.static md_Tent_isHour.1 ∈ T1 := ⟨⟨T1_in3 (i := 105) rfl rfl, T1_in1 (i := 1) rfl rfl, by decide +kernel, ⟨by decide +kernel, by decide +kernel⟩, by decide +kernel, by decide⟩, T1_in3 (i := 104) rfl rfl⟩
def pm_Tent_why : List PE := [(0, 1, .aload_n (0), 0, 0, 0, 0),
  (1, 3, .getfield (26), 5, 2, 0, 0),
  (4, 1, .iload_n (1), 0, 0, 0, 0),
  (5, 3, .invokevirtual (133), 0, 0, 0, 0),
  (8, 3, .ifCond .eq (22), 30, 0, 0, 0),
  (11, 1, .iload_n (2), 0, 0, 0, 0),
  (12, 3, .invokestatic (221), 0, 0, 0, 0),
  (15, 3, .ifCond .eq (15), 30, 0, 0, 0),
  (18, 1, .aload_n (0), 0, 0, 0, 0),
  (19, 3, .getfield (26), 5, 2, 0, 0),
  (22, 1, .iload_n (1), 0, 0, 0, 0),
  (23, 1, .iload_n (2), 0, 0, 0, 0),
  (24, 3, .invokevirtual (227), 0, 0, 0, 0),
  (27, 3, .goto (4), 31, 0, 0, 0),
  (30, 1, .iconst (-1), 0, 0, (-1), 0),
  (31, 1, .ireturn, 0, 0, 0, 0)]
def md_Tent_why : Md := (y_Tent_why, prog_1_method_27_code, 3, (some .int), pm_Tent_why)
theorem tk_Tent_why : Tm md_Tent_why := tab_of (o := 5) (by decide +kernel)
set_option maxRecDepth 100000 in
theorem ok_Tent_why : MdOk md_Tent_why 2 ∧ Cond.instanceMethod md_Tent_why.1 ∈ T1 ∧ Cond.selects md_Tent_why.1.cls md_Tent_why.1 md_Tent_why.1 ∈ T1 := ⟨⟨T1_in3 (i := 110) rfl rfl, T1_in1 (i := 1) rfl rfl, by decide +kernel, ⟨by decide +kernel, by decide +kernel⟩, by decide +kernel, by decide⟩, T1_in3 (i := 108) rfl rfl, T1_in3 (i := 109) rfl rfl⟩
def pm_Tent_sleeps : List PE := [(0, 1, .iload_n (1), 0, 0, 0, 0),
  (1, 3, .invokestatic (221), 0, 0, 0, 0),
  (4, 3, .ifCond .ne (5), 9, 0, 0, 0),
  (7, 1, .iconst (-1), 0, 0, (-1), 0),
  (8, 1, .ireturn, 0, 0, 0, 0),
  (9, 1, .aload_n (0), 0, 0, 0, 0),
  (10, 1, .aload_n (0), 0, 0, 0, 0),
  (11, 3, .getfield (26), 5, 2, 0, 0),
  (14, 1, .iload_n (1), 0, 0, 0, 0),
  (15, 3, .invokevirtual (230), 0, 0, 0, 0),
  (18, 3, .putfield (78), 5, 10, 0, 0),
  (21, 1, .aload_n (0), 0, 0, 0, 0),
  (22, 3, .getfield (26), 5, 2, 0, 0),
  (25, 1, .iload_n (1), 0, 0, 0, 0),
  (26, 3, .invokevirtual (233), 0, 0, 0, 0),
  (29, 1, .ireturn, 0, 0, 0, 0)]
def md_Tent_sleeps : Md := (y_Tent_sleeps, prog_1_method_28_code, 2, (some .int), pm_Tent_sleeps)
theorem tk_Tent_sleeps : Tm md_Tent_sleeps := tab_of (o := 5) (by decide +kernel)
set_option maxRecDepth 100000 in
theorem ok_Tent_sleeps : MdOk md_Tent_sleeps 1 ∧ Cond.instanceMethod md_Tent_sleeps.1 ∈ T1 ∧ Cond.selects md_Tent_sleeps.1.cls md_Tent_sleeps.1 md_Tent_sleeps.1 ∈ T1 := ⟨⟨T1_in3 (i := 115) rfl rfl, T1_in1 (i := 1) rfl rfl, by decide +kernel, ⟨by decide +kernel, by decide +kernel⟩, by decide +kernel, by decide⟩, T1_in3 (i := 113) rfl rfl, T1_in3 (i := 114) rfl rfl⟩
def pm_Camp_coldOnes : List PE := [(0, 1, .iconst (0), 0, 0, 0, 0),
  (1, 1, .istore_n (2), 0, 0, 0, 0),
  (2, 1, .iconst (0), 0, 0, 0, 0),
  (3, 1, .istore_n (3), 0, 0, 0, 0),
  (4, 1, .iload_n (3), 0, 0, 0, 0),
  (5, 1, .aload_n (0), 0, 0, 0, 0),
  (6, 3, .getfield (42), 0, 10, 0, 0),
  (9, 3, .if_icmp .ge (28), 37, 0, 0, 0),
  (12, 1, .iload_n (2), 0, 0, 0, 0),
  (13, 1, .aload_n (0), 0, 0, 0, 0),
  (14, 1, .iload_n (3), 0, 0, 0, 0),
  (15, 1, .iload_n (1), 0, 0, 0, 0),
  (16, 3, .invokevirtual (117), 0, 0, 0, 0),
  (19, 3, .ifCond .ge (9), 28, 0, 0, 0),
  (22, 1, .iconst (1), 0, 0, 1, 0),
  (23, 1, .iload_n (3), 0, 0, 0, 0),
  (24, 1, .ishl, 0, 0, 0, 0),
  (25, 3, .goto (4), 29, 0, 0, 0),
  (28, 1, .iconst (0), 0, 0, 0, 0),
  (29, 1, .ior, 0, 0, 0, 0),
  (30, 1, .istore_n (2), 0, 0, 0, 0),
  (31, 3, .iinc (3) (1), 0, 0, 1, 0),
  (34, 3, .goto (-30), 4, 0, 0, 0),
  (37, 1, .iload_n (2), 0, 0, 0, 0),
  (38, 1, .ireturn, 0, 0, 0, 0)]
def md_Camp_coldOnes : Md := (y_Camp_coldOnes, prog_2_method_32_code, 4, (some .int), pm_Camp_coldOnes)
theorem tk_Camp_coldOnes : Tm md_Camp_coldOnes := tab_of (o := 0) (by decide +kernel)
set_option maxRecDepth 100000 in
theorem ok_Camp_coldOnes : MdOk md_Camp_coldOnes 1 ∧ Cond.instanceMethod md_Camp_coldOnes.1 ∈ T1 ∧ Cond.selects md_Camp_coldOnes.1.cls md_Camp_coldOnes.1 md_Camp_coldOnes.1 ∈ T1 := ⟨⟨T1_in3 (i := 119) rfl rfl, T1_in1 (i := 4) rfl rfl, by decide +kernel, ⟨by decide +kernel, by decide +kernel⟩, by decide +kernel, by decide⟩, T1_in3 (i := 117) rfl rfl, T1_in3 (i := 118) rfl rfl⟩
def pm_Tent_slept : List PE := [(0, 1, .aload_n (0), 0, 0, 0, 0),
  (1, 3, .getfield (26), 5, 2, 0, 0),
  (4, 1, .iload_n (1), 0, 0, 0, 0),
  (5, 3, .invokevirtual (133), 0, 0, 0, 0),
  (8, 3, .ifCond .eq (14), 22, 0, 0, 0),
  (11, 1, .aload_n (0), 0, 0, 0, 0),
  (12, 3, .getfield (26), 5, 2, 0, 0),
  (15, 1, .iload_n (1), 0, 0, 0, 0),
  (16, 3, .invokevirtual (236), 0, 0, 0, 0),
  (19, 3, .goto (4), 23, 0, 0, 0),
  (22, 1, .iconst (-1), 0, 0, (-1), 0),
  (23, 1, .ireturn, 0, 0, 0, 0)]
def md_Tent_slept : Md := (y_Tent_slept, prog_1_method_29_code, 2, (some .int), pm_Tent_slept)
theorem tk_Tent_slept : Tm md_Tent_slept := tab_of (o := 5) (by decide +kernel)
set_option maxRecDepth 100000 in
theorem ok_Tent_slept : MdOk md_Tent_slept 1 ∧ Cond.instanceMethod md_Tent_slept.1 ∈ T1 ∧ Cond.selects md_Tent_slept.1.cls md_Tent_slept.1 md_Tent_slept.1 ∈ T1 := ⟨⟨T1_in3 (i := 124) rfl rfl, T1_in1 (i := 1) rfl rfl, by decide +kernel, ⟨by decide +kernel, by decide +kernel⟩, by decide +kernel, by decide⟩, T1_in3 (i := 122) rfl rfl, T1_in3 (i := 123) rfl rfl⟩
def pm_Camp_hoursSlept : List PE := [(0, 1, .aload_n (0), 0, 0, 0, 0),
  (1, 1, .iload_n (1), 0, 0, 0, 0),
  (2, 3, .invokevirtual (133), 0, 0, 0, 0),
  (5, 1, .aload_n (0), 0, 0, 0, 0),
  (6, 3, .invokevirtual (123), 0, 0, 0, 0),
  (9, 1, .aload_n (0), 0, 0, 0, 0),
  (10, 1, .iload_n (1), 0, 0, 0, 0),
  (11, 3, .invokevirtual (127), 0, 0, 0, 0),
  (14, 1, .ior, 0, 0, 0, 0),
  (15, 1, .iconst (-1), 0, 0, (-1), 0),
  (16, 1, .ixor, 0, 0, 0, 0),
  (17, 1, .iand, 0, 0, 0, 0),
  (18, 3, .invokestatic (136), 0, 0, 0, 0),
  (21, 1, .ireturn, 0, 0, 0, 0)]
def md_Camp_hoursSlept : Md := (y_Camp_hoursSlept, prog_2_method_33_code, 2, (some .int), pm_Camp_hoursSlept)
theorem tk_Camp_hoursSlept : Tm md_Camp_hoursSlept := tab_of (o := 0) (by decide +kernel)
set_option maxRecDepth 100000 in
theorem ok_Camp_hoursSlept : MdOk md_Camp_hoursSlept 1 ∧ Cond.instanceMethod md_Camp_hoursSlept.1 ∈ T1 ∧ Cond.selects md_Camp_hoursSlept.1.cls md_Camp_hoursSlept.1 md_Camp_hoursSlept.1 ∈ T1 := ⟨⟨T1_in3 (i := 128) rfl rfl, T1_in1 (i := 4) rfl rfl, by decide +kernel, ⟨by decide +kernel, by decide +kernel⟩, by decide +kernel, by decide⟩, T1_in3 (i := 126) rfl rfl, T1_in3 (i := 127) rfl rfl⟩
def pm_Camp_calmHours : List PE := [(0, 1, .aload_n (0), 0, 0, 0, 0),
  (1, 1, .iload_n (1), 0, 0, 0, 0),
  (2, 3, .invokevirtual (120), 0, 0, 0, 0),
  (5, 3, .ifCond .eq (5), 10, 0, 0, 0),
  (8, 1, .iconst (0), 0, 0, 0, 0),
  (9, 1, .ireturn, 0, 0, 0, 0),
  (10, 1, .aload_n (0), 0, 0, 0, 0),
  (11, 1, .iload_n (1), 0, 0, 0, 0),
  (12, 3, .invokevirtual (111), 0, 0, 0, 0),
  (15, 1, .istore_n (2), 0, 0, 0, 0),
  (16, 1, .iconst (0), 0, 0, 0, 0),
  (17, 1, .istore_n (3), 0, 0, 0, 0),
  (18, 1, .iconst (0), 0, 0, 0, 0),
  (19, 2, .istore (4), 0, 0, 0, 0),
  (21, 2, .iload (4), 0, 0, 0, 0),
  (23, 2, .bipush (8), 0, 0, 8, 0),
  (25, 3, .if_icmp .ge (32), 57, 0, 0, 0),
  (28, 1, .iload_n (3), 0, 0, 0, 0),
  (29, 1, .iload_n (2), 0, 0, 0, 0),
  (30, 1, .aload_n (0), 0, 0, 0, 0),
  (31, 1, .iload_n (1), 0, 0, 0, 0),
  (32, 2, .iload (4), 0, 0, 0, 0),
  (34, 3, .invokevirtual (114), 0, 0, 0, 0),
  (37, 1, .iadd, 0, 0, 0, 0),
  (38, 3, .ifCond .lt (10), 48, 0, 0, 0),
  (41, 1, .iconst (1), 0, 0, 1, 0),
  (42, 2, .iload (4), 0, 0, 0, 0),
  (44, 1, .ishl, 0, 0, 0, 0),
  (45, 3, .goto (4), 49, 0, 0, 0),
  (48, 1, .iconst (0), 0, 0, 0, 0),
  (49, 1, .ior, 0, 0, 0, 0),
  (50, 1, .istore_n (3), 0, 0, 0, 0),
  (51, 3, .iinc (4) (1), 0, 0, 1, 0),
  (54, 3, .goto (-33), 21, 0, 0, 0),
  (57, 1, .iload_n (3), 0, 0, 0, 0),
  (58, 1, .ireturn, 0, 0, 0, 0)]
def md_Camp_calmHours : Md := (y_Camp_calmHours, prog_2_method_34_code, 5, (some .int), pm_Camp_calmHours)
theorem tk_Camp_calmHours : Tm md_Camp_calmHours := tab_of (o := 0) (by decide +kernel)
set_option maxRecDepth 100000 in
theorem ok_Camp_calmHours : MdOk md_Camp_calmHours 1 ∧ Cond.instanceMethod md_Camp_calmHours.1 ∈ T1 ∧ Cond.selects md_Camp_calmHours.1.cls md_Camp_calmHours.1 md_Camp_calmHours.1 ∈ T1 := ⟨⟨T1_in3 (i := 132) rfl rfl, T1_in1 (i := 4) rfl rfl, by decide +kernel, ⟨by decide +kernel, by decide +kernel⟩, by decide +kernel, by decide⟩, T1_in3 (i := 131) rfl rfl, T1_inP (i := 22) rfl⟩
def pm_Tent_coldest : List PE := [(0, 1, .aload_n (0), 0, 0, 0, 0),
  (1, 3, .getfield (26), 5, 2, 0, 0),
  (4, 3, .getfield (130), 0, 10, 0, 0),
  (7, 3, .ifCond .ne (6), 13, 0, 0, 0),
  (10, 2, .bipush (-4), 0, 0, (-4), 0),
  (12, 1, .ireturn, 0, 0, 0, 0),
  (13, 1, .iconst (0), 0, 0, 0, 0),
  (14, 1, .istore_n (1), 0, 0, 0, 0),
  (15, 1, .iconst (0), 0, 0, 0, 0),
  (16, 1, .istore_n (2), 0, 0, 0, 0),
  (17, 1, .iconst (0), 0, 0, 0, 0),
  (18, 1, .istore_n (3), 0, 0, 0, 0),
  (19, 1, .iload_n (3), 0, 0, 0, 0),
  (20, 1, .aload_n (0), 0, 0, 0, 0),
  (21, 3, .getfield (26), 5, 2, 0, 0),
  (24, 3, .getfield (130), 0, 10, 0, 0),
  (27, 3, .if_icmp .ge (52), 79, 0, 0, 0),
  (30, 1, .iconst (0), 0, 0, 0, 0),
  (31, 2, .istore (4), 0, 0, 0, 0),
  (33, 2, .iload (4), 0, 0, 0, 0),
  (35, 2, .bipush (8), 0, 0, 8, 0),
  (37, 3, .if_icmp .ge (36), 73, 0, 0, 0),
  (40, 1, .aload_n (0), 0, 0, 0, 0),
  (41, 3, .getfield (26), 5, 2, 0, 0),
  (44, 1, .iload_n (3), 0, 0, 0, 0),
  (45, 2, .iload (4), 0, 0, 0, 0),
  (47, 3, .invokevirtual (224), 0, 0, 0, 0),
  (50, 1, .aload_n (0), 0, 0, 0, 0),
  (51, 3, .getfield (26), 5, 2, 0, 0),
  (54, 1, .iload_n (1), 0, 0, 0, 0),
  (55, 1, .iload_n (2), 0, 0, 0, 0),
  (56, 3, .invokevirtual (224), 0, 0, 0, 0),
  (59, 3, .if_icmp .ge (8), 67, 0, 0, 0),
  (62, 1, .iload_n (3), 0, 0, 0, 0),
  (63, 1, .istore_n (1), 0, 0, 0, 0),
  (64, 2, .iload (4), 0, 0, 0, 0),
  (66, 1, .istore_n (2), 0, 0, 0, 0),
  (67, 3, .iinc (4) (1), 0, 0, 1, 0),
  (70, 3, .goto (-37), 33, 0, 0, 0),
  (73, 3, .iinc (3) (1), 0, 0, 1, 0),
  (76, 3, .goto (-57), 19, 0, 0, 0),
  (79, 1, .aload_n (0), 0, 0, 0, 0),
  (80, 1, .iload_n (2), 0, 0, 0, 0),
  (81, 3, .putfield (78), 5, 10, 0, 0),
  (84, 1, .iload_n (1), 0, 0, 0, 0),
  (85, 1, .ireturn, 0, 0, 0, 0)]
def md_Tent_coldest : Md := (y_Tent_coldest, prog_1_method_30_code, 5, (some .int), pm_Tent_coldest)
theorem tk_Tent_coldest : Tm md_Tent_coldest := tab_of (o := 5) (by decide +kernel)
set_option maxRecDepth 100000 in
theorem ok_Tent_coldest : MdOk md_Tent_coldest 0 ∧ Cond.instanceMethod md_Tent_coldest.1 ∈ T1 ∧ Cond.selects md_Tent_coldest.1.cls md_Tent_coldest.1 md_Tent_coldest.1 ∈ T1 := ⟨⟨T1_in3 (i := 137) rfl rfl, T1_in1 (i := 1) rfl rfl, by decide +kernel, ⟨by decide +kernel, by decide +kernel⟩, by decide +kernel, by decide⟩, T1_in3 (i := 135) rfl rfl, T1_in3 (i := 136) rfl rfl⟩
def pm_Tent_good : List PE := [(0, 1, .aload_n (0), 0, 0, 0, 0),
  (1, 3, .getfield (26), 5, 2, 0, 0),
  (4, 1, .iload_n (1), 0, 0, 0, 0),
  (5, 3, .invokevirtual (133), 0, 0, 0, 0),
  (8, 3, .ifCond .ne (5), 13, 0, 0, 0),
  (11, 1, .iconst (-1), 0, 0, (-1), 0),
  (12, 1, .ireturn, 0, 0, 0, 0),
  (13, 1, .aload_n (0), 0, 0, 0, 0),
  (14, 3, .getfield (34), 5, 4, 0, 0),
  (17, 1, .aload_n (0), 0, 0, 0, 0),
  (18, 3, .getfield (26), 5, 2, 0, 0),
  (21, 3, .invokevirtual (239), 0, 0, 0, 0),
  (24, 1, .aload_n (0), 0, 0, 0, 0),
  (25, 3, .getfield (34), 5, 4, 0, 0),
  (28, 3, .getfield (139), 0, 1, 0, 0),
  (31, 1, .iload_n (1), 0, 0, 0, 0),
  (32, 1, .iconst (0), 0, 0, 0, 0),
  (33, 1, .iastore, 0, 0, 0, 0),
  (34, 1, .aload_n (0), 0, 0, 0, 0),
  (35, 3, .getfield (34), 5, 4, 0, 0),
  (38, 3, .getfield (242), 0, 2, 0, 0),
  (41, 1, .iload_n (1), 0, 0, 0, 0),
  (42, 1, .iconst (0), 0, 0, 0, 0),
  (43, 1, .iastore, 0, 0, 0, 0),
  (44, 1, .aload_n (0), 0, 0, 0, 0),
  (45, 1, .aload_n (0), 0, 0, 0, 0),
  (46, 3, .getfield (26), 5, 2, 0, 0),
  (49, 1, .iload_n (1), 0, 0, 0, 0),
  (50, 3, .invokevirtual (245), 0, 0, 0, 0),
  (53, 1, .aload_n (0), 0, 0, 0, 0),
  (54, 3, .getfield (34), 5, 4, 0, 0),
  (57, 1, .iload_n (1), 0, 0, 0, 0),
  (58, 3, .invokevirtual (245), 0, 0, 0, 0),
  (61, 1, .isub, 0, 0, 0, 0),
  (62, 3, .putfield (78), 5, 10, 0, 0),
  (65, 1, .iconst (1), 0, 0, 1, 0),
  (66, 1, .ireturn, 0, 0, 0, 0)]
def md_Tent_good : Md := (y_Tent_good, prog_1_method_31_code, 2, (some .int), pm_Tent_good)
theorem tk_Tent_good : Tm md_Tent_good := tab_of (o := 5) (by decide +kernel)
set_option maxRecDepth 100000 in
theorem ok_Tent_good : MdOk md_Tent_good 1 ∧ Cond.instanceMethod md_Tent_good.1 ∈ T1 ∧ Cond.selects md_Tent_good.1.cls md_Tent_good.1 md_Tent_good.1 ∈ T1 := ⟨⟨T1_in3 (i := 141) rfl rfl, T1_in1 (i := 1) rfl rfl, by decide +kernel, ⟨by decide +kernel, by decide +kernel⟩, by decide +kernel, by decide⟩, T1_in3 (i := 139) rfl rfl, T1_in3 (i := 140) rfl rfl⟩
def pm_Camp_sleptByOthers : List PE := [(0, 1, .aload_n (0), 0, 0, 0, 0),
  (1, 3, .invokevirtual (144), 0, 0, 0, 0),
  (4, 1, .aload_n (0), 0, 0, 0, 0),
  (5, 1, .iload_n (1), 0, 0, 0, 0),
  (6, 3, .invokevirtual (141), 0, 0, 0, 0),
  (9, 1, .isub, 0, 0, 0, 0),
  (10, 1, .ireturn, 0, 0, 0, 0)]
def md_Camp_sleptByOthers : Md := (y_Camp_sleptByOthers, prog_2_method_38_code, 2, (some .int), pm_Camp_sleptByOthers)
theorem tk_Camp_sleptByOthers : Tm md_Camp_sleptByOthers := tab_of (o := 0) (by decide +kernel)
set_option maxRecDepth 100000 in
theorem ok_Camp_sleptByOthers : MdOk md_Camp_sleptByOthers 1 ∧ Cond.instanceMethod md_Camp_sleptByOthers.1 ∈ T1 ∧ Cond.selects md_Camp_sleptByOthers.1.cls md_Camp_sleptByOthers.1 md_Camp_sleptByOthers.1 ∈ T1 := ⟨⟨T1_in3 (i := 146) rfl rfl, T1_in1 (i := 4) rfl rfl, by decide +kernel, ⟨by decide +kernel, by decide +kernel⟩, by decide +kernel, by decide⟩, T1_in3 (i := 144) rfl rfl, T1_in3 (i := 145) rfl rfl⟩
def pm_Camp_sleptByAll : List PE := [(0, 1, .iconst (0), 0, 0, 0, 0),
  (1, 1, .istore_n (1), 0, 0, 0, 0),
  (2, 1, .iconst (0), 0, 0, 0, 0),
  (3, 1, .istore_n (2), 0, 0, 0, 0),
  (4, 1, .iload_n (2), 0, 0, 0, 0),
  (5, 1, .aload_n (0), 0, 0, 0, 0),
  (6, 3, .getfield (42), 0, 10, 0, 0),
  (9, 3, .if_icmp .ge (17), 26, 0, 0, 0),
  (12, 1, .iload_n (1), 0, 0, 0, 0),
  (13, 1, .aload_n (0), 0, 0, 0, 0),
  (14, 1, .iload_n (2), 0, 0, 0, 0),
  (15, 3, .invokevirtual (141), 0, 0, 0, 0),
  (18, 1, .iadd, 0, 0, 0, 0),
  (19, 1, .istore_n (1), 0, 0, 0, 0),
  (20, 3, .iinc (2) (1), 0, 0, 1, 0),
  (23, 3, .goto (-19), 4, 0, 0, 0),
  (26, 1, .iload_n (1), 0, 0, 0, 0),
  (27, 1, .ireturn, 0, 0, 0, 0)]
def md_Camp_sleptByAll : Md := (y_Camp_sleptByAll, prog_2_method_37_code, 3, (some .int), pm_Camp_sleptByAll)
theorem tk_Camp_sleptByAll : Tm md_Camp_sleptByAll := tab_of (o := 0) (by decide +kernel)
set_option maxRecDepth 100000 in
theorem ok_Camp_sleptByAll : MdOk md_Camp_sleptByAll 0 ∧ Cond.instanceMethod md_Camp_sleptByAll.1 ∈ T1 ∧ Cond.selects md_Camp_sleptByAll.1.cls md_Camp_sleptByAll.1 md_Camp_sleptByAll.1 ∈ T1 := ⟨⟨T1_in3 (i := 150) rfl rfl, T1_in1 (i := 4) rfl rfl, by decide +kernel, ⟨by decide +kernel, by decide +kernel⟩, by decide +kernel, by decide⟩, T1_in3 (i := 148) rfl rfl, T1_in3 (i := 149) rfl rfl⟩
def pm_Tent_worth : List PE := [(0, 1, .aload_n (0), 0, 0, 0, 0),
  (1, 3, .getfield (26), 5, 2, 0, 0),
  (4, 3, .getfield (130), 0, 10, 0, 0),
  (7, 3, .ifCond .ne (6), 13, 0, 0, 0),
  (10, 2, .bipush (-4), 0, 0, (-4), 0),
  (12, 1, .ireturn, 0, 0, 0, 0),
  (13, 1, .aload_n (0), 0, 0, 0, 0),
  (14, 1, .aload_n (0), 0, 0, 0, 0),
  (15, 3, .getfield (26), 5, 2, 0, 0),
  (18, 3, .invokevirtual (248), 0, 0, 0, 0),
  (21, 3, .putfield (78), 5, 10, 0, 0),
  (24, 1, .aload_n (0), 0, 0, 0, 0),
  (25, 3, .getfield (26), 5, 2, 0, 0),
  (28, 3, .invokevirtual (251), 0, 0, 0, 0),
  (31, 1, .ireturn, 0, 0, 0, 0)]
def md_Tent_worth : Md := (y_Tent_worth, prog_1_method_32_code, 1, (some .int), pm_Tent_worth)
theorem tk_Tent_worth : Tm md_Tent_worth := tab_of (o := 5) (by decide +kernel)
set_option maxRecDepth 100000 in
theorem ok_Tent_worth : MdOk md_Tent_worth 0 ∧ Cond.instanceMethod md_Tent_worth.1 ∈ T1 ∧ Cond.selects md_Tent_worth.1.cls md_Tent_worth.1 md_Tent_worth.1 ∈ T1 := ⟨⟨T1_in3 (i := 155) rfl rfl, T1_in1 (i := 1) rfl rfl, by decide +kernel, ⟨by decide +kernel, by decide +kernel⟩, by decide +kernel, by decide⟩, T1_in3 (i := 153) rfl rfl, T1_in3 (i := 154) rfl rfl⟩
def pm_Camp_leastSlept : List PE := [(0, 2, .bipush (8), 0, 0, 8, 0),
  (2, 1, .istore_n (1), 0, 0, 0, 0),
  (3, 1, .iconst (0), 0, 0, 0, 0),
  (4, 1, .istore_n (2), 0, 0, 0, 0),
  (5, 1, .iload_n (2), 0, 0, 0, 0),
  (6, 1, .aload_n (0), 0, 0, 0, 0),
  (7, 3, .getfield (42), 0, 10, 0, 0),
  (10, 3, .if_icmp .ge (19), 29, 0, 0, 0),
  (13, 1, .iload_n (1), 0, 0, 0, 0),
  (14, 1, .aload_n (0), 0, 0, 0, 0),
  (15, 1, .iload_n (2), 0, 0, 0, 0),
  (16, 3, .invokevirtual (141), 0, 0, 0, 0),
  (19, 3, .invokestatic (74), 0, 0, 0, 0),
  (22, 1, .istore_n (1), 0, 0, 0, 0),
  (23, 3, .iinc (2) (1), 0, 0, 1, 0),
  (26, 3, .goto (-21), 5, 0, 0, 0),
  (29, 1, .iload_n (1), 0, 0, 0, 0),
  (30, 1, .ireturn, 0, 0, 0, 0)]
def md_Camp_leastSlept : Md := (y_Camp_leastSlept, prog_2_method_39_code, 3, (some .int), pm_Camp_leastSlept)
theorem tk_Camp_leastSlept : Tm md_Camp_leastSlept := tab_of (o := 0) (by decide +kernel)
set_option maxRecDepth 100000 in
theorem ok_Camp_leastSlept : MdOk md_Camp_leastSlept 0 ∧ Cond.instanceMethod md_Camp_leastSlept.1 ∈ T1 ∧ Cond.selects md_Camp_leastSlept.1.cls md_Camp_leastSlept.1 md_Camp_leastSlept.1 ∈ T1 := ⟨⟨T1_in3 (i := 159) rfl rfl, T1_in1 (i := 4) rfl rfl, by decide +kernel, ⟨by decide +kernel, by decide +kernel⟩, by decide +kernel, by decide⟩, T1_in3 (i := 157) rfl rfl, T1_in3 (i := 158) rfl rfl⟩
def pm_Tent_best : List PE := [(0, 1, .aload_n (0), 0, 0, 0, 0),
  (1, 1, .iload_n (1), 0, 0, 0, 0),
  (2, 1, .iconst (0), 0, 0, 0, 0),
  (3, 3, .invokevirtual (254), 0, 0, 0, 0),
  (6, 1, .ireturn, 0, 0, 0, 0)]
def md_Tent_best : Md := (y_Tent_best, prog_1_method_33_code, 2, (some .int), pm_Tent_best)
theorem tk_Tent_best : Tm md_Tent_best := tab_of (o := 5) (by decide +kernel)
set_option maxRecDepth 100000 in
theorem ok_Tent_best : MdOk md_Tent_best 1 ∧ Cond.instanceMethod md_Tent_best.1 ∈ T1 ∧ Cond.selects md_Tent_best.1.cls md_Tent_best.1 md_Tent_best.1 ∈ T1 := ⟨⟨T1_in3 (i := 164) rfl rfl, T1_in1 (i := 1) rfl rfl, by decide +kernel, ⟨by decide +kernel, by decide +kernel⟩, by decide +kernel, by decide⟩, T1_in3 (i := 162) rfl rfl, T1_in3 (i := 163) rfl rfl⟩
def pm_Tent_seekOrder : List PE := [(0, 1, .aload_n (0), 0, 0, 0, 0),
  (1, 1, .iload_n (1), 0, 0, 0, 0),
  (2, 3, .invokevirtual (263), 0, 0, 0, 0),
  (5, 1, .istore_n (3), 0, 0, 0, 0),
  (6, 1, .iload_n (3), 0, 0, 0, 0),
  (7, 3, .ifCond .eq (5), 12, 0, 0, 0),
  (10, 1, .iload_n (3), 0, 0, 0, 0),
  (11, 1, .ireturn, 0, 0, 0, 0),
  (12, 1, .aload_n (0), 0, 0, 0, 0),
  (13, 3, .getfield (34), 5, 4, 0, 0),
  (16, 1, .aload_n (0), 0, 0, 0, 0),
  (17, 3, .getfield (26), 5, 2, 0, 0),
  (20, 3, .invokevirtual (239), 0, 0, 0, 0),
  (23, 1, .aload_n (0), 0, 0, 0, 0),
  (24, 3, .getfield (47), 5, 6, 0, 0),
  (27, 1, .aload_n (0), 0, 0, 0, 0),
  (28, 3, .getfield (26), 5, 2, 0, 0),
  (31, 3, .getfield (130), 0, 10, 0, 0),
  (34, 3, .invokevirtual (268), 0, 0, 0, 0),
  (37, 1, .iconst (-1), 0, 0, (-1), 0),
  (38, 2, .istore (4), 0, 0, 0, 0),
  (40, 1, .iconst (0), 0, 0, 0, 0),
  (41, 2, .istore (5), 0, 0, 0, 0),
  (43, 1, .iconst (0), 0, 0, 0, 0),
  (44, 2, .istore (6), 0, 0, 0, 0),
  (46, 2, .iload (6), 0, 0, 0, 0),
  (48, 2, .bipush (120), 0, 0, 120, 0),
  (50, 3, .if_icmp .ge (101), 151, 0, 0, 0),
  (53, 1, .iload_n (2), 0, 0, 0, 0),
  (54, 1, .iconst (2), 0, 0, 2, 0),
  (55, 3, .if_icmp .ne (24), 79, 0, 0, 0),
  (58, 1, .aload_n (0), 0, 0, 0, 0),
  (59, 3, .getfield (34), 5, 4, 0, 0),
  (62, 1, .aload_n (0), 0, 0, 0, 0),
  (63, 3, .getfield (26), 5, 2, 0, 0),
  (66, 1, .aload_n (0), 0, 0, 0, 0),
  (67, 3, .getfield (47), 5, 6, 0, 0),
  (70, 3, .getfield (196), 1, 0, 0, 0),
  (73, 3, .invokevirtual (343), 0, 0, 0, 0),
  (76, 3, .goto (17), 93, 0, 0, 0),
  (79, 1, .aload_n (0), 0, 0, 0, 0),
  (80, 3, .getfield (34), 5, 4, 0, 0),
  (83, 1, .aload_n (0), 0, 0, 0, 0),
  (84, 3, .getfield (47), 5, 6, 0, 0),
  (87, 3, .getfield (196), 1, 0, 0, 0),
  (90, 3, .invokevirtual (199), 0, 0, 0, 0),
  (93, 1, .iload_n (2), 0, 0, 0, 0),
  (94, 1, .iconst (1), 0, 0, 1, 0),
  (95, 3, .if_icmp .ne (13), 108, 0, 0, 0),
  (98, 1, .aload_n (0), 0, 0, 0, 0),
  (99, 3, .getfield (34), 5, 4, 0, 0),
  (102, 3, .invokevirtual (248), 0, 0, 0, 0),
  (105, 3, .goto (10), 115, 0, 0, 0),
  (108, 1, .aload_n (0), 0, 0, 0, 0),
  (109, 3, .getfield (34), 5, 4, 0, 0),
  (112, 3, .invokevirtual (251), 0, 0, 0, 0),
  (115, 2, .istore (7), 0, 0, 0, 0),
  (117, 2, .iload (7), 0, 0, 0, 0),
  (119, 2, .iload (4), 0, 0, 0, 0),
  (121, 3, .if_icmp .le (11), 132, 0, 0, 0),
  (124, 2, .iload (7), 0, 0, 0, 0),
  (126, 2, .istore (4), 0, 0, 0, 0),
  (128, 2, .iload (6), 0, 0, 0, 0),
  (130, 2, .istore (5), 0, 0, 0, 0),
  (132, 1, .aload_n (0), 0, 0, 0, 0),
  (133, 3, .getfield (47), 5, 6, 0, 0),
  (136, 3, .invokevirtual (273), 0, 0, 0, 0),
  (139, 3, .ifCond .ne (6), 145, 0, 0, 0),
  (142, 3, .goto (9), 151, 0, 0, 0),
  (145, 3, .iinc (6) (1), 0, 0, 1, 0),
  (148, 3, .goto (-102), 46, 0, 0, 0),
  (151, 1, .aload_n (0), 0, 0, 0, 0),
  (152, 3, .getfield (47), 5, 6, 0, 0),
  (155, 1, .aload_n (0), 0, 0, 0, 0),
  (156, 3, .getfield (26), 5, 2, 0, 0),
  (159, 3, .getfield (130), 0, 10, 0, 0),
  (162, 2, .iload (5), 0, 0, 0, 0),
  (164, 3, .invokevirtual (286), 0, 0, 0, 0),
  (167, 1, .aload_n (0), 0, 0, 0, 0),
  (168, 3, .getfield (47), 5, 6, 0, 0),
  (171, 1, .aload_n (0), 0, 0, 0, 0),
  (172, 3, .getfield (14), 5, 0, 0, 0),
  (175, 1, .iload_n (1), 0, 0, 0, 0),
  (176, 3, .invokevirtual (289), 0, 0, 0, 0),
  (179, 2, .iload (4), 0, 0, 0, 0),
  (181, 1, .ireturn, 0, 0, 0, 0)]
def md_Tent_seekOrder : Md := (y_Tent_seekOrder, prog_1_method_62_code, 8, (some .int), pm_Tent_seekOrder)
theorem tk_Tent_seekOrder : Tm md_Tent_seekOrder := tab_of (o := 5) (by decide +kernel)
set_option maxRecDepth 100000 in
theorem ok_Tent_seekOrder : MdOk md_Tent_seekOrder 2 ∧ Cond.instanceMethod md_Tent_seekOrder.1 ∈ T1 ∧ Cond.selects md_Tent_seekOrder.1.cls md_Tent_seekOrder.1 md_Tent_seekOrder.1 ∈ T1 := ⟨⟨T1_in3 (i := 168) rfl rfl, T1_in1 (i := 1) rfl rfl, by decide +kernel, ⟨by decide +kernel, by decide +kernel⟩, by decide +kernel, by decide⟩, T1_in3 (i := 167) rfl rfl, T1_inP (i := 23) rfl⟩
def pm_Orders_begin : List PE := [(0, 1, .aload_n (0), 0, 0, 0, 0),
  (1, 1, .iload_n (1), 0, 0, 0, 0),
  (2, 1, .iconst (5), 0, 0, 5, 0),
  (3, 3, .invokestatic (15), 0, 0, 0, 0),
  (6, 3, .putfield (21), 1, 1, 0, 0),
  (9, 1, .iconst (0), 0, 0, 0, 0),
  (10, 1, .istore_n (2), 0, 0, 0, 0),
  (11, 1, .iload_n (2), 0, 0, 0, 0),
  (12, 1, .aload_n (0), 0, 0, 0, 0),
  (13, 3, .getfield (21), 1, 1, 0, 0),
  (16, 3, .if_icmp .ge (16), 32, 0, 0, 0),
  (19, 1, .aload_n (0), 0, 0, 0, 0),
  (20, 3, .getfield (9), 1, 0, 0, 0),
  (23, 1, .iload_n (2), 0, 0, 0, 0),
  (24, 1, .iload_n (2), 0, 0, 0, 0),
  (25, 1, .iastore, 0, 0, 0, 0),
  (26, 3, .iinc (2) (1), 0, 0, 1, 0),
  (29, 3, .goto (-18), 11, 0, 0, 0),
  (32, 1, .return_, 0, 0, 0, 0)]
def md_Orders_begin : Md := (y_Orders_begin, prog_3_method_3_code, 3, none, pm_Orders_begin)
theorem tk_Orders_begin : Tm md_Orders_begin := tab_of (o := 1) (by decide +kernel)
set_option maxRecDepth 100000 in
theorem ok_Orders_begin : MdOk md_Orders_begin 1 ∧ Cond.instanceMethod md_Orders_begin.1 ∈ T1 ∧ Cond.selects md_Orders_begin.1.cls md_Orders_begin.1 md_Orders_begin.1 ∈ T1 := ⟨⟨T1_in3 (i := 172) rfl rfl, T1_in1 (i := 6) rfl rfl, by decide +kernel, ⟨by decide +kernel, by decide +kernel⟩, by decide +kernel, by decide⟩, T1_in3 (i := 170) rfl rfl, T1_in3 (i := 171) rfl rfl⟩
def pm_Camp_takeBags : List PE := [(0, 1, .iconst (0), 0, 0, 0, 0),
  (1, 1, .istore_n (3), 0, 0, 0, 0),
  (2, 1, .iload_n (3), 0, 0, 0, 0),
  (3, 1, .aload_n (0), 0, 0, 0, 0),
  (4, 3, .getfield (42), 0, 10, 0, 0),
  (7, 3, .if_icmp .ge (23), 30, 0, 0, 0),
  (10, 1, .aload_n (0), 0, 0, 0, 0),
  (11, 3, .getfield (21), 0, 3, 0, 0),
  (14, 1, .iload_n (3), 0, 0, 0, 0),
  (15, 1, .aload_n (1), 0, 0, 0, 0),
  (16, 3, .getfield (21), 0, 3, 0, 0),
  (19, 1, .aload_n (2), 0, 0, 0, 0),
  (20, 1, .iload_n (3), 0, 0, 0, 0),
  (21, 1, .iaload, 0, 0, 0, 0),
  (22, 1, .iaload, 0, 0, 0, 0),
  (23, 1, .iastore, 0, 0, 0, 0),
  (24, 3, .iinc (3) (1), 0, 0, 1, 0),
  (27, 3, .goto (-25), 2, 0, 0, 0),
  (30, 1, .return_, 0, 0, 0, 0)]
def md_Camp_takeBags : Md := (y_Camp_takeBags, prog_2_method_6_code, 4, none, pm_Camp_takeBags)
theorem tk_Camp_takeBags : Tm md_Camp_takeBags := tab_of (o := 0) (by decide +kernel)
set_option maxRecDepth 100000 in
theorem ok_Camp_takeBags : MdOk md_Camp_takeBags 2 ∧ Cond.instanceMethod md_Camp_takeBags.1 ∈ T1 ∧ Cond.selects md_Camp_takeBags.1.cls md_Camp_takeBags.1 md_Camp_takeBags.1 ∈ T1 := ⟨⟨T1_in3 (i := 176) rfl rfl, T1_in1 (i := 4) rfl rfl, by decide +kernel, ⟨by decide +kernel, by decide +kernel⟩, by decide +kernel, by decide⟩, T1_in3 (i := 174) rfl rfl, T1_in3 (i := 175) rfl rfl⟩
def pm_Orders_advance : List PE := [(0, 1, .aload_n (0), 0, 0, 0, 0),
  (1, 3, .getfield (21), 1, 1, 0, 0),
  (4, 1, .iconst (2), 0, 0, 2, 0),
  (5, 1, .isub, 0, 0, 0, 0),
  (6, 1, .istore_n (1), 0, 0, 0, 0),
  (7, 1, .iload_n (1), 0, 0, 0, 0),
  (8, 3, .ifCond .lt (26), 34, 0, 0, 0),
  (11, 1, .aload_n (0), 0, 0, 0, 0),
  (12, 3, .getfield (9), 1, 0, 0, 0),
  (15, 1, .iload_n (1), 0, 0, 0, 0),
  (16, 1, .iaload, 0, 0, 0, 0),
  (17, 1, .aload_n (0), 0, 0, 0, 0),
  (18, 3, .getfield (9), 1, 0, 0, 0),
  (21, 1, .iload_n (1), 0, 0, 0, 0),
  (22, 1, .iconst (1), 0, 0, 1, 0),
  (23, 1, .iadd, 0, 0, 0, 0),
  (24, 1, .iaload, 0, 0, 0, 0),
  (25, 3, .if_icmp .le (9), 34, 0, 0, 0),
  (28, 3, .iinc (1) (-1), 0, 0, (-1), 0),
  (31, 3, .goto (-24), 7, 0, 0, 0),
  (34, 1, .iload_n (1), 0, 0, 0, 0),
  (35, 3, .ifCond .ge (5), 40, 0, 0, 0),
  (38, 1, .iconst (0), 0, 0, 0, 0),
  (39, 1, .ireturn, 0, 0, 0, 0),
  (40, 1, .aload_n (0), 0, 0, 0, 0),
  (41, 3, .getfield (21), 1, 1, 0, 0),
  (44, 1, .iconst (1), 0, 0, 1, 0),
  (45, 1, .isub, 0, 0, 0, 0),
  (46, 1, .istore_n (2), 0, 0, 0, 0),
  (47, 1, .iload_n (2), 0, 0, 0, 0),
  (48, 1, .iload_n (1), 0, 0, 0, 0),
  (49, 3, .if_icmp .le (24), 73, 0, 0, 0),
  (52, 1, .aload_n (0), 0, 0, 0, 0),
  (53, 3, .getfield (9), 1, 0, 0, 0),
  (56, 1, .iload_n (2), 0, 0, 0, 0),
  (57, 1, .iaload, 0, 0, 0, 0),
  (58, 1, .aload_n (0), 0, 0, 0, 0),
  (59, 3, .getfield (9), 1, 0, 0, 0),
  (62, 1, .iload_n (1), 0, 0, 0, 0),
  (63, 1, .iaload, 0, 0, 0, 0),
  (64, 3, .if_icmp .ge (9), 73, 0, 0, 0),
  (67, 3, .iinc (2) (-1), 0, 0, (-1), 0),
  (70, 3, .goto (-23), 47, 0, 0, 0),
  (73, 1, .aload_n (0), 0, 0, 0, 0),
  (74, 3, .getfield (9), 1, 0, 0, 0),
  (77, 1, .iload_n (1), 0, 0, 0, 0),
  (78, 1, .iload_n (2), 0, 0, 0, 0),
  (79, 3, .invokestatic (25), 0, 0, 0, 0),
  (82, 1, .iload_n (1), 0, 0, 0, 0),
  (83, 1, .iconst (1), 0, 0, 1, 0),
  (84, 1, .iadd, 0, 0, 0, 0),
  (85, 1, .istore_n (3), 0, 0, 0, 0),
  (86, 1, .aload_n (0), 0, 0, 0, 0),
  (87, 3, .getfield (21), 1, 1, 0, 0),
  (90, 1, .iconst (1), 0, 0, 1, 0),
  (91, 1, .isub, 0, 0, 0, 0),
  (92, 2, .istore (4), 0, 0, 0, 0),
  (94, 1, .iload_n (3), 0, 0, 0, 0),
  (95, 2, .iload (4), 0, 0, 0, 0),
  (97, 3, .if_icmp .ge (22), 119, 0, 0, 0),
  (100, 1, .aload_n (0), 0, 0, 0, 0),
  (101, 3, .getfield (9), 1, 0, 0, 0),
  (104, 1, .iload_n (3), 0, 0, 0, 0),
  (105, 2, .iload (4), 0, 0, 0, 0),
  (107, 3, .invokestatic (25), 0, 0, 0, 0),
  (110, 3, .iinc (3) (1), 0, 0, 1, 0),
  (113, 3, .iinc (4) (-1), 0, 0, (-1), 0),
  (116, 3, .goto (-22), 94, 0, 0, 0),
  (119, 1, .iconst (1), 0, 0, 1, 0),
  (120, 1, .ireturn, 0, 0, 0, 0)]
def md_Orders_advance : Md := (y_Orders_advance, prog_3_method_4_code, 5, (some .boolean), pm_Orders_advance)
theorem tk_Orders_advance : Tm md_Orders_advance := tab_of (o := 1) (by decide +kernel)
set_option maxRecDepth 100000 in
theorem ok_Orders_advance : MdOk md_Orders_advance 0 ∧ Cond.instanceMethod md_Orders_advance.1 ∈ T1 ∧ Cond.selects md_Orders_advance.1.cls md_Orders_advance.1 md_Orders_advance.1 ∈ T1 := ⟨⟨T1_in3 (i := 180) rfl rfl, T1_in1 (i := 6) rfl rfl, by decide +kernel, ⟨by decide +kernel, by decide +kernel⟩, by decide +kernel, by decide⟩, T1_in3 (i := 178) rfl rfl, T1_in3 (i := 179) rfl rfl⟩
def pm_Orders_goTo : List PE := [(0, 1, .aload_n (0), 0, 0, 0, 0),
  (1, 1, .iload_n (1), 0, 0, 0, 0),
  (2, 1, .iconst (5), 0, 0, 5, 0),
  (3, 3, .invokestatic (15), 0, 0, 0, 0),
  (6, 3, .putfield (21), 1, 1, 0, 0),
  (9, 1, .iconst (1), 0, 0, 1, 0),
  (10, 1, .aload_n (0), 0, 0, 0, 0),
  (11, 3, .getfield (21), 1, 1, 0, 0),
  (14, 1, .ishl, 0, 0, 0, 0),
  (15, 1, .iconst (1), 0, 0, 1, 0),
  (16, 1, .isub, 0, 0, 0, 0),
  (17, 1, .istore_n (3), 0, 0, 0, 0),
  (18, 1, .aload_n (0), 0, 0, 0, 0),
  (19, 3, .getfield (21), 1, 1, 0, 0),
  (22, 3, .invokestatic (29), 0, 0, 0, 0),
  (25, 2, .istore (4), 0, 0, 0, 0),
  (27, 1, .iconst (0), 0, 0, 0, 0),
  (28, 2, .istore (5), 0, 0, 0, 0),
  (30, 2, .iload (5), 0, 0, 0, 0),
  (32, 1, .aload_n (0), 0, 0, 0, 0),
  (33, 3, .getfield (21), 1, 1, 0, 0),
  (36, 3, .if_icmp .ge (58), 94, 0, 0, 0),
  (39, 2, .iload (4), 0, 0, 0, 0),
  (41, 1, .aload_n (0), 0, 0, 0, 0),
  (42, 3, .getfield (21), 1, 1, 0, 0),
  (45, 2, .iload (5), 0, 0, 0, 0),
  (47, 1, .isub, 0, 0, 0, 0),
  (48, 1, .idiv, 0, 0, 0, 0),
  (49, 2, .istore (4), 0, 0, 0, 0),
  (51, 1, .aload_n (0), 0, 0, 0, 0),
  (52, 3, .getfield (9), 1, 0, 0, 0),
  (55, 2, .iload (5), 0, 0, 0, 0),
  (57, 1, .iload_n (3), 0, 0, 0, 0),
  (58, 1, .iload_n (2), 0, 0, 0, 0),
  (59, 2, .iload (4), 0, 0, 0, 0),
  (61, 1, .idiv, 0, 0, 0, 0),
  (62, 1, .aload_n (0), 0, 0, 0, 0),
  (63, 3, .getfield (21), 1, 1, 0, 0),
  (66, 2, .iload (5), 0, 0, 0, 0),
  (68, 1, .isub, 0, 0, 0, 0),
  (69, 1, .irem, 0, 0, 0, 0),
  (70, 3, .invokestatic (33), 0, 0, 0, 0),
  (73, 1, .iastore, 0, 0, 0, 0),
  (74, 1, .iload_n (3), 0, 0, 0, 0),
  (75, 1, .iconst (1), 0, 0, 1, 0),
  (76, 1, .aload_n (0), 0, 0, 0, 0),
  (77, 3, .getfield (9), 1, 0, 0, 0),
  (80, 2, .iload (5), 0, 0, 0, 0),
  (82, 1, .iaload, 0, 0, 0, 0),
  (83, 1, .ishl, 0, 0, 0, 0),
  (84, 1, .iconst (-1), 0, 0, (-1), 0),
  (85, 1, .ixor, 0, 0, 0, 0),
  (86, 1, .iand, 0, 0, 0, 0),
  (87, 1, .istore_n (3), 0, 0, 0, 0),
  (88, 3, .iinc (5) (1), 0, 0, 1, 0),
  (91, 3, .goto (-61), 30, 0, 0, 0),
  (94, 1, .return_, 0, 0, 0, 0)]
def md_Orders_goTo : Md := (y_Orders_goTo, prog_3_method_5_code, 6, none, pm_Orders_goTo)
theorem tk_Orders_goTo : Tm md_Orders_goTo := tab_of (o := 1) (by decide +kernel)
set_option maxRecDepth 100000 in
theorem ok_Orders_goTo : MdOk md_Orders_goTo 2 ∧ Cond.instanceMethod md_Orders_goTo.1 ∈ T1 ∧ Cond.selects md_Orders_goTo.1.cls md_Orders_goTo.1 md_Orders_goTo.1 ∈ T1 := ⟨⟨T1_in3 (i := 185) rfl rfl, T1_in1 (i := 6) rfl rfl, by decide +kernel, ⟨by decide +kernel, by decide +kernel⟩, by decide +kernel, by decide⟩, T1_in3 (i := 183) rfl rfl, T1_in3 (i := 184) rfl rfl⟩
def pm_Orders_howMany : List PE := [(0, 1, .iconst (1), 0, 0, 1, 0),
  (1, 1, .istore_n (1), 0, 0, 0, 0),
  (2, 1, .iconst (2), 0, 0, 2, 0),
  (3, 1, .istore_n (2), 0, 0, 0, 0),
  (4, 1, .iload_n (2), 0, 0, 0, 0),
  (5, 1, .iload_n (0), 0, 0, 0, 0),
  (6, 3, .if_icmp .gt (13), 19, 0, 0, 0),
  (9, 1, .iload_n (1), 0, 0, 0, 0),
  (10, 1, .iload_n (2), 0, 0, 0, 0),
  (11, 1, .imul, 0, 0, 0, 0),
  (12, 1, .istore_n (1), 0, 0, 0, 0),
  (13, 3, .iinc (2) (1), 0, 0, 1, 0),
  (16, 3, .goto (-12), 4, 0, 0, 0),
  (19, 1, .iload_n (1), 0, 0, 0, 0),
  (20, 1, .ireturn, 0, 0, 0, 0)]
def md_Orders_howMany : Md := (y_Orders_howMany, prog_3_method_2_code, 3, (some .int), pm_Orders_howMany)
theorem tk_Orders_howMany : Tm md_Orders_howMany := tab_of (o := 1) (by decide +kernel)
set_option maxRecDepth 100000 in
theorem ok_Orders_howMany : MdOk md_Orders_howMany 1 ∧ Cond.static md_Orders_howMany.1 ∈ T1 := ⟨⟨T1_in3 (i := 188) rfl rfl, T1_in1 (i := 6) rfl rfl, by decide +kernel, ⟨by decide +kernel, by decide +kernel⟩, by decide +kernel, by decide⟩, T1_in3 (i := 187) rfl rfl⟩
def pm_Orders_pick : List PE := [(0, 1, .iconst (0), 0, 0, 0, 0),
  (1, 1, .istore_n (2), 0, 0, 0, 0),
  (2, 1, .iconst (0), 0, 0, 0, 0),
  (3, 1, .istore_n (3), 0, 0, 0, 0),
  (4, 1, .iload_n (3), 0, 0, 0, 0),
  (5, 1, .iconst (5), 0, 0, 5, 0),
  (6, 3, .if_icmp .ge (28), 34, 0, 0, 0),
  (9, 1, .iload_n (0), 0, 0, 0, 0),
  (10, 1, .iload_n (3), 0, 0, 0, 0),
  (11, 1, .ishr, 0, 0, 0, 0),
  (12, 1, .iconst (1), 0, 0, 1, 0),
  (13, 1, .iand, 0, 0, 0, 0),
  (14, 1, .iconst (1), 0, 0, 1, 0),
  (15, 3, .if_icmp .ne (13), 28, 0, 0, 0),
  (18, 1, .iload_n (2), 0, 0, 0, 0),
  (19, 1, .iload_n (1), 0, 0, 0, 0),
  (20, 3, .if_icmp .ne (5), 25, 0, 0, 0),
  (23, 1, .iload_n (3), 0, 0, 0, 0),
  (24, 1, .ireturn, 0, 0, 0, 0),
  (25, 3, .iinc (2) (1), 0, 0, 1, 0),
  (28, 3, .iinc (3) (1), 0, 0, 1, 0),
  (31, 3, .goto (-27), 4, 0, 0, 0),
  (34, 1, .iconst (0), 0, 0, 0, 0),
  (35, 1, .ireturn, 0, 0, 0, 0)]
def md_Orders_pick : Md := (y_Orders_pick, prog_3_method_7_code, 4, (some .int), pm_Orders_pick)
theorem tk_Orders_pick : Tm md_Orders_pick := tab_of (o := 1) (by decide +kernel)
set_option maxRecDepth 100000 in
theorem ok_Orders_pick : MdOk md_Orders_pick 2 ∧ Cond.static md_Orders_pick.1 ∈ T1 := ⟨⟨T1_in3 (i := 191) rfl rfl, T1_in1 (i := 6) rfl rfl, by decide +kernel, ⟨by decide +kernel, by decide +kernel⟩, by decide +kernel, by decide⟩, T1_in3 (i := 190) rfl rfl⟩
def pm_Orders_writeTo : List PE := [(0, 1, .aload_n (1), 0, 0, 0, 0),
  (1, 1, .iload_n (2), 0, 0, 0, 0),
  (2, 1, .aload_n (0), 0, 0, 0, 0),
  (3, 3, .getfield (21), 1, 1, 0, 0),
  (6, 1, .iconst (0), 0, 0, 0, 0),
  (7, 3, .invokevirtual (45), 0, 0, 0, 0),
  (10, 1, .iconst (0), 0, 0, 0, 0),
  (11, 1, .istore_n (3), 0, 0, 0, 0),
  (12, 1, .iload_n (3), 0, 0, 0, 0),
  (13, 1, .aload_n (0), 0, 0, 0, 0),
  (14, 3, .getfield (21), 1, 1, 0, 0),
  (17, 3, .if_icmp .ge (21), 38, 0, 0, 0),
  (20, 1, .aload_n (1), 0, 0, 0, 0),
  (21, 1, .iload_n (2), 0, 0, 0, 0),
  (22, 1, .iload_n (3), 0, 0, 0, 0),
  (23, 1, .aload_n (0), 0, 0, 0, 0),
  (24, 3, .getfield (9), 1, 0, 0, 0),
  (27, 1, .iload_n (3), 0, 0, 0, 0),
  (28, 1, .iaload, 0, 0, 0, 0),
  (29, 3, .invokevirtual (49), 0, 0, 0, 0),
  (32, 3, .iinc (3) (1), 0, 0, 1, 0),
  (35, 3, .goto (-23), 12, 0, 0, 0),
  (38, 1, .return_, 0, 0, 0, 0)]
def md_Orders_writeTo : Md := (y_Orders_writeTo, prog_3_method_9_code, 4, none, pm_Orders_writeTo)
theorem tk_Orders_writeTo : Tm md_Orders_writeTo := tab_of (o := 1) (by decide +kernel)
set_option maxRecDepth 100000 in
theorem ok_Orders_writeTo : MdOk md_Orders_writeTo 2 ∧ Cond.instanceMethod md_Orders_writeTo.1 ∈ T1 ∧ Cond.selects md_Orders_writeTo.1.cls md_Orders_writeTo.1 md_Orders_writeTo.1 ∈ T1 := ⟨⟨T1_in3 (i := 195) rfl rfl, T1_in1 (i := 6) rfl rfl, by decide +kernel, ⟨by decide +kernel, by decide +kernel⟩, by decide +kernel, by decide⟩, T1_in3 (i := 193) rfl rfl, T1_in3 (i := 194) rfl rfl⟩
def pm_Tent_fair : List PE := [(0, 1, .aload_n (0), 0, 0, 0, 0),
  (1, 1, .iload_n (1), 0, 0, 0, 0),
  (2, 1, .iconst (1), 0, 0, 1, 0),
  (3, 3, .invokevirtual (254), 0, 0, 0, 0),
  (6, 1, .ireturn, 0, 0, 0, 0)]
def md_Tent_fair : Md := (y_Tent_fair, prog_1_method_34_code, 2, (some .int), pm_Tent_fair)
theorem tk_Tent_fair : Tm md_Tent_fair := tab_of (o := 5) (by decide +kernel)
set_option maxRecDepth 100000 in
theorem ok_Tent_fair : MdOk md_Tent_fair 1 ∧ Cond.instanceMethod md_Tent_fair.1 ∈ T1 ∧ Cond.selects md_Tent_fair.1.cls md_Tent_fair.1 md_Tent_fair.1 ∈ T1 := ⟨⟨T1_in3 (i := 201) rfl rfl, T1_in1 (i := 1) rfl rfl, by decide +kernel, ⟨by decide +kernel, by decide +kernel⟩, by decide +kernel, by decide⟩, T1_in3 (i := 199) rfl rfl, T1_in3 (i := 200) rfl rfl⟩
def pm_Tent_turning : List PE := [(0, 1, .aload_n (0), 0, 0, 0, 0),
  (1, 3, .getfield (26), 5, 2, 0, 0),
  (4, 3, .getfield (130), 0, 10, 0, 0),
  (7, 3, .ifCond .ne (6), 13, 0, 0, 0),
  (10, 2, .bipush (-4), 0, 0, (-4), 0),
  (12, 1, .ireturn, 0, 0, 0, 0),
  (13, 1, .aload_n (0), 0, 0, 0, 0),
  (14, 3, .getfield (34), 5, 4, 0, 0),
  (17, 1, .aload_n (0), 0, 0, 0, 0),
  (18, 3, .getfield (26), 5, 2, 0, 0),
  (21, 3, .invokevirtual (239), 0, 0, 0, 0),
  (24, 1, .aload_n (0), 0, 0, 0, 0),
  (25, 3, .getfield (34), 5, 4, 0, 0),
  (28, 3, .invokevirtual (257), 0, 0, 0, 0),
  (31, 1, .iconst (-1), 0, 0, (-1), 0),
  (32, 1, .istore_n (1), 0, 0, 0, 0),
  (33, 1, .iconst (0), 0, 0, 0, 0),
  (34, 1, .istore_n (2), 0, 0, 0, 0),
  (35, 1, .iconst (0), 0, 0, 0, 0),
  (36, 1, .istore_n (3), 0, 0, 0, 0),
  (37, 1, .iload_n (3), 0, 0, 0, 0),
  (38, 3, .sipush (256), 0, 0, 256, 0),
  (41, 3, .if_icmp .ge (37), 78, 0, 0, 0),
  (44, 1, .aload_n (0), 0, 0, 0, 0),
  (45, 3, .getfield (34), 5, 4, 0, 0),
  (48, 1, .iload_n (3), 0, 0, 0, 0),
  (49, 3, .putfield (159), 0, 13, 0, 0),
  (52, 1, .aload_n (0), 0, 0, 0, 0),
  (53, 3, .getfield (34), 5, 4, 0, 0),
  (56, 3, .invokevirtual (260), 0, 0, 0, 0),
  (59, 2, .istore (4), 0, 0, 0, 0),
  (61, 2, .iload (4), 0, 0, 0, 0),
  (63, 1, .iload_n (1), 0, 0, 0, 0),
  (64, 3, .if_icmp .le (8), 72, 0, 0, 0),
  (67, 2, .iload (4), 0, 0, 0, 0),
  (69, 1, .istore_n (1), 0, 0, 0, 0),
  (70, 1, .iload_n (3), 0, 0, 0, 0),
  (71, 1, .istore_n (2), 0, 0, 0, 0),
  (72, 3, .iinc (3) (1), 0, 0, 1, 0),
  (75, 3, .goto (-38), 37, 0, 0, 0),
  (78, 1, .aload_n (0), 0, 0, 0, 0),
  (79, 1, .iload_n (1), 0, 0, 0, 0),
  (80, 3, .putfield (78), 5, 10, 0, 0),
  (83, 1, .iload_n (2), 0, 0, 0, 0),
  (84, 1, .ireturn, 0, 0, 0, 0)]
def md_Tent_turning : Md := (y_Tent_turning, prog_1_method_35_code, 5, (some .int), pm_Tent_turning)
theorem tk_Tent_turning : Tm md_Tent_turning := tab_of (o := 5) (by decide +kernel)
set_option maxRecDepth 100000 in
theorem ok_Tent_turning : MdOk md_Tent_turning 0 ∧ Cond.instanceMethod md_Tent_turning.1 ∈ T1 ∧ Cond.selects md_Tent_turning.1.cls md_Tent_turning.1 md_Tent_turning.1 ∈ T1 := ⟨⟨T1_in3 (i := 205) rfl rfl, T1_in1 (i := 1) rfl rfl, by decide +kernel, ⟨by decide +kernel, by decide +kernel⟩, by decide +kernel, by decide⟩, T1_in3 (i := 203) rfl rfl, T1_in3 (i := 204) rfl rfl⟩
def pm_Camp_noteCalm : List PE := [(0, 1, .iconst (0), 0, 0, 0, 0),
  (1, 1, .istore_n (1), 0, 0, 0, 0),
  (2, 1, .iload_n (1), 0, 0, 0, 0),
  (3, 1, .aload_n (0), 0, 0, 0, 0),
  (4, 3, .getfield (42), 0, 10, 0, 0),
  (7, 3, .if_icmp .ge (20), 27, 0, 0, 0),
  (10, 1, .aload_n (0), 0, 0, 0, 0),
  (11, 3, .getfield (36), 0, 8, 0, 0),
  (14, 1, .iload_n (1), 0, 0, 0, 0),
  (15, 1, .aload_n (0), 0, 0, 0, 0),
  (16, 1, .iload_n (1), 0, 0, 0, 0),
  (17, 3, .invokevirtual (133), 0, 0, 0, 0),
  (20, 1, .iastore, 0, 0, 0, 0),
  (21, 3, .iinc (1) (1), 0, 0, 1, 0),
  (24, 3, .goto (-22), 2, 0, 0, 0),
  (27, 1, .return_, 0, 0, 0, 0)]
def md_Camp_noteCalm : Md := (y_Camp_noteCalm, prog_2_method_35_code, 2, none, pm_Camp_noteCalm)
theorem tk_Camp_noteCalm : Tm md_Camp_noteCalm := tab_of (o := 0) (by decide +kernel)
set_option maxRecDepth 100000 in
theorem ok_Camp_noteCalm : MdOk md_Camp_noteCalm 0 ∧ Cond.instanceMethod md_Camp_noteCalm.1 ∈ T1 ∧ Cond.selects md_Camp_noteCalm.1.cls md_Camp_noteCalm.1 md_Camp_noteCalm.1 ∈ T1 := ⟨⟨T1_in3 (i := 209) rfl rfl, T1_in1 (i := 4) rfl rfl, by decide +kernel, ⟨by decide +kernel, by decide +kernel⟩, by decide +kernel, by decide⟩, T1_in3 (i := 207) rfl rfl, T1_in3 (i := 208) rfl rfl⟩
def pm_Camp_sleptOfCalm : List PE := [(0, 1, .aload_n (0), 0, 0, 0, 0),
  (1, 3, .invokevirtual (123), 0, 0, 0, 0),
  (4, 1, .istore_n (1), 0, 0, 0, 0),
  (5, 1, .iconst (0), 0, 0, 0, 0),
  (6, 1, .istore_n (2), 0, 0, 0, 0),
  (7, 1, .iconst (0), 0, 0, 0, 0),
  (8, 1, .istore_n (3), 0, 0, 0, 0),
  (9, 1, .iload_n (3), 0, 0, 0, 0),
  (10, 1, .aload_n (0), 0, 0, 0, 0),
  (11, 3, .getfield (42), 0, 10, 0, 0),
  (14, 3, .if_icmp .ge (31), 45, 0, 0, 0),
  (17, 1, .iload_n (2), 0, 0, 0, 0),
  (18, 1, .aload_n (0), 0, 0, 0, 0),
  (19, 3, .getfield (36), 0, 8, 0, 0),
  (22, 1, .iload_n (3), 0, 0, 0, 0),
  (23, 1, .iaload, 0, 0, 0, 0),
  (24, 1, .iload_n (1), 0, 0, 0, 0),
  (25, 1, .aload_n (0), 0, 0, 0, 0),
  (26, 1, .iload_n (3), 0, 0, 0, 0),
  (27, 3, .invokevirtual (127), 0, 0, 0, 0),
  (30, 1, .ior, 0, 0, 0, 0),
  (31, 1, .iconst (-1), 0, 0, (-1), 0),
  (32, 1, .ixor, 0, 0, 0, 0),
  (33, 1, .iand, 0, 0, 0, 0),
  (34, 3, .invokestatic (136), 0, 0, 0, 0),
  (37, 1, .iadd, 0, 0, 0, 0),
  (38, 1, .istore_n (2), 0, 0, 0, 0),
  (39, 3, .iinc (3) (1), 0, 0, 1, 0),
  (42, 3, .goto (-33), 9, 0, 0, 0),
  (45, 1, .iload_n (2), 0, 0, 0, 0),
  (46, 1, .ireturn, 0, 0, 0, 0)]
def md_Camp_sleptOfCalm : Md := (y_Camp_sleptOfCalm, prog_2_method_36_code, 4, (some .int), pm_Camp_sleptOfCalm)
theorem tk_Camp_sleptOfCalm : Tm md_Camp_sleptOfCalm := tab_of (o := 0) (by decide +kernel)
set_option maxRecDepth 100000 in
theorem ok_Camp_sleptOfCalm : MdOk md_Camp_sleptOfCalm 0 ∧ Cond.instanceMethod md_Camp_sleptOfCalm.1 ∈ T1 ∧ Cond.selects md_Camp_sleptOfCalm.1.cls md_Camp_sleptOfCalm.1 md_Camp_sleptOfCalm.1 ∈ T1 := ⟨⟨T1_in3 (i := 213) rfl rfl, T1_in1 (i := 4) rfl rfl, by decide +kernel, ⟨by decide +kernel, by decide +kernel⟩, by decide +kernel, by decide⟩, T1_in3 (i := 211) rfl rfl, T1_in3 (i := 212) rfl rfl⟩
def pm_Tent_warm : List PE := [(0, 1, .aload_n (0), 0, 0, 0, 0),
  (1, 3, .getfield (26), 5, 2, 0, 0),
  (4, 3, .getfield (130), 0, 10, 0, 0),
  (7, 3, .ifCond .ne (6), 13, 0, 0, 0),
  (10, 2, .bipush (-4), 0, 0, (-4), 0),
  (12, 1, .ireturn, 0, 0, 0, 0),
  (13, 1, .aload_n (0), 0, 0, 0, 0),
  (14, 3, .getfield (34), 5, 4, 0, 0),
  (17, 1, .aload_n (0), 0, 0, 0, 0),
  (18, 3, .getfield (26), 5, 2, 0, 0),
  (21, 3, .invokevirtual (239), 0, 0, 0, 0),
  (24, 1, .iconst (-1), 0, 0, (-1), 0),
  (25, 1, .istore_n (1), 0, 0, 0, 0),
  (26, 1, .iconst (0), 0, 0, 0, 0),
  (27, 1, .istore_n (2), 0, 0, 0, 0),
  (28, 1, .iconst (0), 0, 0, 0, 0),
  (29, 1, .istore_n (3), 0, 0, 0, 0),
  (30, 1, .iload_n (3), 0, 0, 0, 0),
  (31, 1, .aload_n (0), 0, 0, 0, 0),
  (32, 3, .getfield (26), 5, 2, 0, 0),
  (35, 3, .getfield (130), 0, 10, 0, 0),
  (38, 3, .if_icmp .ge (37), 75, 0, 0, 0),
  (41, 1, .aload_n (0), 0, 0, 0, 0),
  (42, 3, .getfield (34), 5, 4, 0, 0),
  (45, 1, .iload_n (3), 0, 0, 0, 0),
  (46, 3, .putfield (170), 0, 12, 0, 0),
  (49, 1, .aload_n (0), 0, 0, 0, 0),
  (50, 3, .getfield (34), 5, 4, 0, 0),
  (53, 3, .invokevirtual (251), 0, 0, 0, 0),
  (56, 2, .istore (4), 0, 0, 0, 0),
  (58, 2, .iload (4), 0, 0, 0, 0),
  (60, 1, .iload_n (1), 0, 0, 0, 0),
  (61, 3, .if_icmp .le (8), 69, 0, 0, 0),
  (64, 2, .iload (4), 0, 0, 0, 0),
  (66, 1, .istore_n (1), 0, 0, 0, 0),
  (67, 1, .iload_n (3), 0, 0, 0, 0),
  (68, 1, .istore_n (2), 0, 0, 0, 0),
  (69, 3, .iinc (3) (1), 0, 0, 1, 0),
  (72, 3, .goto (-42), 30, 0, 0, 0),
  (75, 1, .aload_n (0), 0, 0, 0, 0),
  (76, 1, .iload_n (1), 0, 0, 0, 0),
  (77, 3, .putfield (78), 5, 10, 0, 0),
  (80, 1, .iload_n (2), 0, 0, 0, 0),
  (81, 1, .ireturn, 0, 0, 0, 0)]
def md_Tent_warm : Md := (y_Tent_warm, prog_1_method_36_code, 5, (some .int), pm_Tent_warm)
theorem tk_Tent_warm : Tm md_Tent_warm := tab_of (o := 5) (by decide +kernel)
set_option maxRecDepth 100000 in
theorem ok_Tent_warm : MdOk md_Tent_warm 0 ∧ Cond.instanceMethod md_Tent_warm.1 ∈ T1 ∧ Cond.selects md_Tent_warm.1.cls md_Tent_warm.1 md_Tent_warm.1 ∈ T1 := ⟨⟨T1_in3 (i := 217) rfl rfl, T1_in1 (i := 1) rfl rfl, by decide +kernel, ⟨by decide +kernel, by decide +kernel⟩, by decide +kernel, by decide⟩, T1_in3 (i := 215) rfl rfl, T1_in3 (i := 216) rfl rfl⟩
def pm_Tent_thin : List PE := [(0, 1, .aload_n (0), 0, 0, 0, 0),
  (1, 1, .iload_n (1), 0, 0, 0, 0),
  (2, 1, .iconst (2), 0, 0, 2, 0),
  (3, 3, .invokevirtual (254), 0, 0, 0, 0),
  (6, 1, .ireturn, 0, 0, 0, 0)]
def md_Tent_thin : Md := (y_Tent_thin, prog_1_method_37_code, 2, (some .int), pm_Tent_thin)
theorem tk_Tent_thin : Tm md_Tent_thin := tab_of (o := 5) (by decide +kernel)
set_option maxRecDepth 100000 in
theorem ok_Tent_thin : MdOk md_Tent_thin 1 ∧ Cond.instanceMethod md_Tent_thin.1 ∈ T1 ∧ Cond.selects md_Tent_thin.1.cls md_Tent_thin.1 md_Tent_thin.1 ∈ T1 := ⟨⟨T1_in3 (i := 221) rfl rfl, T1_in1 (i := 1) rfl rfl, by decide +kernel, ⟨by decide +kernel, by decide +kernel⟩, by decide +kernel, by decide⟩, T1_in3 (i := 219) rfl rfl, T1_in3 (i := 220) rfl rfl⟩
def pm_Tent_nights : List PE := [(0, 1, .iload_n (1), 0, 0, 0, 0),
  (1, 1, .iconst (1), 0, 0, 1, 0),
  (2, 3, .if_icmp .lt (8), 10, 0, 0, 0),
  (5, 1, .iload_n (1), 0, 0, 0, 0),
  (6, 1, .iconst (3), 0, 0, 3, 0),
  (7, 3, .if_icmp .le (5), 12, 0, 0, 0),
  (10, 1, .iconst (-1), 0, 0, (-1), 0),
  (11, 1, .ireturn, 0, 0, 0, 0),
  (12, 1, .aload_n (0), 0, 0, 0, 0),
  (13, 1, .iload_n (2), 0, 0, 0, 0),
  (14, 3, .invokevirtual (263), 0, 0, 0, 0),
  (17, 1, .istore_n (3), 0, 0, 0, 0),
  (18, 1, .iload_n (3), 0, 0, 0, 0),
  (19, 3, .ifCond .eq (5), 24, 0, 0, 0),
  (22, 1, .iload_n (3), 0, 0, 0, 0),
  (23, 1, .ireturn, 0, 0, 0, 0),
  (24, 1, .aload_n (0), 0, 0, 0, 0),
  (25, 3, .getfield (34), 5, 4, 0, 0),
  (28, 1, .aload_n (0), 0, 0, 0, 0),
  (29, 3, .getfield (26), 5, 2, 0, 0),
  (32, 3, .invokevirtual (239), 0, 0, 0, 0),
  (35, 1, .aload_n (0), 0, 0, 0, 0),
  (36, 3, .getfield (54), 5, 7, 0, 0),
  (39, 1, .aload_n (0), 0, 0, 0, 0),
  (40, 3, .getfield (26), 5, 2, 0, 0),
  (43, 3, .getfield (130), 0, 10, 0, 0),
  (46, 3, .invokevirtual (266), 0, 0, 0, 0),
  (49, 1, .aload_n (0), 0, 0, 0, 0),
  (50, 3, .getfield (47), 5, 6, 0, 0),
  (53, 1, .aload_n (0), 0, 0, 0, 0),
  (54, 3, .getfield (26), 5, 2, 0, 0),
  (57, 3, .getfield (130), 0, 10, 0, 0),
  (60, 3, .invokevirtual (268), 0, 0, 0, 0),
  (63, 1, .iconst (0), 0, 0, 0, 0),
  (64, 2, .istore (4), 0, 0, 0, 0),
  (66, 2, .iload (4), 0, 0, 0, 0),
  (68, 2, .bipush (120), 0, 0, 120, 0),
  (70, 3, .if_icmp .ge (49), 119, 0, 0, 0),
  (73, 1, .aload_n (0), 0, 0, 0, 0),
  (74, 3, .getfield (34), 5, 4, 0, 0),
  (77, 1, .aload_n (0), 0, 0, 0, 0),
  (78, 3, .getfield (47), 5, 6, 0, 0),
  (81, 3, .getfield (196), 1, 0, 0, 0),
  (84, 3, .invokevirtual (199), 0, 0, 0, 0),
  (87, 1, .aload_n (0), 0, 0, 0, 0),
  (88, 3, .getfield (54), 5, 7, 0, 0),
  (91, 2, .iload (4), 0, 0, 0, 0),
  (93, 1, .aload_n (0), 0, 0, 0, 0),
  (94, 3, .getfield (34), 5, 4, 0, 0),
  (97, 3, .invokevirtual (269), 0, 0, 0, 0),
  (100, 1, .aload_n (0), 0, 0, 0, 0),
  (101, 3, .getfield (47), 5, 6, 0, 0),
  (104, 3, .invokevirtual (273), 0, 0, 0, 0),
  (107, 3, .ifCond .ne (6), 113, 0, 0, 0),
  (110, 3, .goto (9), 119, 0, 0, 0),
  (113, 3, .iinc (4) (1), 0, 0, 1, 0),
  (116, 3, .goto (-50), 66, 0, 0, 0),
  (119, 1, .aload_n (0), 0, 0, 0, 0),
  (120, 3, .getfield (54), 5, 7, 0, 0),
  (123, 1, .iload_n (1), 0, 0, 0, 0),
  (124, 3, .invokevirtual (277), 0, 0, 0, 0),
  (127, 2, .istore (4), 0, 0, 0, 0),
  (129, 1, .aload_n (0), 0, 0, 0, 0),
  (130, 3, .getfield (54), 5, 7, 0, 0),
  (133, 1, .aload_n (0), 0, 0, 0, 0),
  (134, 3, .getfield (14), 5, 0, 0, 0),
  (137, 1, .iload_n (2), 0, 0, 0, 0),
  (138, 1, .iload_n (1), 0, 0, 0, 0),
  (139, 3, .invokevirtual (280), 0, 0, 0, 0),
  (142, 2, .iload (4), 0, 0, 0, 0),
  (144, 1, .ireturn, 0, 0, 0, 0)]
def md_Tent_nights : Md := (y_Tent_nights, prog_1_method_38_code, 5, (some .int), pm_Tent_nights)
theorem tk_Tent_nights : Tm md_Tent_nights := tab_of (o := 5) (by decide +kernel)
set_option maxRecDepth 100000 in
theorem ok_Tent_nights : MdOk md_Tent_nights 2 ∧ Cond.instanceMethod md_Tent_nights.1 ∈ T1 ∧ Cond.selects md_Tent_nights.1.cls md_Tent_nights.1 md_Tent_nights.1 ∈ T1 := ⟨⟨T1_in3 (i := 225) rfl rfl, T1_in1 (i := 1) rfl rfl, by decide +kernel, ⟨by decide +kernel, by decide +kernel⟩, by decide +kernel, by decide⟩, T1_in3 (i := 223) rfl rfl, T1_in3 (i := 224) rfl rfl⟩
def pm_Plan_begin : List PE := [(0, 1, .aload_n (0), 0, 0, 0, 0),
  (1, 1, .iload_n (1), 0, 0, 0, 0),
  (2, 1, .iconst (5), 0, 0, 5, 0),
  (3, 3, .invokestatic (30), 0, 0, 0, 0),
  (6, 3, .putfield (36), 2, 8, 0, 0),
  (9, 1, .aload_n (0), 0, 0, 0, 0),
  (10, 1, .iconst (0), 0, 0, 0, 0),
  (11, 3, .putfield (40), 2, 7, 0, 0),
  (14, 1, .aload_n (0), 0, 0, 0, 0),
  (15, 3, .getfield (18), 2, 2, 0, 0),
  (18, 1, .iconst (0), 0, 0, 0, 0),
  (19, 3, .invokestatic (43), 0, 0, 0, 0),
  (22, 1, .return_, 0, 0, 0, 0)]
def md_Plan_begin : Md := (y_Plan_begin, prog_4_method_2_code, 2, none, pm_Plan_begin)
theorem tk_Plan_begin : Tm md_Plan_begin := tab_of (o := 2) (by decide +kernel)
set_option maxRecDepth 100000 in
theorem ok_Plan_begin : MdOk md_Plan_begin 1 ∧ Cond.instanceMethod md_Plan_begin.1 ∈ T1 ∧ Cond.selects md_Plan_begin.1.cls md_Plan_begin.1 md_Plan_begin.1 ∈ T1 := ⟨⟨T1_in3 (i := 229) rfl rfl, T1_in1 (i := 7) rfl rfl, by decide +kernel, ⟨by decide +kernel, by decide +kernel⟩, by decide +kernel, by decide⟩, T1_in3 (i := 227) rfl rfl, T1_in3 (i := 228) rfl rfl⟩
def pm_Plan_offer : List PE := [(0, 1, .aload_n (0), 0, 0, 0, 0),
  (1, 3, .getfield (40), 2, 7, 0, 0),
  (4, 2, .bipush (120), 0, 0, 120, 0),
  (6, 3, .if_icmp .lt (4), 10, 0, 0, 0),
  (9, 1, .return_, 0, 0, 0, 0),
  (10, 1, .iconst (0), 0, 0, 0, 0),
  (11, 1, .istore_n (3), 0, 0, 0, 0),
  (12, 1, .iload_n (3), 0, 0, 0, 0),
  (13, 1, .aload_n (0), 0, 0, 0, 0),
  (14, 3, .getfield (36), 2, 8, 0, 0),
  (17, 3, .if_icmp .ge (48), 65, 0, 0, 0),
  (20, 1, .aload_n (2), 0, 0, 0, 0),
  (21, 1, .iload_n (3), 0, 0, 0, 0),
  (22, 3, .invokevirtual (49), 0, 0, 0, 0),
  (25, 2, .istore (4), 0, 0, 0, 0),
  (27, 1, .aload_n (0), 0, 0, 0, 0),
  (28, 3, .getfield (15), 2, 1, 0, 0),
  (31, 1, .aload_n (0), 0, 0, 0, 0),
  (32, 3, .getfield (40), 2, 7, 0, 0),
  (35, 1, .iconst (5), 0, 0, 5, 0),
  (36, 1, .imul, 0, 0, 0, 0),
  (37, 1, .iload_n (3), 0, 0, 0, 0),
  (38, 1, .iadd, 0, 0, 0, 0),
  (39, 2, .iload (4), 0, 0, 0, 0),
  (41, 1, .iastore, 0, 0, 0, 0),
  (42, 1, .aload_n (0), 0, 0, 0, 0),
  (43, 3, .getfield (18), 2, 2, 0, 0),
  (46, 1, .iload_n (3), 0, 0, 0, 0),
  (47, 1, .aload_n (0), 0, 0, 0, 0),
  (48, 3, .getfield (18), 2, 2, 0, 0),
  (51, 1, .iload_n (3), 0, 0, 0, 0),
  (52, 1, .iaload, 0, 0, 0, 0),
  (53, 2, .iload (4), 0, 0, 0, 0),
  (55, 3, .invokestatic (55), 0, 0, 0, 0),
  (58, 1, .iastore, 0, 0, 0, 0),
  (59, 3, .iinc (3) (1), 0, 0, 1, 0),
  (62, 3, .goto (-50), 12, 0, 0, 0),
  (65, 1, .aload_n (0), 0, 0, 0, 0),
  (66, 3, .invokevirtual (58), 0, 0, 0, 0),
  (69, 3, .ifCond .ne (23), 92, 0, 0, 0),
  (72, 1, .aload_n (0), 0, 0, 0, 0),
  (73, 3, .getfield (9), 2, 0, 0, 0),
  (76, 1, .aload_n (0), 0, 0, 0, 0),
  (77, 3, .getfield (40), 2, 7, 0, 0),
  (80, 1, .iload_n (1), 0, 0, 0, 0),
  (81, 1, .iastore, 0, 0, 0, 0),
  (82, 1, .aload_n (0), 0, 0, 0, 0),
  (83, 1, .dup, 0, 0, 0, 0),
  (84, 3, .getfield (40), 2, 7, 0, 0),
  (87, 1, .iconst (1), 0, 0, 1, 0),
  (88, 1, .iadd, 0, 0, 0, 0),
  (89, 3, .putfield (40), 2, 7, 0, 0),
  (92, 1, .return_, 0, 0, 0, 0)]
def md_Plan_offer : Md := (y_Plan_offer, prog_4_method_3_code, 5, none, pm_Plan_offer)
theorem tk_Plan_offer : Tm md_Plan_offer := tab_of (o := 2) (by decide +kernel)
set_option maxRecDepth 100000 in
theorem ok_Plan_offer : MdOk md_Plan_offer 2 ∧ Cond.instanceMethod md_Plan_offer.1 ∈ T1 ∧ Cond.selects md_Plan_offer.1.cls md_Plan_offer.1 md_Plan_offer.1 ∈ T1 := ⟨⟨T1_in3 (i := 235) rfl rfl, T1_in1 (i := 7) rfl rfl, by decide +kernel, ⟨by decide +kernel, by decide +kernel⟩, by decide +kernel, by decide⟩, T1_in3 (i := 233) rfl rfl, T1_in3 (i := 234) rfl rfl⟩
def pm_Plan_isNeedless : List PE := [(0, 1, .iconst (0), 0, 0, 0, 0),
  (1, 1, .istore_n (1), 0, 0, 0, 0),
  (2, 1, .iload_n (1), 0, 0, 0, 0),
  (3, 1, .aload_n (0), 0, 0, 0, 0),
  (4, 3, .getfield (40), 2, 7, 0, 0),
  (7, 3, .if_icmp .ge (61), 68, 0, 0, 0),
  (10, 1, .iconst (0), 0, 0, 0, 0),
  (11, 1, .istore_n (2), 0, 0, 0, 0),
  (12, 1, .iload_n (2), 0, 0, 0, 0),
  (13, 1, .aload_n (0), 0, 0, 0, 0),
  (14, 3, .getfield (36), 2, 8, 0, 0),
  (17, 3, .if_icmp .ge (35), 52, 0, 0, 0),
  (20, 1, .aload_n (0), 0, 0, 0, 0),
  (21, 3, .getfield (15), 2, 1, 0, 0),
  (24, 1, .iload_n (1), 0, 0, 0, 0),
  (25, 1, .iconst (5), 0, 0, 5, 0),
  (26, 1, .imul, 0, 0, 0, 0),
  (27, 1, .iload_n (2), 0, 0, 0, 0),
  (28, 1, .iadd, 0, 0, 0, 0),
  (29, 1, .iaload, 0, 0, 0, 0),
  (30, 1, .aload_n (0), 0, 0, 0, 0),
  (31, 3, .getfield (15), 2, 1, 0, 0),
  (34, 1, .aload_n (0), 0, 0, 0, 0),
  (35, 3, .getfield (40), 2, 7, 0, 0),
  (38, 1, .iconst (5), 0, 0, 5, 0),
  (39, 1, .imul, 0, 0, 0, 0),
  (40, 1, .iload_n (2), 0, 0, 0, 0),
  (41, 1, .iadd, 0, 0, 0, 0),
  (42, 1, .iaload, 0, 0, 0, 0),
  (43, 3, .if_icmp .lt (9), 52, 0, 0, 0),
  (46, 3, .iinc (2) (1), 0, 0, 1, 0),
  (49, 3, .goto (-37), 12, 0, 0, 0),
  (52, 1, .iload_n (2), 0, 0, 0, 0),
  (53, 1, .aload_n (0), 0, 0, 0, 0),
  (54, 3, .getfield (36), 2, 8, 0, 0),
  (57, 3, .if_icmp .ne (5), 62, 0, 0, 0),
  (60, 1, .iconst (1), 0, 0, 1, 0),
  (61, 1, .ireturn, 0, 0, 0, 0),
  (62, 3, .iinc (1) (1), 0, 0, 1, 0),
  (65, 3, .goto (-63), 2, 0, 0, 0),
  (68, 1, .iconst (0), 0, 0, 0, 0),
  (69, 1, .ireturn, 0, 0, 0, 0)]
def md_Plan_isNeedless : Md := (y_Plan_isNeedless, prog_4_method_4_code, 3, (some .boolean), pm_Plan_isNeedless)
theorem tk_Plan_isNeedless : Tm md_Plan_isNeedless := tab_of (o := 2) (by decide +kernel)
set_option maxRecDepth 100000 in
theorem ok_Plan_isNeedless : MdOk md_Plan_isNeedless 0 ∧ Cond.instanceMethod md_Plan_isNeedless.1 ∈ T1 ∧ Cond.selects md_Plan_isNeedless.1.cls md_Plan_isNeedless.1 md_Plan_isNeedless.1 ∈ T1 := ⟨⟨T1_in4 (i := 3) rfl rfl, T1_in1 (i := 7) rfl rfl, by decide +kernel, ⟨by decide +kernel, by decide +kernel⟩, by decide +kernel, by decide⟩, T1_in4 (i := 2) rfl rfl, T1_inP (i := 24) rfl⟩
def pm_Plan_choose : List PE := [(0, 1, .aload_n (0), 0, 0, 0, 0),
  (1, 1, .iconst (-1), 0, 0, (-1), 0),
  (2, 3, .putfield (62), 2, 6, 0, 0),
  (5, 1, .aload_n (0), 0, 0, 0, 0),
  (6, 3, .getfield (21), 2, 3, 0, 0),
  (9, 1, .iconst (0), 0, 0, 0, 0),
  (10, 3, .invokestatic (43), 0, 0, 0, 0),
  (13, 1, .aload_n (0), 0, 0, 0, 0),
  (14, 1, .iconst (0), 0, 0, 0, 0),
  (15, 1, .iconst (0), 0, 0, 0, 0),
  (16, 1, .iload_n (1), 0, 0, 0, 0),
  (17, 1, .iconst (3), 0, 0, 3, 0),
  (18, 3, .invokestatic (30), 0, 0, 0, 0),
  (21, 3, .invokevirtual (65), 0, 0, 0, 0),
  (24, 1, .aload_n (0), 0, 0, 0, 0),
  (25, 3, .getfield (62), 2, 6, 0, 0),
  (28, 1, .ireturn, 0, 0, 0, 0)]
def md_Plan_choose : Md := (y_Plan_choose, prog_4_method_5_code, 2, (some .int), pm_Plan_choose)
theorem tk_Plan_choose : Tm md_Plan_choose := tab_of (o := 2) (by decide +kernel)
set_option maxRecDepth 100000 in
theorem ok_Plan_choose : MdOk md_Plan_choose 1 ∧ Cond.instanceMethod md_Plan_choose.1 ∈ T1 ∧ Cond.selects md_Plan_choose.1.cls md_Plan_choose.1 md_Plan_choose.1 ∈ T1 := ⟨⟨T1_in4 (i := 7) rfl rfl, T1_in1 (i := 7) rfl rfl, by decide +kernel, ⟨by decide +kernel, by decide +kernel⟩, by decide +kernel, by decide⟩, T1_in4 (i := 5) rfl rfl, T1_in4 (i := 6) rfl rfl⟩
def pm_Plan_chooseFrom : List PE := [(0, 1, .aload_n (0), 0, 0, 0, 0),
  (1, 1, .iload_n (2), 0, 0, 0, 0),
  (2, 1, .iload_n (3), 0, 0, 0, 0),
  (3, 3, .invokevirtual (69), 0, 0, 0, 0),
  (6, 2, .istore (4), 0, 0, 0, 0),
  (8, 2, .iload (4), 0, 0, 0, 0),
  (10, 1, .aload_n (0), 0, 0, 0, 0),
  (11, 3, .getfield (62), 2, 6, 0, 0),
  (14, 3, .if_icmp .gt (4), 18, 0, 0, 0),
  (17, 1, .return_, 0, 0, 0, 0),
  (18, 1, .iload_n (2), 0, 0, 0, 0),
  (19, 1, .iload_n (3), 0, 0, 0, 0),
  (20, 3, .if_icmp .lt (24), 44, 0, 0, 0),
  (23, 1, .aload_n (0), 0, 0, 0, 0),
  (24, 2, .iload (4), 0, 0, 0, 0),
  (26, 3, .putfield (62), 2, 6, 0, 0),
  (29, 1, .aload_n (0), 0, 0, 0, 0),
  (30, 3, .getfield (24), 2, 4, 0, 0),
  (33, 1, .iconst (0), 0, 0, 0, 0),
  (34, 1, .aload_n (0), 0, 0, 0, 0),
  (35, 3, .getfield (27), 2, 5, 0, 0),
  (38, 1, .iconst (0), 0, 0, 0, 0),
  (39, 1, .iload_n (3), 0, 0, 0, 0),
  (40, 3, .invokestatic (72), 0, 0, 0, 0),
  (43, 1, .return_, 0, 0, 0, 0),
  (44, 1, .iload_n (2), 0, 0, 0, 0),
  (45, 1, .iconst (5), 0, 0, 5, 0),
  (46, 1, .imul, 0, 0, 0, 0),
  (47, 2, .istore (5), 0, 0, 0, 0),
  (49, 1, .iload_n (1), 0, 0, 0, 0),
  (50, 2, .istore (6), 0, 0, 0, 0),
  (52, 2, .iload (6), 0, 0, 0, 0),
  (54, 1, .aload_n (0), 0, 0, 0, 0),
  (55, 3, .getfield (40), 2, 7, 0, 0),
  (58, 3, .if_icmp .ge (80), 138, 0, 0, 0),
  (61, 1, .iconst (0), 0, 0, 0, 0),
  (62, 2, .istore (7), 0, 0, 0, 0),
  (64, 2, .iload (7), 0, 0, 0, 0),
  (66, 1, .aload_n (0), 0, 0, 0, 0),
  (67, 3, .getfield (36), 2, 8, 0, 0),
  (70, 3, .if_icmp .ge (44), 114, 0, 0, 0),
  (73, 1, .aload_n (0), 0, 0, 0, 0),
  (74, 3, .getfield (21), 2, 3, 0, 0),
  (77, 2, .iload (5), 0, 0, 0, 0),
  (79, 1, .iconst (5), 0, 0, 5, 0),
  (80, 1, .iadd, 0, 0, 0, 0),
  (81, 2, .iload (7), 0, 0, 0, 0),
  (83, 1, .iadd, 0, 0, 0, 0),
  (84, 1, .aload_n (0), 0, 0, 0, 0),
  (85, 3, .getfield (21), 2, 3, 0, 0),
  (88, 2, .iload (5), 0, 0, 0, 0),
  (90, 2, .iload (7), 0, 0, 0, 0),
  (92, 1, .iadd, 0, 0, 0, 0),
  (93, 1, .iaload, 0, 0, 0, 0),
  (94, 1, .aload_n (0), 0, 0, 0, 0),
  (95, 3, .getfield (15), 2, 1, 0, 0),
  (98, 2, .iload (6), 0, 0, 0, 0),
  (100, 1, .iconst (5), 0, 0, 5, 0),
  (101, 1, .imul, 0, 0, 0, 0),
  (102, 2, .iload (7), 0, 0, 0, 0),
  (104, 1, .iadd, 0, 0, 0, 0),
  (105, 1, .iaload, 0, 0, 0, 0),
  (106, 1, .iadd, 0, 0, 0, 0),
  (107, 1, .iastore, 0, 0, 0, 0),
  (108, 3, .iinc (7) (1), 0, 0, 1, 0),
  (111, 3, .goto (-47), 64, 0, 0, 0),
  (114, 1, .aload_n (0), 0, 0, 0, 0),
  (115, 3, .getfield (24), 2, 4, 0, 0),
  (118, 1, .iload_n (2), 0, 0, 0, 0),
  (119, 2, .iload (6), 0, 0, 0, 0),
  (121, 1, .iastore, 0, 0, 0, 0),
  (122, 1, .aload_n (0), 0, 0, 0, 0),
  (123, 2, .iload (6), 0, 0, 0, 0),
  (125, 1, .iload_n (2), 0, 0, 0, 0),
  (126, 1, .iconst (1), 0, 0, 1, 0),
  (127, 1, .iadd, 0, 0, 0, 0),
  (128, 1, .iload_n (3), 0, 0, 0, 0),
  (129, 3, .invokevirtual (65), 0, 0, 0, 0),
  (132, 3, .iinc (6) (1), 0, 0, 1, 0),
  (135, 3, .goto (-83), 52, 0, 0, 0),
  (138, 1, .return_, 0, 0, 0, 0)]
def md_Plan_chooseFrom : Md := (y_Plan_chooseFrom, prog_4_method_6_code, 8, none, pm_Plan_chooseFrom)
theorem tk_Plan_chooseFrom : Tm md_Plan_chooseFrom := tab_of (o := 2) (by decide +kernel)
set_option maxRecDepth 100000 in
theorem ok_Plan_chooseFrom : MdOk md_Plan_chooseFrom 3 ∧ Cond.instanceMethod md_Plan_chooseFrom.1 ∈ T1 ∧ Cond.selects md_Plan_chooseFrom.1.cls md_Plan_chooseFrom.1 md_Plan_chooseFrom.1 ∈ T1 := ⟨⟨T1_in4 (i := 11) rfl rfl, T1_in1 (i := 7) rfl rfl, by decide +kernel, ⟨by decide +kernel, by decide +kernel⟩, by decide +kernel, by decide⟩, T1_in4 (i := 10) rfl rfl, T1_inP (i := 25) rfl⟩
def pm_Plan_bound : List PE := [(0, 2, .bipush (24), 0, 0, 24, 0),
  (2, 1, .istore_n (3), 0, 0, 0, 0),
  (3, 1, .iconst (0), 0, 0, 0, 0),
  (4, 2, .istore (4), 0, 0, 0, 0),
  (6, 2, .iload (4), 0, 0, 0, 0),
  (8, 1, .aload_n (0), 0, 0, 0, 0),
  (9, 3, .getfield (36), 2, 8, 0, 0),
  (12, 3, .if_icmp .ge (41), 53, 0, 0, 0),
  (15, 1, .aload_n (0), 0, 0, 0, 0),
  (16, 3, .getfield (21), 2, 3, 0, 0),
  (19, 1, .iload_n (1), 0, 0, 0, 0),
  (20, 1, .iconst (5), 0, 0, 5, 0),
  (21, 1, .imul, 0, 0, 0, 0),
  (22, 2, .iload (4), 0, 0, 0, 0),
  (24, 1, .iadd, 0, 0, 0, 0),
  (25, 1, .iaload, 0, 0, 0, 0),
  (26, 1, .iload_n (2), 0, 0, 0, 0),
  (27, 1, .iload_n (1), 0, 0, 0, 0),
  (28, 1, .isub, 0, 0, 0, 0),
  (29, 1, .aload_n (0), 0, 0, 0, 0),
  (30, 3, .getfield (18), 2, 2, 0, 0),
  (33, 2, .iload (4), 0, 0, 0, 0),
  (35, 1, .iaload, 0, 0, 0, 0),
  (36, 1, .imul, 0, 0, 0, 0),
  (37, 1, .iadd, 0, 0, 0, 0),
  (38, 2, .istore (5), 0, 0, 0, 0),
  (40, 1, .iload_n (3), 0, 0, 0, 0),
  (41, 2, .iload (5), 0, 0, 0, 0),
  (43, 3, .invokestatic (30), 0, 0, 0, 0),
  (46, 1, .istore_n (3), 0, 0, 0, 0),
  (47, 3, .iinc (4) (1), 0, 0, 1, 0),
  (50, 3, .goto (-44), 6, 0, 0, 0),
  (53, 1, .iload_n (3), 0, 0, 0, 0),
  (54, 1, .ireturn, 0, 0, 0, 0)]
def md_Plan_bound : Md := (y_Plan_bound, prog_4_method_7_code, 6, (some .int), pm_Plan_bound)
theorem tk_Plan_bound : Tm md_Plan_bound := tab_of (o := 2) (by decide +kernel)
set_option maxRecDepth 100000 in
theorem ok_Plan_bound : MdOk md_Plan_bound 2 ∧ Cond.instanceMethod md_Plan_bound.1 ∈ T1 ∧ Cond.selects md_Plan_bound.1.cls md_Plan_bound.1 md_Plan_bound.1 ∈ T1 := ⟨⟨T1_in4 (i := 15) rfl rfl, T1_in1 (i := 7) rfl rfl, by decide +kernel, ⟨by decide +kernel, by decide +kernel⟩, by decide +kernel, by decide⟩, T1_in4 (i := 14) rfl rfl, T1_inP (i := 26) rfl⟩
def pm_Plan_writeTo : List PE := [(0, 1, .aload_n (1), 0, 0, 0, 0),
  (1, 1, .iload_n (2), 0, 0, 0, 0),
  (2, 1, .iload_n (3), 0, 0, 0, 0),
  (3, 1, .iconst (0), 0, 0, 0, 0),
  (4, 3, .invokevirtual (78), 0, 0, 0, 0),
  (7, 1, .iconst (0), 0, 0, 0, 0),
  (8, 2, .istore (4), 0, 0, 0, 0),
  (10, 2, .iload (4), 0, 0, 0, 0),
  (12, 1, .iload_n (3), 0, 0, 0, 0),
  (13, 3, .if_icmp .ge (34), 47, 0, 0, 0),
  (16, 2, .iload (4), 0, 0, 0, 0),
  (18, 1, .iconst (3), 0, 0, 3, 0),
  (19, 3, .if_icmp .ge (28), 47, 0, 0, 0),
  (22, 1, .aload_n (1), 0, 0, 0, 0),
  (23, 1, .iload_n (2), 0, 0, 0, 0),
  (24, 2, .iload (4), 0, 0, 0, 0),
  (26, 1, .aload_n (0), 0, 0, 0, 0),
  (27, 3, .getfield (9), 2, 0, 0, 0),
  (30, 1, .aload_n (0), 0, 0, 0, 0),
  (31, 3, .getfield (27), 2, 5, 0, 0),
  (34, 2, .iload (4), 0, 0, 0, 0),
  (36, 1, .iaload, 0, 0, 0, 0),
  (37, 1, .iaload, 0, 0, 0, 0),
  (38, 3, .invokevirtual (83), 0, 0, 0, 0),
  (41, 3, .iinc (4) (1), 0, 0, 1, 0),
  (44, 3, .goto (-34), 10, 0, 0, 0),
  (47, 1, .return_, 0, 0, 0, 0)]
def md_Plan_writeTo : Md := (y_Plan_writeTo, prog_4_method_8_code, 5, none, pm_Plan_writeTo)
theorem tk_Plan_writeTo : Tm md_Plan_writeTo := tab_of (o := 2) (by decide +kernel)
set_option maxRecDepth 100000 in
theorem ok_Plan_writeTo : MdOk md_Plan_writeTo 3 ∧ Cond.instanceMethod md_Plan_writeTo.1 ∈ T1 ∧ Cond.selects md_Plan_writeTo.1.cls md_Plan_writeTo.1 md_Plan_writeTo.1 ∈ T1 := ⟨⟨T1_in4 (i := 20) rfl rfl, T1_in1 (i := 7) rfl rfl, by decide +kernel, ⟨by decide +kernel, by decide +kernel⟩, by decide +kernel, by decide⟩, T1_in4 (i := 18) rfl rfl, T1_in4 (i := 19) rfl rfl⟩
def pm_Tent_nth : List PE := [(0, 1, .iload_n (1), 0, 0, 0, 0),
  (1, 3, .ifCond .ge (5), 6, 0, 0, 0),
  (4, 1, .iconst (-1), 0, 0, (-1), 0),
  (5, 1, .ireturn, 0, 0, 0, 0),
  (6, 1, .aload_n (0), 0, 0, 0, 0),
  (7, 1, .iload_n (2), 0, 0, 0, 0),
  (8, 3, .invokevirtual (263), 0, 0, 0, 0),
  (11, 1, .istore_n (3), 0, 0, 0, 0),
  (12, 1, .iload_n (3), 0, 0, 0, 0),
  (13, 3, .ifCond .eq (5), 18, 0, 0, 0),
  (16, 1, .iload_n (3), 0, 0, 0, 0),
  (17, 1, .ireturn, 0, 0, 0, 0),
  (18, 1, .iload_n (1), 0, 0, 0, 0),
  (19, 1, .aload_n (0), 0, 0, 0, 0),
  (20, 3, .getfield (26), 5, 2, 0, 0),
  (23, 3, .getfield (130), 0, 10, 0, 0),
  (26, 3, .invokestatic (283), 0, 0, 0, 0),
  (29, 3, .if_icmp .lt (9), 38, 0, 0, 0),
  (32, 1, .aload_n (0), 0, 0, 0, 0),
  (33, 1, .iconst (4), 0, 0, 4, 0),
  (34, 3, .invokevirtual (97), 0, 0, 0, 0),
  (37, 1, .ireturn, 0, 0, 0, 0),
  (38, 1, .aload_n (0), 0, 0, 0, 0),
  (39, 3, .getfield (47), 5, 6, 0, 0),
  (42, 1, .aload_n (0), 0, 0, 0, 0),
  (43, 3, .getfield (26), 5, 2, 0, 0),
  (46, 3, .getfield (130), 0, 10, 0, 0),
  (49, 1, .iload_n (1), 0, 0, 0, 0),
  (50, 3, .invokevirtual (286), 0, 0, 0, 0),
  (53, 1, .aload_n (0), 0, 0, 0, 0),
  (54, 3, .getfield (47), 5, 6, 0, 0),
  (57, 1, .aload_n (0), 0, 0, 0, 0),
  (58, 3, .getfield (14), 5, 0, 0, 0),
  (61, 1, .iload_n (2), 0, 0, 0, 0),
  (62, 3, .invokevirtual (289), 0, 0, 0, 0),
  (65, 1, .iconst (1), 0, 0, 1, 0),
  (66, 1, .ireturn, 0, 0, 0, 0)]
def md_Tent_nth : Md := (y_Tent_nth, prog_1_method_39_code, 4, (some .int), pm_Tent_nth)
theorem tk_Tent_nth : Tm md_Tent_nth := tab_of (o := 5) (by decide +kernel)
set_option maxRecDepth 100000 in
theorem ok_Tent_nth : MdOk md_Tent_nth 2 ∧ Cond.instanceMethod md_Tent_nth.1 ∈ T1 ∧ Cond.selects md_Tent_nth.1.cls md_Tent_nth.1 md_Tent_nth.1 ∈ T1 := ⟨⟨T1_in4 (i := 26) rfl rfl, T1_in1 (i := 1) rfl rfl, by decide +kernel, ⟨by decide +kernel, by decide +kernel⟩, by decide +kernel, by decide⟩, T1_in4 (i := 24) rfl rfl, T1_in4 (i := 25) rfl rfl⟩
def pm_Tent_out : List PE := [(0, 1, .aload_n (0), 0, 0, 0, 0),
  (1, 3, .getfield (26), 5, 2, 0, 0),
  (4, 1, .iload_n (1), 0, 0, 0, 0),
  (5, 3, .invokevirtual (133), 0, 0, 0, 0),
  (8, 3, .ifCond .ne (5), 13, 0, 0, 0),
  (11, 1, .iconst (-1), 0, 0, (-1), 0),
  (12, 1, .ireturn, 0, 0, 0, 0),
  (13, 1, .iconst (0), 0, 0, 0, 0),
  (14, 1, .istore_n (2), 0, 0, 0, 0),
  (15, 1, .iconst (0), 0, 0, 0, 0),
  (16, 1, .istore_n (3), 0, 0, 0, 0),
  (17, 1, .iload_n (3), 0, 0, 0, 0),
  (18, 1, .aload_n (0), 0, 0, 0, 0),
  (19, 3, .getfield (26), 5, 2, 0, 0),
  (22, 3, .getfield (173), 0, 4, 0, 0),
  (25, 1, .iload_n (1), 0, 0, 0, 0),
  (26, 1, .iaload, 0, 0, 0, 0),
  (27, 3, .if_icmp .ge (41), 68, 0, 0, 0),
  (30, 1, .aload_n (0), 0, 0, 0, 0),
  (31, 3, .getfield (26), 5, 2, 0, 0),
  (34, 3, .getfield (292), 0, 5, 0, 0),
  (37, 1, .iload_n (3), 0, 0, 0, 0),
  (38, 1, .iaload, 0, 0, 0, 0),
  (39, 2, .istore (4), 0, 0, 0, 0),
  (41, 1, .aload_n (0), 0, 0, 0, 0),
  (42, 3, .getfield (26), 5, 2, 0, 0),
  (45, 3, .getfield (139), 0, 1, 0, 0),
  (48, 2, .iload (4), 0, 0, 0, 0),
  (50, 1, .iaload, 0, 0, 0, 0),
  (51, 1, .iconst (5), 0, 0, 5, 0),
  (52, 3, .if_icmp .eq (10), 62, 0, 0, 0),
  (55, 1, .iload_n (2), 0, 0, 0, 0),
  (56, 1, .iconst (1), 0, 0, 1, 0),
  (57, 2, .iload (4), 0, 0, 0, 0),
  (59, 1, .ishl, 0, 0, 0, 0),
  (60, 1, .ior, 0, 0, 0, 0),
  (61, 1, .istore_n (2), 0, 0, 0, 0),
  (62, 3, .iinc (3) (1), 0, 0, 1, 0),
  (65, 3, .goto (-48), 17, 0, 0, 0),
  (68, 1, .aload_n (0), 0, 0, 0, 0),
  (69, 1, .iload_n (2), 0, 0, 0, 0),
  (70, 3, .putfield (78), 5, 10, 0, 0),
  (73, 1, .aload_n (0), 0, 0, 0, 0),
  (74, 3, .getfield (26), 5, 2, 0, 0),
  (77, 3, .getfield (173), 0, 4, 0, 0),
  (80, 1, .iload_n (1), 0, 0, 0, 0),
  (81, 1, .iaload, 0, 0, 0, 0),
  (82, 1, .ireturn, 0, 0, 0, 0)]
def md_Tent_out : Md := (y_Tent_out, prog_1_method_40_code, 5, (some .int), pm_Tent_out)
theorem tk_Tent_out : Tm md_Tent_out := tab_of (o := 5) (by decide +kernel)
set_option maxRecDepth 100000 in
theorem ok_Tent_out : MdOk md_Tent_out 1 ∧ Cond.instanceMethod md_Tent_out.1 ∈ T1 ∧ Cond.selects md_Tent_out.1.cls md_Tent_out.1 md_Tent_out.1 ∈ T1 := ⟨⟨T1_in4 (i := 31) rfl rfl, T1_in1 (i := 1) rfl rfl, by decide +kernel, ⟨by decide +kernel, by decide +kernel⟩, by decide +kernel, by decide⟩, T1_in4 (i := 29) rfl rfl, T1_in4 (i := 30) rfl rfl⟩
def pm_Tent_whose : List PE := [(0, 1, .aload_n (0), 0, 0, 0, 0),
  (1, 1, .iload_n (1), 0, 0, 0, 0),
  (2, 3, .invokevirtual (186), 0, 0, 0, 0),
  (5, 1, .istore_n (2), 0, 0, 0, 0),
  (6, 1, .iload_n (2), 0, 0, 0, 0),
  (7, 3, .ifCond .eq (5), 12, 0, 0, 0),
  (10, 1, .iload_n (2), 0, 0, 0, 0),
  (11, 1, .ireturn, 0, 0, 0, 0),
  (12, 1, .iconst (0), 0, 0, 0, 0),
  (13, 1, .istore_n (3), 0, 0, 0, 0),
  (14, 1, .iload_n (3), 0, 0, 0, 0),
  (15, 1, .aload_n (0), 0, 0, 0, 0),
  (16, 3, .getfield (26), 5, 2, 0, 0),
  (19, 3, .getfield (130), 0, 10, 0, 0),
  (22, 3, .if_icmp .ge (44), 66, 0, 0, 0),
  (25, 1, .aload_n (0), 0, 0, 0, 0),
  (26, 3, .getfield (14), 5, 0, 0, 0),
  (29, 1, .iload_n (1), 0, 0, 0, 0),
  (30, 1, .iload_n (3), 0, 0, 0, 0),
  (31, 3, .invokevirtual (74), 0, 0, 0, 0),
  (34, 2, .istore (4), 0, 0, 0, 0),
  (36, 2, .iload (4), 0, 0, 0, 0),
  (38, 3, .ifCond .eq (22), 60, 0, 0, 0),
  (41, 2, .iload (4), 0, 0, 0, 0),
  (43, 1, .iconst (1), 0, 0, 1, 0),
  (44, 3, .if_icmp .eq (16), 60, 0, 0, 0),
  (47, 2, .iload (4), 0, 0, 0, 0),
  (49, 2, .bipush (-9), 0, 0, (-9), 0),
  (51, 3, .if_icmp .eq (9), 60, 0, 0, 0),
  (54, 1, .aload_n (0), 0, 0, 0, 0),
  (55, 1, .iconst (3), 0, 0, 3, 0),
  (56, 3, .invokevirtual (97), 0, 0, 0, 0),
  (59, 1, .ireturn, 0, 0, 0, 0),
  (60, 3, .iinc (3) (1), 0, 0, 1, 0),
  (63, 3, .goto (-49), 14, 0, 0, 0),
  (66, 1, .aload_n (0), 0, 0, 0, 0),
  (67, 1, .aload_n (0), 0, 0, 0, 0),
  (68, 1, .iload_n (1), 0, 0, 0, 0),
  (69, 1, .iconst (4), 0, 0, 4, 0),
  (70, 3, .invokestatic (295), 0, 0, 0, 0),
  (73, 3, .invokevirtual (298), 0, 0, 0, 0),
  (76, 3, .putfield (78), 5, 10, 0, 0),
  (79, 1, .aload_n (0), 0, 0, 0, 0),
  (80, 1, .iload_n (1), 0, 0, 0, 0),
  (81, 1, .iconst (1), 0, 0, 1, 0),
  (82, 3, .invokestatic (295), 0, 0, 0, 0),
  (85, 3, .invokevirtual (298), 0, 0, 0, 0),
  (88, 1, .ireturn, 0, 0, 0, 0)]
def md_Tent_whose : Md := (y_Tent_whose, prog_1_method_41_code, 5, (some .int), pm_Tent_whose)
theorem tk_Tent_whose : Tm md_Tent_whose := tab_of (o := 5) (by decide +kernel)
set_option maxRecDepth 100000 in
theorem ok_Tent_whose : MdOk md_Tent_whose 1 ∧ Cond.instanceMethod md_Tent_whose.1 ∈ T1 ∧ Cond.selects md_Tent_whose.1.cls md_Tent_whose.1 md_Tent_whose.1 ∈ T1 := ⟨⟨T1_in4 (i := 35) rfl rfl, T1_in1 (i := 1) rfl rfl, by decide +kernel, ⟨by decide +kernel, by decide +kernel⟩, by decide +kernel, by decide⟩, T1_in4 (i := 33) rfl rfl, T1_in4 (i := 34) rfl rfl⟩
def pm_Tent_suspects : List PE := [(0, 1, .iconst (0), 0, 0, 0, 0),
  (1, 1, .istore_n (3), 0, 0, 0, 0),
  (2, 1, .iconst (0), 0, 0, 0, 0),
  (3, 2, .istore (4), 0, 0, 0, 0),
  (5, 2, .iload (4), 0, 0, 0, 0),
  (7, 1, .aload_n (0), 0, 0, 0, 0),
  (8, 3, .getfield (26), 5, 2, 0, 0),
  (11, 3, .getfield (130), 0, 10, 0, 0),
  (14, 3, .if_icmp .ge (27), 41, 0, 0, 0),
  (17, 1, .aload_n (0), 0, 0, 0, 0),
  (18, 1, .iload_n (1), 0, 0, 0, 0),
  (19, 2, .iload (4), 0, 0, 0, 0),
  (21, 1, .iload_n (2), 0, 0, 0, 0),
  (22, 3, .invokevirtual (347), 0, 0, 0, 0),
  (25, 3, .ifCond .eq (10), 35, 0, 0, 0),
  (28, 1, .iload_n (3), 0, 0, 0, 0),
  (29, 1, .iconst (1), 0, 0, 1, 0),
  (30, 2, .iload (4), 0, 0, 0, 0),
  (32, 1, .ishl, 0, 0, 0, 0),
  (33, 1, .ior, 0, 0, 0, 0),
  (34, 1, .istore_n (3), 0, 0, 0, 0),
  (35, 3, .iinc (4) (1), 0, 0, 1, 0),
  (38, 3, .goto (-33), 5, 0, 0, 0),
  (41, 1, .iload_n (3), 0, 0, 0, 0),
  (42, 1, .ireturn, 0, 0, 0, 0)]
def md_Tent_suspects : Md := (y_Tent_suspects, prog_1_method_63_code, 5, (some .int), pm_Tent_suspects)
theorem tk_Tent_suspects : Tm md_Tent_suspects := tab_of (o := 5) (by decide +kernel)
set_option maxRecDepth 100000 in
theorem ok_Tent_suspects : MdOk md_Tent_suspects 2 ∧ Cond.instanceMethod md_Tent_suspects.1 ∈ T1 ∧ Cond.selects md_Tent_suspects.1.cls md_Tent_suspects.1 md_Tent_suspects.1 ∈ T1 := ⟨⟨T1_in4 (i := 40) rfl rfl, T1_in1 (i := 1) rfl rfl, by decide +kernel, ⟨by decide +kernel, by decide +kernel⟩, by decide +kernel, by decide⟩, T1_in4 (i := 39) rfl rfl, T1_inP (i := 27) rfl⟩
def pm_Tent_fitsWhatWasHeard : List PE := [(0, 1, .iconst (0), 0, 0, 0, 0),
  (1, 2, .istore (4), 0, 0, 0, 0),
  (3, 2, .iload (4), 0, 0, 0, 0),
  (5, 1, .aload_n (0), 0, 0, 0, 0),
  (6, 3, .getfield (26), 5, 2, 0, 0),
  (9, 3, .getfield (130), 0, 10, 0, 0),
  (12, 3, .if_icmp .ge (66), 78, 0, 0, 0),
  (15, 1, .aload_n (0), 0, 0, 0, 0),
  (16, 3, .getfield (14), 5, 0, 0, 0),
  (19, 1, .iload_n (1), 0, 0, 0, 0),
  (20, 2, .iload (4), 0, 0, 0, 0),
  (22, 3, .invokevirtual (74), 0, 0, 0, 0),
  (25, 2, .istore (5), 0, 0, 0, 0),
  (27, 1, .aload_n (0), 0, 0, 0, 0),
  (28, 3, .getfield (26), 5, 2, 0, 0),
  (31, 1, .aload_n (0), 0, 0, 0, 0),
  (32, 3, .getfield (26), 5, 2, 0, 0),
  (35, 3, .getfield (292), 0, 5, 0, 0),
  (38, 2, .iload (4), 0, 0, 0, 0),
  (40, 1, .iaload, 0, 0, 0, 0),
  (41, 1, .iload_n (2), 0, 0, 0, 0),
  (42, 1, .iload_n (3), 0, 0, 0, 0),
  (43, 3, .invokevirtual (350), 0, 0, 0, 0),
  (46, 3, .ifCond .eq (7), 53, 0, 0, 0),
  (49, 1, .iconst (1), 0, 0, 1, 0),
  (50, 3, .goto (4), 54, 0, 0, 0),
  (53, 1, .iconst (0), 0, 0, 0, 0),
  (54, 2, .istore (6), 0, 0, 0, 0),
  (56, 2, .iload (5), 0, 0, 0, 0),
  (58, 2, .bipush (-9), 0, 0, (-9), 0),
  (60, 3, .if_icmp .eq (12), 72, 0, 0, 0),
  (63, 2, .iload (5), 0, 0, 0, 0),
  (65, 2, .iload (6), 0, 0, 0, 0),
  (67, 3, .if_icmp .eq (5), 72, 0, 0, 0),
  (70, 1, .iconst (0), 0, 0, 0, 0),
  (71, 1, .ireturn, 0, 0, 0, 0),
  (72, 3, .iinc (4) (1), 0, 0, 1, 0),
  (75, 3, .goto (-72), 3, 0, 0, 0),
  (78, 1, .iconst (1), 0, 0, 1, 0),
  (79, 1, .ireturn, 0, 0, 0, 0)]
def md_Tent_fitsWhatWasHeard : Md := (y_Tent_fitsWhatWasHeard, prog_1_method_64_code, 7, (some .boolean), pm_Tent_fitsWhatWasHeard)
theorem tk_Tent_fitsWhatWasHeard : Tm md_Tent_fitsWhatWasHeard := tab_of (o := 5) (by decide +kernel)
set_option maxRecDepth 100000 in
theorem ok_Tent_fitsWhatWasHeard : MdOk md_Tent_fitsWhatWasHeard 3 ∧ Cond.instanceMethod md_Tent_fitsWhatWasHeard.1 ∈ T1 ∧ Cond.selects md_Tent_fitsWhatWasHeard.1.cls md_Tent_fitsWhatWasHeard.1 md_Tent_fitsWhatWasHeard.1 ∈ T1 := ⟨⟨T1_in4 (i := 44) rfl rfl, T1_in1 (i := 1) rfl rfl, by decide +kernel, ⟨by decide +kernel, by decide +kernel⟩, by decide +kernel, by decide⟩, T1_in4 (i := 43) rfl rfl, T1_inP (i := 28) rfl⟩
def pm_Tent_kinds : List PE := [(0, 1, .aload_n (0), 0, 0, 0, 0),
  (1, 3, .getfield (26), 5, 2, 0, 0),
  (4, 1, .iload_n (1), 0, 0, 0, 0),
  (5, 3, .invokevirtual (133), 0, 0, 0, 0),
  (8, 3, .ifCond .ne (5), 13, 0, 0, 0),
  (11, 1, .iconst (-1), 0, 0, (-1), 0),
  (12, 1, .ireturn, 0, 0, 0, 0),
  (13, 1, .aload_n (0), 0, 0, 0, 0),
  (14, 3, .getfield (34), 5, 4, 0, 0),
  (17, 1, .aload_n (0), 0, 0, 0, 0),
  (18, 3, .getfield (26), 5, 2, 0, 0),
  (21, 3, .invokevirtual (239), 0, 0, 0, 0),
  (24, 1, .iconst (0), 0, 0, 0, 0),
  (25, 1, .istore_n (3), 0, 0, 0, 0),
  (26, 1, .iconst (0), 0, 0, 0, 0),
  (27, 2, .istore (4), 0, 0, 0, 0),
  (29, 2, .iload (4), 0, 0, 0, 0),
  (31, 2, .bipush (6), 0, 0, 6, 0),
  (33, 3, .if_icmp .ge (38), 71, 0, 0, 0),
  (36, 1, .aload_n (0), 0, 0, 0, 0),
  (37, 3, .getfield (34), 5, 4, 0, 0),
  (40, 3, .getfield (139), 0, 1, 0, 0),
  (43, 1, .iload_n (1), 0, 0, 0, 0),
  (44, 2, .iload (4), 0, 0, 0, 0),
  (46, 1, .iastore, 0, 0, 0, 0),
  (47, 1, .aload_n (0), 0, 0, 0, 0),
  (48, 3, .getfield (34), 5, 4, 0, 0),
  (51, 3, .invokevirtual (251), 0, 0, 0, 0),
  (54, 1, .iload_n (2), 0, 0, 0, 0),
  (55, 3, .if_icmp .ne (10), 65, 0, 0, 0),
  (58, 1, .iload_n (3), 0, 0, 0, 0),
  (59, 1, .iconst (1), 0, 0, 1, 0),
  (60, 2, .iload (4), 0, 0, 0, 0),
  (62, 1, .ishl, 0, 0, 0, 0),
  (63, 1, .ior, 0, 0, 0, 0),
  (64, 1, .istore_n (3), 0, 0, 0, 0),
  (65, 3, .iinc (4) (1), 0, 0, 1, 0),
  (68, 3, .goto (-39), 29, 0, 0, 0),
  (71, 1, .iload_n (3), 0, 0, 0, 0),
  (72, 1, .ireturn, 0, 0, 0, 0)]
def md_Tent_kinds : Md := (y_Tent_kinds, prog_1_method_42_code, 5, (some .int), pm_Tent_kinds)
theorem tk_Tent_kinds : Tm md_Tent_kinds := tab_of (o := 5) (by decide +kernel)
set_option maxRecDepth 100000 in
theorem ok_Tent_kinds : MdOk md_Tent_kinds 2 ∧ Cond.instanceMethod md_Tent_kinds.1 ∈ T1 ∧ Cond.selects md_Tent_kinds.1.cls md_Tent_kinds.1 md_Tent_kinds.1 ∈ T1 := ⟨⟨T1_in4 (i := 49) rfl rfl, T1_in1 (i := 1) rfl rfl, by decide +kernel, ⟨by decide +kernel, by decide +kernel⟩, by decide +kernel, by decide⟩, T1_in4 (i := 47) rfl rfl, T1_in4 (i := 48) rfl rfl⟩
def pm_Tent_odds : List PE := [(0, 1, .aload_n (0), 0, 0, 0, 0),
  (1, 3, .getfield (26), 5, 2, 0, 0),
  (4, 1, .iload_n (1), 0, 0, 0, 0),
  (5, 3, .invokevirtual (133), 0, 0, 0, 0),
  (8, 3, .ifCond .eq (20), 28, 0, 0, 0),
  (11, 1, .iload_n (2), 0, 0, 0, 0),
  (12, 3, .invokestatic (221), 0, 0, 0, 0),
  (15, 3, .ifCond .eq (13), 28, 0, 0, 0),
  (18, 1, .iload_n (3), 0, 0, 0, 0),
  (19, 3, .ifCond .lt (9), 28, 0, 0, 0),
  (22, 1, .iload_n (3), 0, 0, 0, 0),
  (23, 2, .bipush (12), 0, 0, 12, 0),
  (25, 3, .if_icmp .le (5), 30, 0, 0, 0),
  (28, 1, .iconst (-1), 0, 0, (-1), 0),
  (29, 1, .ireturn, 0, 0, 0, 0),
  (30, 1, .aload_n (0), 0, 0, 0, 0),
  (31, 3, .getfield (26), 5, 2, 0, 0),
  (34, 1, .iload_n (1), 0, 0, 0, 0),
  (35, 1, .iload_n (2), 0, 0, 0, 0),
  (36, 3, .invokevirtual (227), 0, 0, 0, 0),
  (39, 3, .ifCond .eq (12), 51, 0, 0, 0),
  (42, 1, .aload_n (0), 0, 0, 0, 0),
  (43, 1, .iconst (0), 0, 0, 0, 0),
  (44, 1, .iconst (1), 0, 0, 1, 0),
  (45, 3, .invokevirtual (301), 0, 0, 0, 0),
  (48, 3, .goto (19), 67, 0, 0, 0),
  (51, 1, .aload_n (0), 0, 0, 0, 0),
  (52, 2, .bipush (12), 0, 0, 12, 0),
  (54, 1, .iload_n (3), 0, 0, 0, 0),
  (55, 1, .isub, 0, 0, 0, 0),
  (56, 1, .aload_n (0), 0, 0, 0, 0),
  (57, 3, .getfield (26), 5, 2, 0, 0),
  (60, 1, .iload_n (1), 0, 0, 0, 0),
  (61, 3, .invokevirtual (304), 0, 0, 0, 0),
  (64, 3, .invokevirtual (301), 0, 0, 0, 0),
  (67, 1, .iconst (1), 0, 0, 1, 0),
  (68, 1, .ireturn, 0, 0, 0, 0)]
def md_Tent_odds : Md := (y_Tent_odds, prog_1_method_43_code, 4, (some .int), pm_Tent_odds)
theorem tk_Tent_odds : Tm md_Tent_odds := tab_of (o := 5) (by decide +kernel)
set_option maxRecDepth 100000 in
theorem ok_Tent_odds : MdOk md_Tent_odds 3 ∧ Cond.instanceMethod md_Tent_odds.1 ∈ T1 ∧ Cond.selects md_Tent_odds.1.cls md_Tent_odds.1 md_Tent_odds.1 ∈ T1 := ⟨⟨T1_in4 (i := 53) rfl rfl, T1_in1 (i := 1) rfl rfl, by decide +kernel, ⟨by decide +kernel, by decide +kernel⟩, by decide +kernel, by decide⟩, T1_in4 (i := 51) rfl rfl, T1_in4 (i := 52) rfl rfl⟩
def pm_Tent_tellPower : List PE := [(0, 2, .bipush (12), 0, 0, 12, 0),
  (2, 1, .istore_n (3), 0, 0, 0, 0),
  (3, 1, .iload_n (3), 0, 0, 0, 0),
  (4, 1, .iconst (1), 0, 0, 1, 0),
  (5, 3, .if_icmp .le (22), 27, 0, 0, 0),
  (8, 1, .iload_n (1), 0, 0, 0, 0),
  (9, 1, .iload_n (3), 0, 0, 0, 0),
  (10, 1, .irem, 0, 0, 0, 0),
  (11, 3, .ifCond .ne (10), 21, 0, 0, 0),
  (14, 2, .bipush (12), 0, 0, 12, 0),
  (16, 1, .iload_n (3), 0, 0, 0, 0),
  (17, 1, .irem, 0, 0, 0, 0),
  (18, 3, .ifCond .eq (9), 27, 0, 0, 0),
  (21, 3, .iinc (3) (-1), 0, 0, (-1), 0),
  (24, 3, .goto (-21), 3, 0, 0, 0),
  (27, 1, .aload_n (0), 0, 0, 0, 0),
  (28, 1, .lconst (1), 0, 0, 0, 1),
  (29, 3, .putfield (311), 5, 11, 0, 0),
  (32, 1, .aload_n (0), 0, 0, 0, 0),
  (33, 1, .lconst (1), 0, 0, 0, 1),
  (34, 3, .putfield (62), 5, 12, 0, 0),
  (37, 1, .iconst (0), 0, 0, 0, 0),
  (38, 2, .istore (4), 0, 0, 0, 0),
  (40, 2, .iload (4), 0, 0, 0, 0),
  (42, 1, .iload_n (2), 0, 0, 0, 0),
  (43, 3, .if_icmp .ge (36), 79, 0, 0, 0),
  (46, 1, .aload_n (0), 0, 0, 0, 0),
  (47, 1, .dup, 0, 0, 0, 0),
  (48, 3, .getfield (311), 5, 11, 0, 0),
  (51, 1, .iload_n (1), 0, 0, 0, 0),
  (52, 1, .iload_n (3), 0, 0, 0, 0),
  (53, 1, .idiv, 0, 0, 0, 0),
  (54, 1, .i2l, 0, 0, 0, 0),
  (55, 1, .lmul, 0, 0, 0, 0),
  (56, 3, .putfield (311), 5, 11, 0, 0),
  (59, 1, .aload_n (0), 0, 0, 0, 0),
  (60, 1, .dup, 0, 0, 0, 0),
  (61, 3, .getfield (62), 5, 12, 0, 0),
  (64, 2, .bipush (12), 0, 0, 12, 0),
  (66, 1, .iload_n (3), 0, 0, 0, 0),
  (67, 1, .idiv, 0, 0, 0, 0),
  (68, 1, .i2l, 0, 0, 0, 0),
  (69, 1, .lmul, 0, 0, 0, 0),
  (70, 3, .putfield (62), 5, 12, 0, 0),
  (73, 3, .iinc (4) (1), 0, 0, 1, 0),
  (76, 3, .goto (-36), 40, 0, 0, 0),
  (79, 1, .return_, 0, 0, 0, 0)]
def md_Tent_tellPower : Md := (y_Tent_tellPower, prog_1_method_65_code, 5, none, pm_Tent_tellPower)
theorem tk_Tent_tellPower : Tm md_Tent_tellPower := tab_of (o := 5) (by decide +kernel)
set_option maxRecDepth 100000 in
theorem ok_Tent_tellPower : MdOk md_Tent_tellPower 2 ∧ Cond.instanceMethod md_Tent_tellPower.1 ∈ T1 ∧ Cond.selects md_Tent_tellPower.1.cls md_Tent_tellPower.1 md_Tent_tellPower.1 ∈ T1 := ⟨⟨T1_in4 (i := 57) rfl rfl, T1_in1 (i := 1) rfl rfl, by decide +kernel, ⟨by decide +kernel, by decide +kernel⟩, by decide +kernel, by decide⟩, T1_in4 (i := 56) rfl rfl, T1_inP (i := 29) rfl⟩
def pm_Camp_mustStayIn : List PE := [(0, 1, .aload_n (0), 0, 0, 0, 0),
  (1, 3, .getfield (15), 0, 1, 0, 0),
  (4, 1, .iload_n (1), 0, 0, 0, 0),
  (5, 1, .iaload, 0, 0, 0, 0),
  (6, 1, .iconst (5), 0, 0, 5, 0),
  (7, 3, .if_icmp .ne (7), 14, 0, 0, 0),
  (10, 1, .iconst (1), 0, 0, 1, 0),
  (11, 3, .goto (14), 25, 0, 0, 0),
  (14, 1, .aload_n (0), 0, 0, 0, 0),
  (15, 3, .getfield (42), 0, 10, 0, 0),
  (18, 1, .aload_n (0), 0, 0, 0, 0),
  (19, 3, .getfield (24), 0, 4, 0, 0),
  (22, 1, .iload_n (1), 0, 0, 0, 0),
  (23, 1, .iaload, 0, 0, 0, 0),
  (24, 1, .isub, 0, 0, 0, 0),
  (25, 1, .ireturn, 0, 0, 0, 0)]
def md_Camp_mustStayIn : Md := (y_Camp_mustStayIn, prog_2_method_40_code, 2, (some .int), pm_Camp_mustStayIn)
theorem tk_Camp_mustStayIn : Tm md_Camp_mustStayIn := tab_of (o := 0) (by decide +kernel)
set_option maxRecDepth 100000 in
theorem ok_Camp_mustStayIn : MdOk md_Camp_mustStayIn 1 ∧ Cond.instanceMethod md_Camp_mustStayIn.1 ∈ T1 ∧ Cond.selects md_Camp_mustStayIn.1.cls md_Camp_mustStayIn.1 md_Camp_mustStayIn.1 ∈ T1 := ⟨⟨T1_in4 (i := 61) rfl rfl, T1_in1 (i := 4) rfl rfl, by decide +kernel, ⟨by decide +kernel, by decide +kernel⟩, by decide +kernel, by decide⟩, T1_in4 (i := 59) rfl rfl, T1_in4 (i := 60) rfl rfl⟩
def pm_Tent_lots : List PE := [(0, 1, .iload_n (1), 0, 0, 0, 0),
  (1, 1, .iconst (1), 0, 0, 1, 0),
  (2, 3, .if_icmp .lt (10), 12, 0, 0, 0),
  (5, 1, .iload_n (1), 0, 0, 0, 0),
  (6, 3, .ldc_w (307), 0, 0, 2147483647, 0),
  (9, 3, .if_icmp .lt (5), 14, 0, 0, 0),
  (12, 1, .iconst (-1), 0, 0, (-1), 0),
  (13, 1, .ireturn, 0, 0, 0, 0),
  (14, 1, .aload_n (0), 0, 0, 0, 0),
  (15, 3, .getfield (26), 5, 2, 0, 0),
  (18, 3, .getfield (130), 0, 10, 0, 0),
  (21, 3, .ifCond .ne (6), 27, 0, 0, 0),
  (24, 2, .bipush (-4), 0, 0, (-4), 0),
  (26, 1, .ireturn, 0, 0, 0, 0),
  (27, 1, .aload_n (0), 0, 0, 0, 0),
  (28, 3, .getfield (47), 5, 6, 0, 0),
  (31, 1, .aload_n (0), 0, 0, 0, 0),
  (32, 3, .getfield (26), 5, 2, 0, 0),
  (35, 3, .getfield (130), 0, 10, 0, 0),
  (38, 1, .iload_n (1), 0, 0, 0, 0),
  (39, 3, .invokevirtual (308), 0, 0, 0, 0),
  (42, 1, .aload_n (0), 0, 0, 0, 0),
  (43, 3, .getfield (26), 5, 2, 0, 0),
  (46, 1, .aload_n (0), 0, 0, 0, 0),
  (47, 3, .getfield (47), 5, 6, 0, 0),
  (50, 3, .getfield (196), 1, 0, 0, 0),
  (53, 3, .invokevirtual (199), 0, 0, 0, 0),
  (56, 1, .aload_n (0), 0, 0, 0, 0),
  (57, 3, .getfield (26), 5, 2, 0, 0),
  (60, 3, .invokevirtual (251), 0, 0, 0, 0),
  (63, 1, .ireturn, 0, 0, 0, 0)]
def md_Tent_lots : Md := (y_Tent_lots, prog_1_method_44_code, 2, (some .int), pm_Tent_lots)
theorem tk_Tent_lots : Tm md_Tent_lots := tab_of (o := 5) (by decide +kernel)
set_option maxRecDepth 100000 in
theorem ok_Tent_lots : MdOk md_Tent_lots 1 ∧ Cond.instanceMethod md_Tent_lots.1 ∈ T1 ∧ Cond.selects md_Tent_lots.1.cls md_Tent_lots.1 md_Tent_lots.1 ∈ T1 := ⟨⟨T1_in4 (i := 65) rfl rfl, T1_in1 (i := 1) rfl rfl, by decide +kernel, ⟨by decide +kernel, by decide +kernel⟩, by decide +kernel, by decide⟩, T1_in4 (i := 63) rfl rfl, T1_in4 (i := 64) rfl rfl⟩
def pm_Orders_draw : List PE := [(0, 1, .aload_n (0), 0, 0, 0, 0),
  (1, 1, .iload_n (1), 0, 0, 0, 0),
  (2, 1, .iconst (5), 0, 0, 5, 0),
  (3, 3, .invokestatic (15), 0, 0, 0, 0),
  (6, 3, .putfield (21), 1, 1, 0, 0),
  (9, 1, .iconst (1), 0, 0, 1, 0),
  (10, 1, .aload_n (0), 0, 0, 0, 0),
  (11, 3, .getfield (21), 1, 1, 0, 0),
  (14, 1, .ishl, 0, 0, 0, 0),
  (15, 1, .iconst (1), 0, 0, 1, 0),
  (16, 1, .isub, 0, 0, 0, 0),
  (17, 1, .istore_n (3), 0, 0, 0, 0),
  (18, 1, .iload_n (2), 0, 0, 0, 0),
  (19, 1, .i2l, 0, 0, 0, 0),
  (20, 2, .lstore (4), 0, 0, 0, 0),
  (22, 1, .iconst (0), 0, 0, 0, 0),
  (23, 2, .istore (6), 0, 0, 0, 0),
  (25, 2, .iload (6), 0, 0, 0, 0),
  (27, 1, .aload_n (0), 0, 0, 0, 0),
  (28, 3, .getfield (21), 1, 1, 0, 0),
  (31, 3, .if_icmp .ge (58), 89, 0, 0, 0),
  (34, 2, .lload (4), 0, 0, 0, 0),
  (36, 3, .ldc2_w (36), 0, 0, 0, 48271),
  (39, 1, .lmul, 0, 0, 0, 0),
  (40, 3, .ldc2_w (38), 0, 0, 0, 2147483647),
  (43, 1, .lrem, 0, 0, 0, 0),
  (44, 2, .lstore (4), 0, 0, 0, 0),
  (46, 1, .aload_n (0), 0, 0, 0, 0),
  (47, 3, .getfield (9), 1, 0, 0, 0),
  (50, 2, .iload (6), 0, 0, 0, 0),
  (52, 1, .iload_n (3), 0, 0, 0, 0),
  (53, 2, .lload (4), 0, 0, 0, 0),
  (55, 1, .aload_n (0), 0, 0, 0, 0),
  (56, 3, .getfield (21), 1, 1, 0, 0),
  (59, 2, .iload (6), 0, 0, 0, 0),
  (61, 1, .isub, 0, 0, 0, 0),
  (62, 1, .i2l, 0, 0, 0, 0),
  (63, 1, .lrem, 0, 0, 0, 0),
  (64, 1, .l2i, 0, 0, 0, 0),
  (65, 3, .invokestatic (33), 0, 0, 0, 0),
  (68, 1, .iastore, 0, 0, 0, 0),
  (69, 1, .iload_n (3), 0, 0, 0, 0),
  (70, 1, .iconst (1), 0, 0, 1, 0),
  (71, 1, .aload_n (0), 0, 0, 0, 0),
  (72, 3, .getfield (9), 1, 0, 0, 0),
  (75, 2, .iload (6), 0, 0, 0, 0),
  (77, 1, .iaload, 0, 0, 0, 0),
  (78, 1, .ishl, 0, 0, 0, 0),
  (79, 1, .iconst (-1), 0, 0, (-1), 0),
  (80, 1, .ixor, 0, 0, 0, 0),
  (81, 1, .iand, 0, 0, 0, 0),
  (82, 1, .istore_n (3), 0, 0, 0, 0),
  (83, 3, .iinc (6) (1), 0, 0, 1, 0),
  (86, 3, .goto (-61), 25, 0, 0, 0),
  (89, 1, .return_, 0, 0, 0, 0)]
def md_Orders_draw : Md := (y_Orders_draw, prog_3_method_6_code, 7, none, pm_Orders_draw)
theorem tk_Orders_draw : Tm md_Orders_draw := tab_of (o := 1) (by decide +kernel)
set_option maxRecDepth 100000 in
theorem ok_Orders_draw : MdOk md_Orders_draw 2 ∧ Cond.instanceMethod md_Orders_draw.1 ∈ T1 ∧ Cond.selects md_Orders_draw.1.cls md_Orders_draw.1 md_Orders_draw.1 ∈ T1 := ⟨⟨T1_in4 (i := 70) rfl rfl, T1_in1 (i := 6) rfl rfl, by decide +kernel, ⟨by decide +kernel, by decide +kernel⟩, by decide +kernel, by decide⟩, T1_in4 (i := 68) rfl rfl, T1_in4 (i := 69) rfl rfl⟩
def pm_Tent_asked : List PE := [(0, 1, .aload_n (0), 0, 0, 0, 0),
  (1, 3, .getfield (78), 5, 10, 0, 0),
  (4, 1, .ireturn, 0, 0, 0, 0)]
def md_Tent_asked : Md := (y_Tent_asked, prog_1_method_45_code, 1, (some .int), pm_Tent_asked)
theorem tk_Tent_asked : Tm md_Tent_asked := tab_of (o := 5) (by decide +kernel)
set_option maxRecDepth 100000 in
theorem ok_Tent_asked : MdOk md_Tent_asked 0 ∧ Cond.instanceMethod md_Tent_asked.1 ∈ T1 ∧ Cond.selects md_Tent_asked.1.cls md_Tent_asked.1 md_Tent_asked.1 ∈ T1 := ⟨⟨T1_in4 (i := 76) rfl rfl, T1_in1 (i := 1) rfl rfl, by decide +kernel, ⟨by decide +kernel, by decide +kernel⟩, by decide +kernel, by decide⟩, T1_in4 (i := 74) rfl rfl, T1_in4 (i := 75) rfl rfl⟩
def pm_Tent_upper : List PE := [(0, 1, .aload_n (0), 0, 0, 0, 0),
  (1, 3, .getfield (311), 5, 11, 0, 0),
  (4, 1, .lreturn, 0, 0, 0, 0)]
def md_Tent_upper : Md := (y_Tent_upper, prog_1_method_46_code, 1, (some .long), pm_Tent_upper)
theorem tk_Tent_upper : Tm md_Tent_upper := tab_of (o := 5) (by decide +kernel)
set_option maxRecDepth 100000 in
theorem ok_Tent_upper : MdOk md_Tent_upper 0 ∧ Cond.instanceMethod md_Tent_upper.1 ∈ T1 ∧ Cond.selects md_Tent_upper.1.cls md_Tent_upper.1 md_Tent_upper.1 ∈ T1 := ⟨⟨T1_in4 (i := 80) rfl rfl, T1_in1 (i := 1) rfl rfl, by decide +kernel, ⟨by decide +kernel, by decide +kernel⟩, by decide +kernel, by decide⟩, T1_in4 (i := 78) rfl rfl, T1_in4 (i := 79) rfl rfl⟩
def pm_Tent_lower : List PE := [(0, 1, .aload_n (0), 0, 0, 0, 0),
  (1, 3, .getfield (62), 5, 12, 0, 0),
  (4, 1, .lreturn, 0, 0, 0, 0)]
def md_Tent_lower : Md := (y_Tent_lower, prog_1_method_47_code, 1, (some .long), pm_Tent_lower)
theorem tk_Tent_lower : Tm md_Tent_lower := tab_of (o := 5) (by decide +kernel)
set_option maxRecDepth 100000 in
theorem ok_Tent_lower : MdOk md_Tent_lower 0 ∧ Cond.instanceMethod md_Tent_lower.1 ∈ T1 ∧ Cond.selects md_Tent_lower.1.cls md_Tent_lower.1 md_Tent_lower.1 ∈ T1 := ⟨⟨T1_in4 (i := 84) rfl rfl, T1_in1 (i := 1) rfl rfl, by decide +kernel, ⟨by decide +kernel, by decide +kernel⟩, by decide +kernel, by decide⟩, T1_in4 (i := 82) rfl rfl, T1_in4 (i := 83) rfl rfl⟩
def pm_Tent_count : List PE := [(0, 1, .iload_n (1), 0, 0, 0, 0),
  (1, 51, .tableswitch (120) (0) (8) #[(51), (59), (67), (75), (83), (91), (99), (107), (115)], 0, 0, 0, 0),
  (52, 1, .aload_n (0), 0, 0, 0, 0),
  (53, 3, .getfield (26), 5, 2, 0, 0),
  (56, 3, .getfield (130), 0, 10, 0, 0),
  (59, 1, .ireturn, 0, 0, 0, 0),
  (60, 1, .aload_n (0), 0, 0, 0, 0),
  (61, 3, .getfield (26), 5, 2, 0, 0),
  (64, 3, .getfield (206), 0, 16, 0, 0),
  (67, 1, .ireturn, 0, 0, 0, 0),
  (68, 1, .aload_n (0), 0, 0, 0, 0),
  (69, 3, .getfield (26), 5, 2, 0, 0),
  (72, 3, .getfield (212), 0, 15, 0, 0),
  (75, 1, .ireturn, 0, 0, 0, 0),
  (76, 1, .aload_n (0), 0, 0, 0, 0),
  (77, 3, .getfield (26), 5, 2, 0, 0),
  (80, 3, .getfield (159), 0, 13, 0, 0),
  (83, 1, .ireturn, 0, 0, 0, 0),
  (84, 1, .aload_n (0), 0, 0, 0, 0),
  (85, 3, .getfield (26), 5, 2, 0, 0),
  (88, 3, .getfield (167), 0, 11, 0, 0),
  (91, 1, .ireturn, 0, 0, 0, 0),
  (92, 1, .aload_n (0), 0, 0, 0, 0),
  (93, 3, .getfield (26), 5, 2, 0, 0),
  (96, 3, .invokevirtual (155), 0, 0, 0, 0),
  (99, 1, .ireturn, 0, 0, 0, 0),
  (100, 1, .aload_n (0), 0, 0, 0, 0),
  (101, 3, .getfield (14), 5, 0, 0, 0),
  (104, 3, .invokevirtual (314), 0, 0, 0, 0),
  (107, 1, .ireturn, 0, 0, 0, 0),
  (108, 1, .aload_n (0), 0, 0, 0, 0),
  (109, 3, .getfield (18), 5, 1, 0, 0),
  (112, 3, .invokevirtual (314), 0, 0, 0, 0),
  (115, 1, .ireturn, 0, 0, 0, 0),
  (116, 1, .aload_n (0), 0, 0, 0, 0),
  (117, 3, .invokevirtual (317), 0, 0, 0, 0),
  (120, 1, .ireturn, 0, 0, 0, 0),
  (121, 1, .iconst (-1), 0, 0, (-1), 0),
  (122, 1, .ireturn, 0, 0, 0, 0)]
def md_Tent_count : Md := (y_Tent_count, prog_1_method_48_code, 2, (some .int), pm_Tent_count)
theorem tk_Tent_count : Tm md_Tent_count := tab_of (o := 5) (by decide +kernel)
set_option maxRecDepth 100000 in
theorem ok_Tent_count : MdOk md_Tent_count 1 ∧ Cond.instanceMethod md_Tent_count.1 ∈ T1 ∧ Cond.selects md_Tent_count.1.cls md_Tent_count.1 md_Tent_count.1 ∈ T1 := ⟨⟨T1_in4 (i := 88) rfl rfl, T1_in1 (i := 1) rfl rfl, by decide +kernel, ⟨by decide +kernel, by decide +kernel⟩, by decide +kernel, by decide⟩, T1_in4 (i := 86) rfl rfl, T1_in4 (i := 87) rfl rfl⟩
def pm_Shelf_howManyThere : List PE := [(0, 1, .iconst (0), 0, 0, 0, 0),
  (1, 1, .istore_n (1), 0, 0, 0, 0),
  (2, 1, .iconst (0), 0, 0, 0, 0),
  (3, 1, .istore_n (2), 0, 0, 0, 0),
  (4, 1, .iload_n (2), 0, 0, 0, 0),
  (5, 1, .aload_n (0), 0, 0, 0, 0),
  (6, 3, .getfield (13), 4, 1, 0, 0),
  (9, 1, .arraylength, 0, 0, 0, 0),
  (10, 3, .if_icmp .ge (25), 35, 0, 0, 0),
  (13, 1, .iload_n (1), 0, 0, 0, 0),
  (14, 1, .aload_n (0), 0, 0, 0, 0),
  (15, 1, .iload_n (2), 0, 0, 0, 0),
  (16, 3, .invokevirtual (55), 0, 0, 0, 0),
  (19, 3, .ifCond .eq (7), 26, 0, 0, 0),
  (22, 1, .iconst (1), 0, 0, 1, 0),
  (23, 3, .goto (4), 27, 0, 0, 0),
  (26, 1, .iconst (0), 0, 0, 0, 0),
  (27, 1, .iadd, 0, 0, 0, 0),
  (28, 1, .istore_n (1), 0, 0, 0, 0),
  (29, 3, .iinc (2) (1), 0, 0, 1, 0),
  (32, 3, .goto (-28), 4, 0, 0, 0),
  (35, 1, .iload_n (1), 0, 0, 0, 0),
  (36, 1, .ireturn, 0, 0, 0, 0)]
def md_Shelf_howManyThere : Md := (y_Shelf_howManyThere, prog_6_method_13_code, 3, (some .int), pm_Shelf_howManyThere)
theorem tk_Shelf_howManyThere : Tm md_Shelf_howManyThere := tab_of (o := 4) (by decide +kernel)
set_option maxRecDepth 100000 in
theorem ok_Shelf_howManyThere : MdOk md_Shelf_howManyThere 0 ∧ Cond.instanceMethod md_Shelf_howManyThere.1 ∈ T1 ∧ Cond.selects md_Shelf_howManyThere.1.cls md_Shelf_howManyThere.1 md_Shelf_howManyThere.1 ∈ T1 := ⟨⟨T1_in4 (i := 92) rfl rfl, T1_in1 (i := 2) rfl rfl, by decide +kernel, ⟨by decide +kernel, by decide +kernel⟩, by decide +kernel, by decide⟩, T1_in4 (i := 90) rfl rfl, T1_in4 (i := 91) rfl rfl⟩
def pm_Tent_keptTents : List PE := [(0, 1, .iconst (0), 0, 0, 0, 0),
  (1, 1, .istore_n (1), 0, 0, 0, 0),
  (2, 1, .iconst (0), 0, 0, 0, 0),
  (3, 1, .istore_n (2), 0, 0, 0, 0),
  (4, 1, .iload_n (2), 0, 0, 0, 0),
  (5, 1, .iconst (3), 0, 0, 3, 0),
  (6, 3, .if_icmp .ge (25), 31, 0, 0, 0),
  (9, 1, .iload_n (1), 0, 0, 0, 0),
  (10, 1, .aload_n (0), 0, 0, 0, 0),
  (11, 1, .iload_n (2), 0, 0, 0, 0),
  (12, 3, .invokevirtual (218), 0, 0, 0, 0),
  (15, 3, .ifCond .eq (7), 22, 0, 0, 0),
  (18, 1, .iconst (1), 0, 0, 1, 0),
  (19, 3, .goto (4), 23, 0, 0, 0),
  (22, 1, .iconst (0), 0, 0, 0, 0),
  (23, 1, .iadd, 0, 0, 0, 0),
  (24, 1, .istore_n (1), 0, 0, 0, 0),
  (25, 3, .iinc (2) (1), 0, 0, 1, 0),
  (28, 3, .goto (-24), 4, 0, 0, 0),
  (31, 1, .iload_n (1), 0, 0, 0, 0),
  (32, 1, .ireturn, 0, 0, 0, 0)]
def md_Tent_keptTents : Md := (y_Tent_keptTents, prog_1_method_61_code, 3, (some .int), pm_Tent_keptTents)
theorem tk_Tent_keptTents : Tm md_Tent_keptTents := tab_of (o := 5) (by decide +kernel)
set_option maxRecDepth 100000 in
theorem ok_Tent_keptTents : MdOk md_Tent_keptTents 0 ∧ Cond.instanceMethod md_Tent_keptTents.1 ∈ T1 ∧ Cond.selects md_Tent_keptTents.1.cls md_Tent_keptTents.1 md_Tent_keptTents.1 ∈ T1 := ⟨⟨T1_in4 (i := 97) rfl rfl, T1_in1 (i := 1) rfl rfl, by decide +kernel, ⟨by decide +kernel, by decide +kernel⟩, by decide +kernel, by decide⟩, T1_in4 (i := 96) rfl rfl, T1_inP (i := 30) rfl⟩
def pm_Tent_finding : List PE := [(0, 1, .aload_n (0), 0, 0, 0, 0),
  (1, 3, .getfield (320), 5, 9, 0, 0),
  (4, 1, .ireturn, 0, 0, 0, 0)]
def md_Tent_finding : Md := (y_Tent_finding, prog_1_method_49_code, 1, (some .int), pm_Tent_finding)
theorem tk_Tent_finding : Tm md_Tent_finding := tab_of (o := 5) (by decide +kernel)
set_option maxRecDepth 100000 in
theorem ok_Tent_finding : MdOk md_Tent_finding 0 ∧ Cond.instanceMethod md_Tent_finding.1 ∈ T1 ∧ Cond.selects md_Tent_finding.1.cls md_Tent_finding.1 md_Tent_finding.1 ∈ T1 := ⟨⟨T1_in4 (i := 101) rfl rfl, T1_in1 (i := 1) rfl rfl, by decide +kernel, ⟨by decide +kernel, by decide +kernel⟩, by decide +kernel, by decide⟩, T1_in4 (i := 99) rfl rfl, T1_in4 (i := 100) rfl rfl⟩
def pm_Tent_findings : List PE := [(0, 1, .iload_n (1), 0, 0, 0, 0),
  (1, 1, .iconst (1), 0, 0, 1, 0),
  (2, 3, .if_icmp .lt (8), 10, 0, 0, 0),
  (5, 1, .iload_n (1), 0, 0, 0, 0),
  (6, 1, .iconst (5), 0, 0, 5, 0),
  (7, 3, .if_icmp .le (7), 14, 0, 0, 0),
  (10, 1, .iconst (-1), 0, 0, (-1), 0),
  (11, 3, .goto (9), 20, 0, 0, 0),
  (14, 1, .aload_n (0), 0, 0, 0, 0),
  (15, 3, .getfield (58), 5, 8, 0, 0),
  (18, 1, .iload_n (1), 0, 0, 0, 0),
  (19, 1, .iaload, 0, 0, 0, 0),
  (20, 1, .ireturn, 0, 0, 0, 0)]
def md_Tent_findings : Md := (y_Tent_findings, prog_1_method_50_code, 2, (some .int), pm_Tent_findings)
theorem tk_Tent_findings : Tm md_Tent_findings := tab_of (o := 5) (by decide +kernel)
set_option maxRecDepth 100000 in
theorem ok_Tent_findings : MdOk md_Tent_findings 1 ∧ Cond.instanceMethod md_Tent_findings.1 ∈ T1 ∧ Cond.selects md_Tent_findings.1.cls md_Tent_findings.1 md_Tent_findings.1 ∈ T1 := ⟨⟨T1_in4 (i := 105) rfl rfl, T1_in1 (i := 1) rfl rfl, by decide +kernel, ⟨by decide +kernel, by decide +kernel⟩, by decide +kernel, by decide⟩, T1_in4 (i := 103) rfl rfl, T1_in4 (i := 104) rfl rfl⟩
def pm_Tent_digest : List PE := [(0, 3, .ldc2_w (323), 0, 0, 0, 17),
  (3, 1, .lstore_n (1), 0, 0, 0, 0),
  (4, 1, .iconst (0), 0, 0, 0, 0),
  (5, 1, .istore_n (3), 0, 0, 0, 0),
  (6, 1, .iload_n (3), 0, 0, 0, 0),
  (7, 2, .bipush (9), 0, 0, 9, 0),
  (9, 3, .if_icmp .ge (22), 31, 0, 0, 0),
  (12, 3, .ldc2_w (325), 0, 0, 0, 31),
  (15, 1, .lload_n (1), 0, 0, 0, 0),
  (16, 1, .lmul, 0, 0, 0, 0),
  (17, 1, .aload_n (0), 0, 0, 0, 0),
  (18, 1, .iload_n (3), 0, 0, 0, 0),
  (19, 3, .invokevirtual (327), 0, 0, 0, 0),
  (22, 1, .i2l, 0, 0, 0, 0),
  (23, 1, .ladd, 0, 0, 0, 0),
  (24, 1, .lstore_n (1), 0, 0, 0, 0),
  (25, 3, .iinc (3) (1), 0, 0, 1, 0),
  (28, 3, .goto (-22), 6, 0, 0, 0),
  (31, 3, .ldc2_w (325), 0, 0, 0, 31),
  (34, 1, .lload_n (1), 0, 0, 0, 0),
  (35, 1, .lmul, 0, 0, 0, 0),
  (36, 1, .aload_n (0), 0, 0, 0, 0),
  (37, 3, .getfield (26), 5, 2, 0, 0),
  (40, 3, .getfield (170), 0, 12, 0, 0),
  (43, 1, .i2l, 0, 0, 0, 0),
  (44, 1, .ladd, 0, 0, 0, 0),
  (45, 1, .lstore_n (1), 0, 0, 0, 0),
  (46, 1, .iconst (0), 0, 0, 0, 0),
  (47, 1, .istore_n (3), 0, 0, 0, 0),
  (48, 1, .iload_n (3), 0, 0, 0, 0),
  (49, 1, .aload_n (0), 0, 0, 0, 0),
  (50, 3, .getfield (26), 5, 2, 0, 0),
  (53, 3, .getfield (130), 0, 10, 0, 0),
  (56, 3, .if_icmp .ge (43), 99, 0, 0, 0),
  (59, 1, .iconst (0), 0, 0, 0, 0),
  (60, 2, .istore (4), 0, 0, 0, 0),
  (62, 2, .iload (4), 0, 0, 0, 0),
  (64, 2, .bipush (6), 0, 0, 6, 0),
  (66, 3, .if_icmp .ge (27), 93, 0, 0, 0),
  (69, 3, .ldc2_w (325), 0, 0, 0, 31),
  (72, 1, .lload_n (1), 0, 0, 0, 0),
  (73, 1, .lmul, 0, 0, 0, 0),
  (74, 1, .aload_n (0), 0, 0, 0, 0),
  (75, 3, .getfield (26), 5, 2, 0, 0),
  (78, 1, .iload_n (3), 0, 0, 0, 0),
  (79, 2, .iload (4), 0, 0, 0, 0),
  (81, 3, .invokevirtual (136), 0, 0, 0, 0),
  (84, 1, .i2l, 0, 0, 0, 0),
  (85, 1, .ladd, 0, 0, 0, 0),
  (86, 1, .lstore_n (1), 0, 0, 0, 0),
  (87, 3, .iinc (4) (1), 0, 0, 1, 0),
  (90, 3, .goto (-28), 62, 0, 0, 0),
  (93, 3, .iinc (3) (1), 0, 0, 1, 0),
  (96, 3, .goto (-48), 48, 0, 0, 0),
  (99, 1, .iconst (0), 0, 0, 0, 0),
  (100, 1, .istore_n (3), 0, 0, 0, 0),
  (101, 1, .iload_n (3), 0, 0, 0, 0),
  (102, 1, .iconst (3), 0, 0, 3, 0),
  (103, 3, .if_icmp .ge (38), 141, 0, 0, 0),
  (106, 3, .ldc2_w (325), 0, 0, 0, 31),
  (109, 1, .lload_n (1), 0, 0, 0, 0),
  (110, 1, .lmul, 0, 0, 0, 0),
  (111, 1, .aload_n (0), 0, 0, 0, 0),
  (112, 1, .iload_n (3), 0, 0, 0, 0),
  (113, 3, .invokevirtual (218), 0, 0, 0, 0),
  (116, 3, .ifCond .eq (15), 131, 0, 0, 0),
  (119, 1, .aload_n (0), 0, 0, 0, 0),
  (120, 3, .getfield (30), 5, 3, 0, 0),
  (123, 1, .iload_n (3), 0, 0, 0, 0),
  (124, 1, .aaload, 0, 0, 0, 0),
  (125, 3, .getfield (206), 0, 16, 0, 0),
  (128, 3, .goto (4), 132, 0, 0, 0),
  (131, 1, .iconst (-1), 0, 0, (-1), 0),
  (132, 1, .i2l, 0, 0, 0, 0),
  (133, 1, .ladd, 0, 0, 0, 0),
  (134, 1, .lstore_n (1), 0, 0, 0, 0),
  (135, 3, .iinc (3) (1), 0, 0, 1, 0),
  (138, 3, .goto (-37), 101, 0, 0, 0),
  (141, 1, .aload_n (0), 0, 0, 0, 0),
  (142, 3, .getfield (18), 5, 1, 0, 0),
  (145, 1, .aload_n (0), 0, 0, 0, 0),
  (146, 3, .getfield (14), 5, 0, 0, 0),
  (149, 1, .lload_n (1), 0, 0, 0, 0),
  (150, 3, .invokevirtual (330), 0, 0, 0, 0),
  (153, 3, .invokevirtual (330), 0, 0, 0, 0),
  (156, 1, .lreturn, 0, 0, 0, 0)]
def md_Tent_digest : Md := (y_Tent_digest, prog_1_method_51_code, 5, (some .long), pm_Tent_digest)
theorem tk_Tent_digest : Tm md_Tent_digest := tab_of (o := 5) (by decide +kernel)
set_option maxRecDepth 100000 in
theorem ok_Tent_digest : MdOk md_Tent_digest 0 ∧ Cond.instanceMethod md_Tent_digest.1 ∈ T1 ∧ Cond.selects md_Tent_digest.1.cls md_Tent_digest.1 md_Tent_digest.1 ∈ T1 := ⟨⟨T1_in4 (i := 109) rfl rfl, T1_in1 (i := 1) rfl rfl, by decide +kernel, ⟨by decide +kernel, by decide +kernel⟩, by decide +kernel, by decide⟩, T1_in4 (i := 107) rfl rfl, T1_in4 (i := 108) rfl rfl⟩
def pm_Shelf_digestOn : List PE := [(0, 1, .lload_n (1), 0, 0, 0, 0),
  (1, 1, .lstore_n (3), 0, 0, 0, 0),
  (2, 1, .iconst (0), 0, 0, 0, 0),
  (3, 2, .istore (5), 0, 0, 0, 0),
  (5, 2, .iload (5), 0, 0, 0, 0),
  (7, 1, .aload_n (0), 0, 0, 0, 0),
  (8, 3, .getfield (13), 4, 1, 0, 0),
  (11, 1, .arraylength, 0, 0, 0, 0),
  (12, 3, .if_icmp .ge (59), 71, 0, 0, 0),
  (15, 3, .ldc2_w (58), 0, 0, 0, 31),
  (18, 1, .lload_n (3), 0, 0, 0, 0),
  (19, 1, .lmul, 0, 0, 0, 0),
  (20, 1, .aload_n (0), 0, 0, 0, 0),
  (21, 2, .iload (5), 0, 0, 0, 0),
  (23, 3, .invokevirtual (26), 0, 0, 0, 0),
  (26, 1, .i2l, 0, 0, 0, 0),
  (27, 1, .ladd, 0, 0, 0, 0),
  (28, 1, .lstore_n (3), 0, 0, 0, 0),
  (29, 1, .iconst (0), 0, 0, 0, 0),
  (30, 2, .istore (6), 0, 0, 0, 0),
  (32, 2, .iload (6), 0, 0, 0, 0),
  (34, 1, .aload_n (0), 0, 0, 0, 0),
  (35, 2, .iload (5), 0, 0, 0, 0),
  (37, 3, .invokevirtual (26), 0, 0, 0, 0),
  (40, 3, .if_icmp .ge (25), 65, 0, 0, 0),
  (43, 3, .ldc2_w (58), 0, 0, 0, 31),
  (46, 1, .lload_n (3), 0, 0, 0, 0),
  (47, 1, .lmul, 0, 0, 0, 0),
  (48, 1, .aload_n (0), 0, 0, 0, 0),
  (49, 2, .iload (5), 0, 0, 0, 0),
  (51, 2, .iload (6), 0, 0, 0, 0),
  (53, 3, .invokevirtual (51), 0, 0, 0, 0),
  (56, 1, .i2l, 0, 0, 0, 0),
  (57, 1, .ladd, 0, 0, 0, 0),
  (58, 1, .lstore_n (3), 0, 0, 0, 0),
  (59, 3, .iinc (6) (1), 0, 0, 1, 0),
  (62, 3, .goto (-30), 32, 0, 0, 0),
  (65, 3, .iinc (5) (1), 0, 0, 1, 0),
  (68, 3, .goto (-63), 5, 0, 0, 0),
  (71, 1, .lload_n (3), 0, 0, 0, 0),
  (72, 1, .lreturn, 0, 0, 0, 0)]
def md_Shelf_digestOn : Md := (y_Shelf_digestOn, prog_6_method_14_code, 7, (some .long), pm_Shelf_digestOn)
theorem tk_Shelf_digestOn : Tm md_Shelf_digestOn := tab_of (o := 4) (by decide +kernel)
set_option maxRecDepth 100000 in
theorem ok_Shelf_digestOn : MdOk md_Shelf_digestOn 1 ∧ Cond.instanceMethod md_Shelf_digestOn.1 ∈ T1 ∧ Cond.selects md_Shelf_digestOn.1.cls md_Shelf_digestOn.1 md_Shelf_digestOn.1 ∈ T1 := ⟨⟨T1_in4 (i := 116) rfl rfl, T1_in1 (i := 2) rfl rfl, by decide +kernel, ⟨by decide +kernel, by decide +kernel⟩, by decide +kernel, by decide⟩, T1_in4 (i := 114) rfl rfl, T1_in4 (i := 115) rfl rfl⟩
def pm_Mod_row : List PE := [(0, 1, .iload_n (1), 0, 0, 0, 0),
  (1, 3, .invokestatic (80), 0, 0, 0, 0),
  (4, 3, .ifCond .eq (9), 13, 0, 0, 0),
  (7, 1, .iload_n (2), 0, 0, 0, 0),
  (8, 2, .bipush (40), 0, 0, 40, 0),
  (10, 3, .if_icmp .le (5), 15, 0, 0, 0),
  (13, 1, .iconst (-1), 0, 0, (-1), 0),
  (14, 1, .ireturn, 0, 0, 0, 0),
  (15, 1, .iload_n (2), 0, 0, 0, 0),
  (16, 3, .ifCond .ge (9), 25, 0, 0, 0),
  (19, 1, .aload_n (0), 0, 0, 0, 0),
  (20, 1, .iconst (5), 0, 0, 5, 0),
  (21, 3, .invokevirtual (84), 0, 0, 0, 0),
  (24, 1, .ireturn, 0, 0, 0, 0),
  (25, 1, .aload_n (0), 0, 0, 0, 0),
  (26, 1, .iload_n (1), 0, 0, 0, 0),
  (27, 1, .iload_n (2), 0, 0, 0, 0),
  (28, 3, .invokevirtual (88), 0, 0, 0, 0),
  (31, 1, .iload_n (2), 0, 0, 0, 0),
  (32, 1, .ireturn, 0, 0, 0, 0)]
def md_Mod_row : Md := (y_Mod_row, prog_8_method_9_code, 3, (some .int), pm_Mod_row)
theorem tk_Mod_row : Tm md_Mod_row := tab_of (o := 6) (by decide +kernel)
set_option maxRecDepth 100000 in
theorem ok_Mod_row : MdOk md_Mod_row 2 ∧ Cond.instanceMethod md_Mod_row.1 ∈ T1 ∧ Cond.selects md_Mod_row.1.cls md_Mod_row.1 md_Mod_row.1 ∈ T1 := ⟨⟨T1_in4 (i := 215) rfl rfl, T1_in1 (i := 8) rfl rfl, by decide +kernel, ⟨by decide +kernel, by decide +kernel⟩, by decide +kernel, by decide⟩, T1_in4 (i := 213) rfl rfl, T1_in4 (i := 214) rfl rfl⟩
def pm_Mod_isRow : List PE := [(0, 1, .iload_n (0), 0, 0, 0, 0),
  (1, 1, .i2l, 0, 0, 0, 0),
  (2, 1, .lconst (0), 0, 0, 0, 0),
  (3, 3, .ldc2_w (72), 0, 0, 0, 5),
  (6, 3, .invokestatic (74), 0, 0, 0, 0),
  (9, 1, .ireturn, 0, 0, 0, 0)]
def md_Mod_isRow : Md := (y_Mod_isRow, prog_8_method_7_code, 1, (some .boolean), pm_Mod_isRow)
theorem tk_Mod_isRow : Tm md_Mod_isRow := tab_of (o := 6) (by decide +kernel)
set_option maxRecDepth 100000 in
theorem ok_Mod_isRow : MdOk md_Mod_isRow 1 ∧ Cond.static md_Mod_isRow.1 ∈ T1 := ⟨⟨T1_in4 (i := 218) rfl rfl, T1_in1 (i := 8) rfl rfl, by decide +kernel, ⟨by decide +kernel, by decide +kernel⟩, by decide +kernel, by decide⟩, T1_in4 (i := 217) rfl rfl⟩
def pm_Mod_in : List PE := [(0, 1, .lload_n (0), 0, 0, 0, 0),
  (1, 1, .lload_n (2), 0, 0, 0, 0),
  (2, 1, .lcmp, 0, 0, 0, 0),
  (3, 3, .ifCond .lt (14), 17, 0, 0, 0),
  (6, 1, .lload_n (0), 0, 0, 0, 0),
  (7, 2, .lload (4), 0, 0, 0, 0),
  (9, 1, .lcmp, 0, 0, 0, 0),
  (10, 3, .ifCond .gt (7), 17, 0, 0, 0),
  (13, 1, .iconst (1), 0, 0, 1, 0),
  (14, 3, .goto (4), 18, 0, 0, 0),
  (17, 1, .iconst (0), 0, 0, 0, 0),
  (18, 1, .ireturn, 0, 0, 0, 0)]
def md_Mod_in : Md := (y_Mod_in, prog_8_method_2_code, 6, (some .boolean), pm_Mod_in)
theorem tk_Mod_in : Tm md_Mod_in := tab_of (o := 6) (by decide +kernel)
set_option maxRecDepth 100000 in
theorem ok_Mod_in : MdOk md_Mod_in 3 ∧ Cond.static md_Mod_in.1 ∈ T1 := ⟨⟨T1_in4 (i := 222) rfl rfl, T1_in1 (i := 8) rfl rfl, by decide +kernel, ⟨by decide +kernel, by decide +kernel⟩, by decide +kernel, by decide⟩, T1_in4 (i := 221) rfl rfl⟩
def pm_Mod_find : List PE := [(0, 1, .aload_n (0), 0, 0, 0, 0),
  (1, 1, .iload_n (1), 0, 0, 0, 0),
  (2, 3, .putfield (66), 6, 12, 0, 0),
  (5, 1, .aload_n (0), 0, 0, 0, 0),
  (6, 3, .getfield (38), 6, 13, 0, 0),
  (9, 1, .iload_n (1), 0, 0, 0, 0),
  (10, 1, .dup2, 0, 0, 0, 0),
  (11, 1, .iaload, 0, 0, 0, 0),
  (12, 1, .iconst (1), 0, 0, 1, 0),
  (13, 1, .iadd, 0, 0, 0, 0),
  (14, 1, .iastore, 0, 0, 0, 0),
  (15, 2, .bipush (-3), 0, 0, (-3), 0),
  (17, 1, .ireturn, 0, 0, 0, 0)]
def md_Mod_find : Md := (y_Mod_find, prog_8_method_5_code, 2, (some .int), pm_Mod_find)
theorem tk_Mod_find : Tm md_Mod_find := tab_of (o := 6) (by decide +kernel)
set_option maxRecDepth 100000 in
theorem ok_Mod_find : MdOk md_Mod_find 1 ∧ Cond.instanceMethod md_Mod_find.1 ∈ T1 ∧ Cond.selects md_Mod_find.1.cls md_Mod_find.1 md_Mod_find.1 ∈ T1 := ⟨⟨T1_in4 (i := 226) rfl rfl, T1_in1 (i := 8) rfl rfl, by decide +kernel, ⟨by decide +kernel, by decide +kernel⟩, by decide +kernel, by decide⟩, T1_in4 (i := 225) rfl rfl, T1_inP (i := 31) rfl⟩
def pm_Mod_makeRow : List PE := [(0, 1, .aload_n (0), 0, 0, 0, 0),
  (1, 3, .getfield (22), 6, 5, 0, 0),
  (4, 1, .iload_n (1), 0, 0, 0, 0),
  (5, 1, .iload_n (2), 0, 0, 0, 0),
  (6, 1, .iastore, 0, 0, 0, 0),
  (7, 1, .iconst (0), 0, 0, 0, 0),
  (8, 1, .istore_n (3), 0, 0, 0, 0),
  (9, 1, .iload_n (3), 0, 0, 0, 0),
  (10, 2, .bipush (40), 0, 0, 40, 0),
  (12, 3, .if_icmp .ge (21), 33, 0, 0, 0),
  (15, 1, .aload_n (0), 0, 0, 0, 0),
  (16, 3, .getfield (25), 6, 6, 0, 0),
  (19, 2, .bipush (40), 0, 0, 40, 0),
  (21, 1, .iload_n (1), 0, 0, 0, 0),
  (22, 1, .imul, 0, 0, 0, 0),
  (23, 1, .iload_n (3), 0, 0, 0, 0),
  (24, 1, .iadd, 0, 0, 0, 0),
  (25, 1, .iconst (0), 0, 0, 0, 0),
  (26, 1, .iastore, 0, 0, 0, 0),
  (27, 3, .iinc (3) (1), 0, 0, 1, 0),
  (30, 3, .goto (-21), 9, 0, 0, 0),
  (33, 1, .return_, 0, 0, 0, 0)]
def md_Mod_makeRow : Md := (y_Mod_makeRow, prog_8_method_10_code, 4, none, pm_Mod_makeRow)
theorem tk_Mod_makeRow : Tm md_Mod_makeRow := tab_of (o := 6) (by decide +kernel)
set_option maxRecDepth 100000 in
theorem ok_Mod_makeRow : MdOk md_Mod_makeRow 2 ∧ Cond.instanceMethod md_Mod_makeRow.1 ∈ T1 ∧ Cond.selects md_Mod_makeRow.1.cls md_Mod_makeRow.1 md_Mod_makeRow.1 ∈ T1 := ⟨⟨T1_in4 (i := 230) rfl rfl, T1_in1 (i := 8) rfl rfl, by decide +kernel, ⟨by decide +kernel, by decide +kernel⟩, by decide +kernel, by decide⟩, T1_in4 (i := 229) rfl rfl, T1_inP (i := 32) rfl⟩
def pm_Mod_lay : List PE := [(0, 1, .aload_n (0), 0, 0, 0, 0),
  (1, 1, .iload_n (1), 0, 0, 0, 0),
  (2, 1, .iload_n (2), 0, 0, 0, 0),
  (3, 3, .invokevirtual (92), 0, 0, 0, 0),
  (6, 2, .istore (4), 0, 0, 0, 0),
  (8, 2, .iload (4), 0, 0, 0, 0),
  (10, 3, .ifCond .eq (6), 16, 0, 0, 0),
  (13, 2, .iload (4), 0, 0, 0, 0),
  (15, 1, .ireturn, 0, 0, 0, 0),
  (16, 1, .aload_n (0), 0, 0, 0, 0),
  (17, 3, .getfield (25), 6, 6, 0, 0),
  (20, 2, .bipush (40), 0, 0, 40, 0),
  (22, 1, .iload_n (1), 0, 0, 0, 0),
  (23, 1, .imul, 0, 0, 0, 0),
  (24, 1, .iload_n (2), 0, 0, 0, 0),
  (25, 1, .iadd, 0, 0, 0, 0),
  (26, 1, .iaload, 0, 0, 0, 0),
  (27, 2, .istore (5), 0, 0, 0, 0),
  (29, 1, .aload_n (0), 0, 0, 0, 0),
  (30, 3, .getfield (25), 6, 6, 0, 0),
  (33, 2, .bipush (40), 0, 0, 40, 0),
  (35, 1, .iload_n (1), 0, 0, 0, 0),
  (36, 1, .imul, 0, 0, 0, 0),
  (37, 1, .iload_n (2), 0, 0, 0, 0),
  (38, 1, .iadd, 0, 0, 0, 0),
  (39, 1, .iload_n (3), 0, 0, 0, 0),
  (40, 1, .iastore, 0, 0, 0, 0),
  (41, 1, .aload_n (0), 0, 0, 0, 0),
  (42, 2, .iload (5), 0, 0, 0, 0),
  (44, 3, .invokevirtual (96), 0, 0, 0, 0),
  (47, 1, .ireturn, 0, 0, 0, 0)]
def md_Mod_lay : Md := (y_Mod_lay, prog_8_method_12_code, 6, (some .int), pm_Mod_lay)
theorem tk_Mod_lay : Tm md_Mod_lay := tab_of (o := 6) (by decide +kernel)
set_option maxRecDepth 100000 in
theorem ok_Mod_lay : MdOk md_Mod_lay 3 ∧ Cond.instanceMethod md_Mod_lay.1 ∈ T1 ∧ Cond.selects md_Mod_lay.1.cls md_Mod_lay.1 md_Mod_lay.1 ∈ T1 := ⟨⟨T1_in4 (i := 234) rfl rfl, T1_in1 (i := 8) rfl rfl, by decide +kernel, ⟨by decide +kernel, by decide +kernel⟩, by decide +kernel, by decide⟩, T1_in4 (i := 232) rfl rfl, T1_in4 (i := 233) rfl rfl⟩
def pm_Mod_refused : List PE := [(0, 1, .iload_n (1), 0, 0, 0, 0),
  (1, 3, .invokestatic (80), 0, 0, 0, 0),
  (4, 3, .ifCond .ne (7), 11, 0, 0, 0),
  (7, 1, .iconst (-1), 0, 0, (-1), 0),
  (8, 3, .goto (47), 55, 0, 0, 0),
  (11, 1, .aload_n (0), 0, 0, 0, 0),
  (12, 3, .getfield (22), 6, 5, 0, 0),
  (15, 1, .iload_n (1), 0, 0, 0, 0),
  (16, 1, .iaload, 0, 0, 0, 0),
  (17, 3, .ifCond .ge (11), 28, 0, 0, 0),
  (20, 1, .aload_n (0), 0, 0, 0, 0),
  (21, 1, .iconst (1), 0, 0, 1, 0),
  (22, 3, .invokevirtual (84), 0, 0, 0, 0),
  (25, 3, .goto (30), 55, 0, 0, 0),
  (28, 1, .iload_n (2), 0, 0, 0, 0),
  (29, 1, .i2l, 0, 0, 0, 0),
  (30, 1, .lconst (0), 0, 0, 0, 0),
  (31, 1, .aload_n (0), 0, 0, 0, 0),
  (32, 3, .getfield (22), 6, 5, 0, 0),
  (35, 1, .iload_n (1), 0, 0, 0, 0),
  (36, 1, .iaload, 0, 0, 0, 0),
  (37, 1, .iconst (1), 0, 0, 1, 0),
  (38, 1, .isub, 0, 0, 0, 0),
  (39, 1, .i2l, 0, 0, 0, 0),
  (40, 3, .invokestatic (74), 0, 0, 0, 0),
  (43, 3, .ifCond .eq (7), 50, 0, 0, 0),
  (46, 1, .iconst (0), 0, 0, 0, 0),
  (47, 3, .goto (8), 55, 0, 0, 0),
  (50, 1, .aload_n (0), 0, 0, 0, 0),
  (51, 1, .iconst (2), 0, 0, 2, 0),
  (52, 3, .invokevirtual (84), 0, 0, 0, 0),
  (55, 1, .ireturn, 0, 0, 0, 0)]
def md_Mod_refused : Md := (y_Mod_refused, prog_8_method_11_code, 3, (some .int), pm_Mod_refused)
theorem tk_Mod_refused : Tm md_Mod_refused := tab_of (o := 6) (by decide +kernel)
set_option maxRecDepth 100000 in
theorem ok_Mod_refused : MdOk md_Mod_refused 2 ∧ Cond.instanceMethod md_Mod_refused.1 ∈ T1 ∧ Cond.selects md_Mod_refused.1.cls md_Mod_refused.1 md_Mod_refused.1 ∈ T1 := ⟨⟨T1_in4 (i := 238) rfl rfl, T1_in1 (i := 8) rfl rfl, by decide +kernel, ⟨by decide +kernel, by decide +kernel⟩, by decide +kernel, by decide⟩, T1_in4 (i := 237) rfl rfl, T1_inP (i := 33) rfl⟩
def pm_Mod_tell : List PE := [(0, 1, .aload_n (0), 0, 0, 0, 0),
  (1, 1, .iload_n (1), 0, 0, 0, 0),
  (2, 3, .putfield (69), 6, 9, 0, 0),
  (5, 1, .iconst (1), 0, 0, 1, 0),
  (6, 1, .ireturn, 0, 0, 0, 0)]
def md_Mod_tell : Md := (y_Mod_tell, prog_8_method_6_code, 2, (some .int), pm_Mod_tell)
theorem tk_Mod_tell : Tm md_Mod_tell := tab_of (o := 6) (by decide +kernel)
set_option maxRecDepth 100000 in
theorem ok_Mod_tell : MdOk md_Mod_tell 1 ∧ Cond.instanceMethod md_Mod_tell.1 ∈ T1 ∧ Cond.selects md_Mod_tell.1.cls md_Mod_tell.1 md_Mod_tell.1 ∈ T1 := ⟨⟨T1_in5 (i := 2) rfl rfl, T1_in1 (i := 8) rfl rfl, by decide +kernel, ⟨by decide +kernel, by decide +kernel⟩, by decide +kernel, by decide⟩, T1_in5 (i := 1) rfl rfl, T1_inP (i := 34) rfl⟩
def pm_Mod_at : List PE := [(0, 1, .aload_n (0), 0, 0, 0, 0),
  (1, 1, .iload_n (1), 0, 0, 0, 0),
  (2, 1, .iload_n (2), 0, 0, 0, 0),
  (3, 3, .invokevirtual (92), 0, 0, 0, 0),
  (6, 1, .istore_n (3), 0, 0, 0, 0),
  (7, 1, .iload_n (3), 0, 0, 0, 0),
  (8, 3, .ifCond .eq (7), 15, 0, 0, 0),
  (11, 1, .iload_n (3), 0, 0, 0, 0),
  (12, 3, .goto (18), 30, 0, 0, 0),
  (15, 1, .aload_n (0), 0, 0, 0, 0),
  (16, 1, .aload_n (0), 0, 0, 0, 0),
  (17, 3, .getfield (25), 6, 6, 0, 0),
  (20, 2, .bipush (40), 0, 0, 40, 0),
  (22, 1, .iload_n (1), 0, 0, 0, 0),
  (23, 1, .imul, 0, 0, 0, 0),
  (24, 1, .iload_n (2), 0, 0, 0, 0),
  (25, 1, .iadd, 0, 0, 0, 0),
  (26, 1, .iaload, 0, 0, 0, 0),
  (27, 3, .invokevirtual (96), 0, 0, 0, 0),
  (30, 1, .ireturn, 0, 0, 0, 0)]
def md_Mod_at : Md := (y_Mod_at, prog_8_method_13_code, 4, (some .int), pm_Mod_at)
theorem tk_Mod_at : Tm md_Mod_at := tab_of (o := 6) (by decide +kernel)
set_option maxRecDepth 100000 in
theorem ok_Mod_at : MdOk md_Mod_at 2 ∧ Cond.instanceMethod md_Mod_at.1 ∈ T1 ∧ Cond.selects md_Mod_at.1.cls md_Mod_at.1 md_Mod_at.1 ∈ T1 := ⟨⟨T1_in5 (i := 6) rfl rfl, T1_in1 (i := 8) rfl rfl, by decide +kernel, ⟨by decide +kernel, by decide +kernel⟩, by decide +kernel, by decide⟩, T1_in5 (i := 4) rfl rfl, T1_in5 (i := 5) rfl rfl⟩
def pm_Mod_tear : List PE := [(0, 1, .iload_n (1), 0, 0, 0, 0),
  (1, 3, .invokestatic (80), 0, 0, 0, 0),
  (4, 3, .ifCond .ne (5), 9, 0, 0, 0),
  (7, 1, .iconst (-1), 0, 0, (-1), 0),
  (8, 1, .ireturn, 0, 0, 0, 0),
  (9, 1, .aload_n (0), 0, 0, 0, 0),
  (10, 3, .getfield (22), 6, 5, 0, 0),
  (13, 1, .iload_n (1), 0, 0, 0, 0),
  (14, 1, .iaload, 0, 0, 0, 0),
  (15, 3, .ifCond .ge (9), 24, 0, 0, 0),
  (18, 1, .aload_n (0), 0, 0, 0, 0),
  (19, 1, .iconst (1), 0, 0, 1, 0),
  (20, 3, .invokevirtual (84), 0, 0, 0, 0),
  (23, 1, .ireturn, 0, 0, 0, 0),
  (24, 1, .aload_n (0), 0, 0, 0, 0),
  (25, 3, .getfield (22), 6, 5, 0, 0),
  (28, 1, .iload_n (1), 0, 0, 0, 0),
  (29, 1, .iconst (-1), 0, 0, (-1), 0),
  (30, 1, .iastore, 0, 0, 0, 0),
  (31, 1, .iconst (1), 0, 0, 1, 0),
  (32, 1, .ireturn, 0, 0, 0, 0)]
def md_Mod_tear : Md := (y_Mod_tear, prog_8_method_14_code, 2, (some .int), pm_Mod_tear)
theorem tk_Mod_tear : Tm md_Mod_tear := tab_of (o := 6) (by decide +kernel)
set_option maxRecDepth 100000 in
theorem ok_Mod_tear : MdOk md_Mod_tear 1 ∧ Cond.instanceMethod md_Mod_tear.1 ∈ T1 ∧ Cond.selects md_Mod_tear.1.cls md_Mod_tear.1 md_Mod_tear.1 ∈ T1 := ⟨⟨T1_in5 (i := 10) rfl rfl, T1_in1 (i := 8) rfl rfl, by decide +kernel, ⟨by decide +kernel, by decide +kernel⟩, by decide +kernel, by decide⟩, T1_in5 (i := 8) rfl rfl, T1_in5 (i := 9) rfl rfl⟩
def pm_Mod_copy : List PE := [(0, 1, .iload_n (1), 0, 0, 0, 0),
  (1, 3, .invokestatic (80), 0, 0, 0, 0),
  (4, 3, .ifCond .eq (10), 14, 0, 0, 0),
  (7, 1, .iload_n (3), 0, 0, 0, 0),
  (8, 3, .invokestatic (80), 0, 0, 0, 0),
  (11, 3, .ifCond .ne (5), 16, 0, 0, 0),
  (14, 1, .iconst (-1), 0, 0, (-1), 0),
  (15, 1, .ireturn, 0, 0, 0, 0),
  (16, 2, .iload (5), 0, 0, 0, 0),
  (18, 3, .ifCond .ge (9), 27, 0, 0, 0),
  (21, 1, .aload_n (0), 0, 0, 0, 0),
  (22, 1, .iconst (5), 0, 0, 5, 0),
  (23, 3, .invokevirtual (84), 0, 0, 0, 0),
  (26, 1, .ireturn, 0, 0, 0, 0),
  (27, 1, .aload_n (0), 0, 0, 0, 0),
  (28, 3, .getfield (22), 6, 5, 0, 0),
  (31, 1, .iload_n (1), 0, 0, 0, 0),
  (32, 1, .iaload, 0, 0, 0, 0),
  (33, 3, .ifCond .lt (12), 45, 0, 0, 0),
  (36, 1, .aload_n (0), 0, 0, 0, 0),
  (37, 3, .getfield (22), 6, 5, 0, 0),
  (40, 1, .iload_n (3), 0, 0, 0, 0),
  (41, 1, .iaload, 0, 0, 0, 0),
  (42, 3, .ifCond .ge (9), 51, 0, 0, 0),
  (45, 1, .aload_n (0), 0, 0, 0, 0),
  (46, 1, .iconst (1), 0, 0, 1, 0),
  (47, 3, .invokevirtual (84), 0, 0, 0, 0),
  (50, 1, .ireturn, 0, 0, 0, 0),
  (51, 1, .aload_n (0), 0, 0, 0, 0),
  (52, 1, .iload_n (1), 0, 0, 0, 0),
  (53, 1, .iload_n (2), 0, 0, 0, 0),
  (54, 2, .iload (5), 0, 0, 0, 0),
  (56, 3, .invokevirtual (99), 0, 0, 0, 0),
  (59, 3, .ifCond .eq (15), 74, 0, 0, 0),
  (62, 1, .aload_n (0), 0, 0, 0, 0),
  (63, 1, .iload_n (3), 0, 0, 0, 0),
  (64, 2, .iload (4), 0, 0, 0, 0),
  (66, 2, .iload (5), 0, 0, 0, 0),
  (68, 3, .invokevirtual (99), 0, 0, 0, 0),
  (71, 3, .ifCond .ne (9), 80, 0, 0, 0),
  (74, 1, .aload_n (0), 0, 0, 0, 0),
  (75, 1, .iconst (2), 0, 0, 2, 0),
  (76, 3, .invokevirtual (84), 0, 0, 0, 0),
  (79, 1, .ireturn, 0, 0, 0, 0),
  (80, 1, .iload_n (2), 0, 0, 0, 0),
  (81, 2, .iload (4), 0, 0, 0, 0),
  (83, 3, .if_icmp .ge (7), 90, 0, 0, 0),
  (86, 1, .iconst (1), 0, 0, 1, 0),
  (87, 3, .goto (4), 91, 0, 0, 0),
  (90, 1, .iconst (0), 0, 0, 0, 0),
  (91, 2, .istore (6), 0, 0, 0, 0),
  (93, 1, .iconst (0), 0, 0, 0, 0),
  (94, 2, .istore (7), 0, 0, 0, 0),
  (96, 2, .iload (7), 0, 0, 0, 0),
  (98, 2, .iload (5), 0, 0, 0, 0),
  (100, 3, .if_icmp .ge (57), 157, 0, 0, 0),
  (103, 2, .iload (6), 0, 0, 0, 0),
  (105, 3, .ifCond .eq (13), 118, 0, 0, 0),
  (108, 2, .iload (5), 0, 0, 0, 0),
  (110, 1, .iconst (1), 0, 0, 1, 0),
  (111, 1, .isub, 0, 0, 0, 0),
  (112, 2, .iload (7), 0, 0, 0, 0),
  (114, 1, .isub, 0, 0, 0, 0),
  (115, 3, .goto (5), 120, 0, 0, 0),
  (118, 2, .iload (7), 0, 0, 0, 0),
  (120, 2, .istore (8), 0, 0, 0, 0),
  (122, 1, .aload_n (0), 0, 0, 0, 0),
  (123, 3, .getfield (25), 6, 6, 0, 0),
  (126, 2, .bipush (40), 0, 0, 40, 0),
  (128, 1, .iload_n (3), 0, 0, 0, 0),
  (129, 1, .imul, 0, 0, 0, 0),
  (130, 2, .iload (4), 0, 0, 0, 0),
  (132, 1, .iadd, 0, 0, 0, 0),
  (133, 2, .iload (8), 0, 0, 0, 0),
  (135, 1, .iadd, 0, 0, 0, 0),
  (136, 1, .aload_n (0), 0, 0, 0, 0),
  (137, 3, .getfield (25), 6, 6, 0, 0),
  (140, 2, .bipush (40), 0, 0, 40, 0),
  (142, 1, .iload_n (1), 0, 0, 0, 0),
  (143, 1, .imul, 0, 0, 0, 0),
  (144, 1, .iload_n (2), 0, 0, 0, 0),
  (145, 1, .iadd, 0, 0, 0, 0),
  (146, 2, .iload (8), 0, 0, 0, 0),
  (148, 1, .iadd, 0, 0, 0, 0),
  (149, 1, .iaload, 0, 0, 0, 0),
  (150, 1, .iastore, 0, 0, 0, 0),
  (151, 3, .iinc (7) (1), 0, 0, 1, 0),
  (154, 3, .goto (-58), 96, 0, 0, 0),
  (157, 1, .iconst (1), 0, 0, 1, 0),
  (158, 1, .ireturn, 0, 0, 0, 0)]
def md_Mod_copy : Md := (y_Mod_copy, prog_8_method_16_code, 9, (some .int), pm_Mod_copy)
theorem tk_Mod_copy : Tm md_Mod_copy := tab_of (o := 6) (by decide +kernel)
set_option maxRecDepth 100000 in
theorem ok_Mod_copy : MdOk md_Mod_copy 5 ∧ Cond.instanceMethod md_Mod_copy.1 ∈ T1 ∧ Cond.selects md_Mod_copy.1.cls md_Mod_copy.1 md_Mod_copy.1 ∈ T1 := ⟨⟨T1_in5 (i := 14) rfl rfl, T1_in1 (i := 8) rfl rfl, by decide +kernel, ⟨by decide +kernel, by decide +kernel⟩, by decide +kernel, by decide⟩, T1_in5 (i := 12) rfl rfl, T1_in5 (i := 13) rfl rfl⟩
def pm_Mod_isSpan : List PE := [(0, 1, .iload_n (2), 0, 0, 0, 0),
  (1, 3, .ifCond .lt (23), 24, 0, 0, 0),
  (4, 1, .iload_n (2), 0, 0, 0, 0),
  (5, 1, .i2l, 0, 0, 0, 0),
  (6, 1, .iload_n (3), 0, 0, 0, 0),
  (7, 1, .i2l, 0, 0, 0, 0),
  (8, 1, .ladd, 0, 0, 0, 0),
  (9, 1, .aload_n (0), 0, 0, 0, 0),
  (10, 3, .getfield (22), 6, 5, 0, 0),
  (13, 1, .iload_n (1), 0, 0, 0, 0),
  (14, 1, .iaload, 0, 0, 0, 0),
  (15, 1, .i2l, 0, 0, 0, 0),
  (16, 1, .lcmp, 0, 0, 0, 0),
  (17, 3, .ifCond .gt (7), 24, 0, 0, 0),
  (20, 1, .iconst (1), 0, 0, 1, 0),
  (21, 3, .goto (4), 25, 0, 0, 0),
  (24, 1, .iconst (0), 0, 0, 0, 0),
  (25, 1, .ireturn, 0, 0, 0, 0)]
def md_Mod_isSpan : Md := (y_Mod_isSpan, prog_8_method_15_code, 4, (some .boolean), pm_Mod_isSpan)
theorem tk_Mod_isSpan : Tm md_Mod_isSpan := tab_of (o := 6) (by decide +kernel)
set_option maxRecDepth 100000 in
theorem ok_Mod_isSpan : MdOk md_Mod_isSpan 3 ∧ Cond.instanceMethod md_Mod_isSpan.1 ∈ T1 ∧ Cond.selects md_Mod_isSpan.1.cls md_Mod_isSpan.1 md_Mod_isSpan.1 ∈ T1 := ⟨⟨T1_in5 (i := 18) rfl rfl, T1_in1 (i := 8) rfl rfl, by decide +kernel, ⟨by decide +kernel, by decide +kernel⟩, by decide +kernel, by decide⟩, T1_in5 (i := 17) rfl rfl, T1_inP (i := 35) rfl⟩
def pm_Mod_mean : List PE := [(0, 1, .iload_n (1), 0, 0, 0, 0),
  (1, 3, .invokestatic (80), 0, 0, 0, 0),
  (4, 3, .ifCond .ne (5), 9, 0, 0, 0),
  (7, 1, .iconst (-1), 0, 0, (-1), 0),
  (8, 1, .ireturn, 0, 0, 0, 0),
  (9, 1, .aload_n (0), 0, 0, 0, 0),
  (10, 3, .getfield (22), 6, 5, 0, 0),
  (13, 1, .iload_n (1), 0, 0, 0, 0),
  (14, 1, .iaload, 0, 0, 0, 0),
  (15, 3, .ifCond .ge (9), 24, 0, 0, 0),
  (18, 1, .aload_n (0), 0, 0, 0, 0),
  (19, 1, .iconst (1), 0, 0, 1, 0),
  (20, 3, .invokevirtual (84), 0, 0, 0, 0),
  (23, 1, .ireturn, 0, 0, 0, 0),
  (24, 1, .aload_n (0), 0, 0, 0, 0),
  (25, 3, .getfield (22), 6, 5, 0, 0),
  (28, 1, .iload_n (1), 0, 0, 0, 0),
  (29, 1, .iaload, 0, 0, 0, 0),
  (30, 3, .ifCond .ne (9), 39, 0, 0, 0),
  (33, 1, .aload_n (0), 0, 0, 0, 0),
  (34, 1, .iconst (4), 0, 0, 4, 0),
  (35, 3, .invokevirtual (84), 0, 0, 0, 0),
  (38, 1, .ireturn, 0, 0, 0, 0),
  (39, 1, .lconst (0), 0, 0, 0, 0),
  (40, 1, .lstore_n (2), 0, 0, 0, 0),
  (41, 1, .iconst (0), 0, 0, 0, 0),
  (42, 2, .istore (4), 0, 0, 0, 0),
  (44, 2, .iload (4), 0, 0, 0, 0),
  (46, 1, .aload_n (0), 0, 0, 0, 0),
  (47, 3, .getfield (22), 6, 5, 0, 0),
  (50, 1, .iload_n (1), 0, 0, 0, 0),
  (51, 1, .iaload, 0, 0, 0, 0),
  (52, 3, .if_icmp .ge (25), 77, 0, 0, 0),
  (55, 1, .lload_n (2), 0, 0, 0, 0),
  (56, 1, .aload_n (0), 0, 0, 0, 0),
  (57, 3, .getfield (25), 6, 6, 0, 0),
  (60, 2, .bipush (40), 0, 0, 40, 0),
  (62, 1, .iload_n (1), 0, 0, 0, 0),
  (63, 1, .imul, 0, 0, 0, 0),
  (64, 2, .iload (4), 0, 0, 0, 0),
  (66, 1, .iadd, 0, 0, 0, 0),
  (67, 1, .iaload, 0, 0, 0, 0),
  (68, 1, .i2l, 0, 0, 0, 0),
  (69, 1, .ladd, 0, 0, 0, 0),
  (70, 1, .lstore_n (2), 0, 0, 0, 0),
  (71, 3, .iinc (4) (1), 0, 0, 1, 0),
  (74, 3, .goto (-30), 44, 0, 0, 0),
  (77, 1, .aload_n (0), 0, 0, 0, 0),
  (78, 1, .lload_n (2), 0, 0, 0, 0),
  (79, 1, .aload_n (0), 0, 0, 0, 0),
  (80, 3, .getfield (22), 6, 5, 0, 0),
  (83, 1, .iload_n (1), 0, 0, 0, 0),
  (84, 1, .iaload, 0, 0, 0, 0),
  (85, 1, .i2l, 0, 0, 0, 0),
  (86, 1, .ldiv, 0, 0, 0, 0),
  (87, 1, .l2i, 0, 0, 0, 0),
  (88, 3, .invokevirtual (96), 0, 0, 0, 0),
  (91, 1, .ireturn, 0, 0, 0, 0)]
def md_Mod_mean : Md := (y_Mod_mean, prog_8_method_17_code, 5, (some .int), pm_Mod_mean)
theorem tk_Mod_mean : Tm md_Mod_mean := tab_of (o := 6) (by decide +kernel)
set_option maxRecDepth 100000 in
theorem ok_Mod_mean : MdOk md_Mod_mean 1 ∧ Cond.instanceMethod md_Mod_mean.1 ∈ T1 ∧ Cond.selects md_Mod_mean.1.cls md_Mod_mean.1 md_Mod_mean.1 ∈ T1 := ⟨⟨T1_in5 (i := 22) rfl rfl, T1_in1 (i := 8) rfl rfl, by decide +kernel, ⟨by decide +kernel, by decide +kernel⟩, by decide +kernel, by decide⟩, T1_in5 (i := 20) rfl rfl, T1_in5 (i := 21) rfl rfl⟩
def pm_Mod_text : List PE := [(0, 1, .iload_n (1), 0, 0, 0, 0),
  (1, 3, .invokestatic (103), 0, 0, 0, 0),
  (4, 3, .ifCond .eq (9), 13, 0, 0, 0),
  (7, 1, .iload_n (2), 0, 0, 0, 0),
  (8, 2, .bipush (60), 0, 0, 60, 0),
  (10, 3, .if_icmp .le (5), 15, 0, 0, 0),
  (13, 1, .iconst (-1), 0, 0, (-1), 0),
  (14, 1, .ireturn, 0, 0, 0, 0),
  (15, 1, .iload_n (2), 0, 0, 0, 0),
  (16, 3, .ifCond .ge (9), 25, 0, 0, 0),
  (19, 1, .aload_n (0), 0, 0, 0, 0),
  (20, 1, .iconst (5), 0, 0, 5, 0),
  (21, 3, .invokevirtual (84), 0, 0, 0, 0),
  (24, 1, .ireturn, 0, 0, 0, 0),
  (25, 1, .aload_n (0), 0, 0, 0, 0),
  (26, 3, .getfield (28), 6, 7, 0, 0),
  (29, 1, .iload_n (1), 0, 0, 0, 0),
  (30, 1, .iload_n (2), 0, 0, 0, 0),
  (31, 1, .iastore, 0, 0, 0, 0),
  (32, 1, .iconst (0), 0, 0, 0, 0),
  (33, 1, .istore_n (3), 0, 0, 0, 0),
  (34, 1, .iload_n (3), 0, 0, 0, 0),
  (35, 2, .bipush (60), 0, 0, 60, 0),
  (37, 3, .if_icmp .ge (22), 59, 0, 0, 0),
  (40, 1, .aload_n (0), 0, 0, 0, 0),
  (41, 3, .getfield (31), 6, 8, 0, 0),
  (44, 2, .bipush (60), 0, 0, 60, 0),
  (46, 1, .iload_n (1), 0, 0, 0, 0),
  (47, 1, .imul, 0, 0, 0, 0),
  (48, 1, .iload_n (3), 0, 0, 0, 0),
  (49, 1, .iadd, 0, 0, 0, 0),
  (50, 2, .bipush (32), 0, 0, 32, 0),
  (52, 1, .iastore, 0, 0, 0, 0),
  (53, 3, .iinc (3) (1), 0, 0, 1, 0),
  (56, 3, .goto (-22), 34, 0, 0, 0),
  (59, 1, .iload_n (2), 0, 0, 0, 0),
  (60, 1, .ireturn, 0, 0, 0, 0)]
def md_Mod_text : Md := (y_Mod_text, prog_8_method_18_code, 4, (some .int), pm_Mod_text)
theorem tk_Mod_text : Tm md_Mod_text := tab_of (o := 6) (by decide +kernel)
set_option maxRecDepth 100000 in
theorem ok_Mod_text : MdOk md_Mod_text 2 ∧ Cond.instanceMethod md_Mod_text.1 ∈ T1 ∧ Cond.selects md_Mod_text.1.cls md_Mod_text.1 md_Mod_text.1 ∈ T1 := ⟨⟨T1_in5 (i := 26) rfl rfl, T1_in1 (i := 8) rfl rfl, by decide +kernel, ⟨by decide +kernel, by decide +kernel⟩, by decide +kernel, by decide⟩, T1_in5 (i := 24) rfl rfl, T1_in5 (i := 25) rfl rfl⟩
def pm_Mod_isText : List PE := [(0, 1, .iload_n (0), 0, 0, 0, 0),
  (1, 1, .i2l, 0, 0, 0, 0),
  (2, 1, .lconst (0), 0, 0, 0, 0),
  (3, 3, .ldc2_w (78), 0, 0, 0, 3),
  (6, 3, .invokestatic (74), 0, 0, 0, 0),
  (9, 1, .ireturn, 0, 0, 0, 0)]
def md_Mod_isText : Md := (y_Mod_isText, prog_8_method_8_code, 1, (some .boolean), pm_Mod_isText)
theorem tk_Mod_isText : Tm md_Mod_isText := tab_of (o := 6) (by decide +kernel)
set_option maxRecDepth 100000 in
theorem ok_Mod_isText : MdOk md_Mod_isText 1 ∧ Cond.static md_Mod_isText.1 ∈ T1 := ⟨⟨T1_in5 (i := 29) rfl rfl, T1_in1 (i := 8) rfl rfl, by decide +kernel, ⟨by decide +kernel, by decide +kernel⟩, by decide +kernel, by decide⟩, T1_in5 (i := 28) rfl rfl⟩
def pm_Mod_put : List PE := [(0, 1, .iload_n (1), 0, 0, 0, 0),
  (1, 3, .invokestatic (103), 0, 0, 0, 0),
  (4, 3, .ifCond .ne (5), 9, 0, 0, 0),
  (7, 1, .iconst (-1), 0, 0, (-1), 0),
  (8, 1, .ireturn, 0, 0, 0, 0),
  (9, 1, .aload_n (0), 0, 0, 0, 0),
  (10, 3, .getfield (28), 6, 7, 0, 0),
  (13, 1, .iload_n (1), 0, 0, 0, 0),
  (14, 1, .iaload, 0, 0, 0, 0),
  (15, 3, .ifCond .ge (9), 24, 0, 0, 0),
  (18, 1, .aload_n (0), 0, 0, 0, 0),
  (19, 1, .iconst (1), 0, 0, 1, 0),
  (20, 3, .invokevirtual (84), 0, 0, 0, 0),
  (23, 1, .ireturn, 0, 0, 0, 0),
  (24, 1, .iload_n (2), 0, 0, 0, 0),
  (25, 1, .i2l, 0, 0, 0, 0),
  (26, 1, .lconst (0), 0, 0, 0, 0),
  (27, 1, .aload_n (0), 0, 0, 0, 0),
  (28, 3, .getfield (28), 6, 7, 0, 0),
  (31, 1, .iload_n (1), 0, 0, 0, 0),
  (32, 1, .iaload, 0, 0, 0, 0),
  (33, 1, .iconst (1), 0, 0, 1, 0),
  (34, 1, .isub, 0, 0, 0, 0),
  (35, 1, .i2l, 0, 0, 0, 0),
  (36, 3, .invokestatic (74), 0, 0, 0, 0),
  (39, 3, .ifCond .ne (9), 48, 0, 0, 0),
  (42, 1, .aload_n (0), 0, 0, 0, 0),
  (43, 1, .iconst (2), 0, 0, 2, 0),
  (44, 3, .invokevirtual (84), 0, 0, 0, 0),
  (47, 1, .ireturn, 0, 0, 0, 0),
  (48, 1, .aload_n (0), 0, 0, 0, 0),
  (49, 3, .getfield (31), 6, 8, 0, 0),
  (52, 2, .bipush (60), 0, 0, 60, 0),
  (54, 1, .iload_n (1), 0, 0, 0, 0),
  (55, 1, .imul, 0, 0, 0, 0),
  (56, 1, .iload_n (2), 0, 0, 0, 0),
  (57, 1, .iadd, 0, 0, 0, 0),
  (58, 1, .iaload, 0, 0, 0, 0),
  (59, 2, .istore (4), 0, 0, 0, 0),
  (61, 1, .aload_n (0), 0, 0, 0, 0),
  (62, 3, .getfield (31), 6, 8, 0, 0),
  (65, 2, .bipush (60), 0, 0, 60, 0),
  (67, 1, .iload_n (1), 0, 0, 0, 0),
  (68, 1, .imul, 0, 0, 0, 0),
  (69, 1, .iload_n (2), 0, 0, 0, 0),
  (70, 1, .iadd, 0, 0, 0, 0),
  (71, 1, .iload_n (3), 0, 0, 0, 0),
  (72, 1, .i2b, 0, 0, 0, 0),
  (73, 1, .iastore, 0, 0, 0, 0),
  (74, 2, .iload (4), 0, 0, 0, 0),
  (76, 3, .sipush (1000), 0, 0, 1000, 0),
  (79, 1, .iadd, 0, 0, 0, 0),
  (80, 1, .ireturn, 0, 0, 0, 0)]
def md_Mod_put : Md := (y_Mod_put, prog_8_method_19_code, 5, (some .int), pm_Mod_put)
theorem tk_Mod_put : Tm md_Mod_put := tab_of (o := 6) (by decide +kernel)
set_option maxRecDepth 100000 in
theorem ok_Mod_put : MdOk md_Mod_put 3 ∧ Cond.instanceMethod md_Mod_put.1 ∈ T1 ∧ Cond.selects md_Mod_put.1.cls md_Mod_put.1 md_Mod_put.1 ∈ T1 := ⟨⟨T1_in5 (i := 34) rfl rfl, T1_in1 (i := 8) rfl rfl, by decide +kernel, ⟨by decide +kernel, by decide +kernel⟩, by decide +kernel, by decide⟩, T1_in5 (i := 32) rfl rfl, T1_in5 (i := 33) rfl rfl⟩
def pm_Mod_fault : List PE := [(0, 1, .iload_n (1), 0, 0, 0, 0),
  (1, 3, .invokestatic (103), 0, 0, 0, 0),
  (4, 3, .ifCond .ne (5), 9, 0, 0, 0),
  (7, 1, .iconst (-1), 0, 0, (-1), 0),
  (8, 1, .ireturn, 0, 0, 0, 0),
  (9, 1, .aload_n (0), 0, 0, 0, 0),
  (10, 3, .getfield (28), 6, 7, 0, 0),
  (13, 1, .iload_n (1), 0, 0, 0, 0),
  (14, 1, .iaload, 0, 0, 0, 0),
  (15, 3, .ifCond .ge (11), 26, 0, 0, 0),
  (18, 1, .aload_n (0), 0, 0, 0, 0),
  (19, 1, .iconst (1), 0, 0, 1, 0),
  (20, 3, .invokevirtual (84), 0, 0, 0, 0),
  (23, 3, .goto (8), 31, 0, 0, 0),
  (26, 1, .aload_n (0), 0, 0, 0, 0),
  (27, 1, .iload_n (1), 0, 0, 0, 0),
  (28, 3, .invokevirtual (140), 0, 0, 0, 0),
  (31, 1, .ireturn, 0, 0, 0, 0)]
def md_Mod_fault : Md := (y_Mod_fault, prog_8_method_27_code, 2, (some .int), pm_Mod_fault)
theorem tk_Mod_fault : Tm md_Mod_fault := tab_of (o := 6) (by decide +kernel)
set_option maxRecDepth 100000 in
theorem ok_Mod_fault : MdOk md_Mod_fault 1 ∧ Cond.instanceMethod md_Mod_fault.1 ∈ T1 ∧ Cond.selects md_Mod_fault.1.cls md_Mod_fault.1 md_Mod_fault.1 ∈ T1 := ⟨⟨T1_in5 (i := 38) rfl rfl, T1_in1 (i := 8) rfl rfl, by decide +kernel, ⟨by decide +kernel, by decide +kernel⟩, by decide +kernel, by decide⟩, T1_in5 (i := 36) rfl rfl, T1_in5 (i := 37) rfl rfl⟩
def pm_Mod_faultOf : List PE := [(0, 1, .aload_n (0), 0, 0, 0, 0),
  (1, 2, .bipush (60), 0, 0, 60, 0),
  (3, 1, .iload_n (1), 0, 0, 0, 0),
  (4, 1, .imul, 0, 0, 0, 0),
  (5, 3, .putfield (106), 6, 14, 0, 0),
  (8, 1, .aload_n (0), 0, 0, 0, 0),
  (9, 1, .iconst (0), 0, 0, 0, 0),
  (10, 3, .putfield (109), 6, 15, 0, 0),
  (13, 1, .aload_n (0), 0, 0, 0, 0),
  (14, 1, .aload_n (0), 0, 0, 0, 0),
  (15, 3, .getfield (28), 6, 7, 0, 0),
  (18, 1, .iload_n (1), 0, 0, 0, 0),
  (19, 1, .iaload, 0, 0, 0, 0),
  (20, 3, .putfield (112), 6, 16, 0, 0),
  (23, 1, .aload_n (0), 0, 0, 0, 0),
  (24, 1, .iconst (0), 0, 0, 0, 0),
  (25, 3, .putfield (130), 6, 19, 0, 0),
  (28, 1, .aload_n (0), 0, 0, 0, 0),
  (29, 3, .invokevirtual (133), 0, 0, 0, 0),
  (32, 1, .istore_n (2), 0, 0, 0, 0),
  (33, 1, .iload_n (2), 0, 0, 0, 0),
  (34, 3, .ifCond .eq (7), 41, 0, 0, 0),
  (37, 1, .aload_n (0), 0, 0, 0, 0),
  (38, 3, .invokevirtual (121), 0, 0, 0, 0),
  (41, 1, .iload_n (2), 0, 0, 0, 0),
  (42, 3, .ifCond .eq (22), 64, 0, 0, 0),
  (45, 1, .aload_n (0), 0, 0, 0, 0),
  (46, 3, .getfield (109), 6, 15, 0, 0),
  (49, 1, .aload_n (0), 0, 0, 0, 0),
  (50, 3, .getfield (112), 6, 16, 0, 0),
  (53, 3, .if_icmp .ge (11), 64, 0, 0, 0),
  (56, 1, .aload_n (0), 0, 0, 0, 0),
  (57, 3, .invokevirtual (137), 0, 0, 0, 0),
  (60, 1, .istore_n (2), 0, 0, 0, 0),
  (61, 3, .goto (-20), 41, 0, 0, 0),
  (64, 1, .iload_n (2), 0, 0, 0, 0),
  (65, 3, .ifCond .eq (15), 80, 0, 0, 0),
  (68, 1, .aload_n (0), 0, 0, 0, 0),
  (69, 3, .getfield (130), 6, 19, 0, 0),
  (72, 3, .ifCond .le (8), 80, 0, 0, 0),
  (75, 2, .bipush (-9), 0, 0, (-9), 0),
  (77, 3, .goto (7), 84, 0, 0, 0),
  (80, 1, .aload_n (0), 0, 0, 0, 0),
  (81, 3, .getfield (109), 6, 15, 0, 0),
  (84, 1, .ireturn, 0, 0, 0, 0)]
def md_Mod_faultOf : Md := (y_Mod_faultOf, prog_8_method_26_code, 3, (some .int), pm_Mod_faultOf)
theorem tk_Mod_faultOf : Tm md_Mod_faultOf := tab_of (o := 6) (by decide +kernel)
set_option maxRecDepth 100000 in
theorem ok_Mod_faultOf : MdOk md_Mod_faultOf 1 ∧ Cond.instanceMethod md_Mod_faultOf.1 ∈ T1 ∧ Cond.selects md_Mod_faultOf.1.cls md_Mod_faultOf.1 md_Mod_faultOf.1 ∈ T1 := ⟨⟨T1_in5 (i := 42) rfl rfl, T1_in1 (i := 8) rfl rfl, by decide +kernel, ⟨by decide +kernel, by decide +kernel⟩, by decide +kernel, by decide⟩, T1_in5 (i := 41) rfl rfl, T1_inP (i := 36) rfl⟩
def pm_Mod_readsCold : List PE := [(0, 1, .aload_n (0), 0, 0, 0, 0),
  (1, 3, .invokevirtual (121), 0, 0, 0, 0),
  (4, 1, .aload_n (0), 0, 0, 0, 0),
  (5, 3, .getfield (109), 6, 15, 0, 0),
  (8, 1, .aload_n (0), 0, 0, 0, 0),
  (9, 3, .getfield (112), 6, 16, 0, 0),
  (12, 3, .if_icmp .eq (12), 24, 0, 0, 0),
  (15, 1, .aload_n (0), 0, 0, 0, 0),
  (16, 3, .invokevirtual (115), 0, 0, 0, 0),
  (19, 2, .bipush (99), 0, 0, 99, 0),
  (21, 3, .if_icmp .eq (5), 26, 0, 0, 0),
  (24, 1, .iconst (0), 0, 0, 0, 0),
  (25, 1, .ireturn, 0, 0, 0, 0),
  (26, 1, .aload_n (0), 0, 0, 0, 0),
  (27, 1, .dup, 0, 0, 0, 0),
  (28, 3, .getfield (109), 6, 15, 0, 0),
  (31, 1, .iconst (1), 0, 0, 1, 0),
  (32, 1, .iadd, 0, 0, 0, 0),
  (33, 3, .putfield (109), 6, 15, 0, 0),
  (36, 1, .iconst (0), 0, 0, 0, 0),
  (37, 1, .istore_n (1), 0, 0, 0, 0),
  (38, 1, .iload_n (1), 0, 0, 0, 0),
  (39, 2, .bipush (8), 0, 0, 8, 0),
  (41, 3, .if_icmp .ge (34), 75, 0, 0, 0),
  (44, 1, .aload_n (0), 0, 0, 0, 0),
  (45, 3, .getfield (41), 6, 17, 0, 0),
  (48, 1, .iload_n (1), 0, 0, 0, 0),
  (49, 1, .aload_n (0), 0, 0, 0, 0),
  (50, 2, .bipush (9), 0, 0, 9, 0),
  (52, 3, .invokevirtual (124), 0, 0, 0, 0),
  (55, 1, .iastore, 0, 0, 0, 0),
  (56, 1, .aload_n (0), 0, 0, 0, 0),
  (57, 3, .getfield (41), 6, 17, 0, 0),
  (60, 1, .iload_n (1), 0, 0, 0, 0),
  (61, 1, .iaload, 0, 0, 0, 0),
  (62, 2, .bipush (-9), 0, 0, (-9), 0),
  (64, 3, .if_icmp .ne (5), 69, 0, 0, 0),
  (67, 1, .iconst (0), 0, 0, 0, 0),
  (68, 1, .ireturn, 0, 0, 0, 0),
  (69, 3, .iinc (1) (1), 0, 0, 1, 0),
  (72, 3, .goto (-34), 38, 0, 0, 0),
  (75, 1, .iconst (1), 0, 0, 1, 0),
  (76, 1, .ireturn, 0, 0, 0, 0)]
def md_Mod_readsCold : Md := (y_Mod_readsCold, prog_8_method_24_code, 2, (some .boolean), pm_Mod_readsCold)
theorem tk_Mod_readsCold : Tm md_Mod_readsCold := tab_of (o := 6) (by decide +kernel)
set_option maxRecDepth 100000 in
theorem ok_Mod_readsCold : MdOk md_Mod_readsCold 0 ∧ Cond.instanceMethod md_Mod_readsCold.1 ∈ T1 ∧ Cond.selects md_Mod_readsCold.1.cls md_Mod_readsCold.1 md_Mod_readsCold.1 ∈ T1 := ⟨⟨T1_in5 (i := 46) rfl rfl, T1_in1 (i := 8) rfl rfl, by decide +kernel, ⟨by decide +kernel, by decide +kernel⟩, by decide +kernel, by decide⟩, T1_in5 (i := 45) rfl rfl, T1_inP (i := 37) rfl⟩
def pm_Mod_skip : List PE := [(0, 1, .aload_n (0), 0, 0, 0, 0),
  (1, 3, .getfield (109), 6, 15, 0, 0),
  (4, 1, .aload_n (0), 0, 0, 0, 0),
  (5, 3, .getfield (112), 6, 16, 0, 0),
  (8, 3, .if_icmp .ge (25), 33, 0, 0, 0),
  (11, 1, .aload_n (0), 0, 0, 0, 0),
  (12, 3, .invokevirtual (115), 0, 0, 0, 0),
  (15, 2, .bipush (32), 0, 0, 32, 0),
  (17, 3, .if_icmp .ne (16), 33, 0, 0, 0),
  (20, 1, .aload_n (0), 0, 0, 0, 0),
  (21, 1, .dup, 0, 0, 0, 0),
  (22, 3, .getfield (109), 6, 15, 0, 0),
  (25, 1, .iconst (1), 0, 0, 1, 0),
  (26, 1, .iadd, 0, 0, 0, 0),
  (27, 3, .putfield (109), 6, 15, 0, 0),
  (30, 3, .goto (-30), 0, 0, 0, 0),
  (33, 1, .return_, 0, 0, 0, 0)]
def md_Mod_skip : Md := (y_Mod_skip, prog_8_method_21_code, 1, none, pm_Mod_skip)
theorem tk_Mod_skip : Tm md_Mod_skip := tab_of (o := 6) (by decide +kernel)
set_option maxRecDepth 100000 in
theorem ok_Mod_skip : MdOk md_Mod_skip 0 ∧ Cond.instanceMethod md_Mod_skip.1 ∈ T1 ∧ Cond.selects md_Mod_skip.1.cls md_Mod_skip.1 md_Mod_skip.1 ∈ T1 := ⟨⟨T1_in5 (i := 50) rfl rfl, T1_in1 (i := 8) rfl rfl, by decide +kernel, ⟨by decide +kernel, by decide +kernel⟩, by decide +kernel, by decide⟩, T1_in5 (i := 49) rfl rfl, T1_inP (i := 38) rfl⟩
def pm_Mod_here : List PE := [(0, 1, .aload_n (0), 0, 0, 0, 0),
  (1, 3, .getfield (31), 6, 8, 0, 0),
  (4, 1, .aload_n (0), 0, 0, 0, 0),
  (5, 3, .getfield (106), 6, 14, 0, 0),
  (8, 1, .aload_n (0), 0, 0, 0, 0),
  (9, 3, .getfield (109), 6, 15, 0, 0),
  (12, 1, .iadd, 0, 0, 0, 0),
  (13, 1, .iaload, 0, 0, 0, 0),
  (14, 1, .ireturn, 0, 0, 0, 0)]
def md_Mod_here : Md := (y_Mod_here, prog_8_method_20_code, 1, (some .int), pm_Mod_here)
theorem tk_Mod_here : Tm md_Mod_here := tab_of (o := 6) (by decide +kernel)
set_option maxRecDepth 100000 in
theorem ok_Mod_here : MdOk md_Mod_here 0 ∧ Cond.instanceMethod md_Mod_here.1 ∈ T1 ∧ Cond.selects md_Mod_here.1.cls md_Mod_here.1 md_Mod_here.1 ∈ T1 := ⟨⟨T1_in5 (i := 54) rfl rfl, T1_in1 (i := 8) rfl rfl, by decide +kernel, ⟨by decide +kernel, by decide +kernel⟩, by decide +kernel, by decide⟩, T1_in5 (i := 53) rfl rfl, T1_inP (i := 39) rfl⟩
def pm_Mod_figure : List PE := [(0, 1, .aload_n (0), 0, 0, 0, 0),
  (1, 3, .getfield (109), 6, 15, 0, 0),
  (4, 1, .aload_n (0), 0, 0, 0, 0),
  (5, 3, .getfield (112), 6, 16, 0, 0),
  (8, 3, .if_icmp .eq (22), 30, 0, 0, 0),
  (11, 1, .aload_n (0), 0, 0, 0, 0),
  (12, 3, .invokevirtual (115), 0, 0, 0, 0),
  (15, 1, .i2l, 0, 0, 0, 0),
  (16, 3, .ldc2_w (119), 0, 0, 0, 48),
  (19, 2, .bipush (48), 0, 0, 48, 0),
  (21, 1, .iload_n (1), 0, 0, 0, 0),
  (22, 1, .iadd, 0, 0, 0, 0),
  (23, 1, .i2l, 0, 0, 0, 0),
  (24, 3, .invokestatic (74), 0, 0, 0, 0),
  (27, 3, .ifCond .ne (6), 33, 0, 0, 0),
  (30, 2, .bipush (-9), 0, 0, (-9), 0),
  (32, 1, .ireturn, 0, 0, 0, 0),
  (33, 1, .aload_n (0), 0, 0, 0, 0),
  (34, 1, .dup, 0, 0, 0, 0),
  (35, 3, .getfield (109), 6, 15, 0, 0),
  (38, 1, .iconst (1), 0, 0, 1, 0),
  (39, 1, .iadd, 0, 0, 0, 0),
  (40, 3, .putfield (109), 6, 15, 0, 0),
  (43, 1, .aload_n (0), 0, 0, 0, 0),
  (44, 3, .getfield (31), 6, 8, 0, 0),
  (47, 1, .aload_n (0), 0, 0, 0, 0),
  (48, 3, .getfield (106), 6, 14, 0, 0),
  (51, 1, .aload_n (0), 0, 0, 0, 0),
  (52, 3, .getfield (109), 6, 15, 0, 0),
  (55, 1, .iadd, 0, 0, 0, 0),
  (56, 1, .iconst (1), 0, 0, 1, 0),
  (57, 1, .isub, 0, 0, 0, 0),
  (58, 1, .iaload, 0, 0, 0, 0),
  (59, 2, .bipush (48), 0, 0, 48, 0),
  (61, 1, .isub, 0, 0, 0, 0),
  (62, 1, .ireturn, 0, 0, 0, 0)]
def md_Mod_figure : Md := (y_Mod_figure, prog_8_method_22_code, 2, (some .int), pm_Mod_figure)
theorem tk_Mod_figure : Tm md_Mod_figure := tab_of (o := 6) (by decide +kernel)
set_option maxRecDepth 100000 in
theorem ok_Mod_figure : MdOk md_Mod_figure 1 ∧ Cond.instanceMethod md_Mod_figure.1 ∈ T1 ∧ Cond.selects md_Mod_figure.1.cls md_Mod_figure.1 md_Mod_figure.1 ∈ T1 := ⟨⟨T1_in5 (i := 58) rfl rfl, T1_in1 (i := 8) rfl rfl, by decide +kernel, ⟨by decide +kernel, by decide +kernel⟩, by decide +kernel, by decide⟩, T1_in5 (i := 57) rfl rfl, T1_inP (i := 40) rfl⟩
def pm_Mod_readsSleeper : List PE := [(0, 1, .aload_n (0), 0, 0, 0, 0),
  (1, 3, .invokevirtual (127), 0, 0, 0, 0),
  (4, 1, .istore_n (1), 0, 0, 0, 0),
  (5, 1, .iload_n (1), 0, 0, 0, 0),
  (6, 2, .bipush (-9), 0, 0, (-9), 0),
  (8, 3, .if_icmp .eq (11), 19, 0, 0, 0),
  (11, 1, .aload_n (0), 0, 0, 0, 0),
  (12, 3, .getfield (130), 6, 19, 0, 0),
  (15, 1, .iconst (5), 0, 0, 5, 0),
  (16, 3, .if_icmp .ne (5), 21, 0, 0, 0),
  (19, 1, .iconst (0), 0, 0, 0, 0),
  (20, 1, .ireturn, 0, 0, 0, 0),
  (21, 1, .aload_n (0), 0, 0, 0, 0),
  (22, 1, .dup, 0, 0, 0, 0),
  (23, 3, .getfield (109), 6, 15, 0, 0),
  (26, 1, .iconst (1), 0, 0, 1, 0),
  (27, 1, .iadd, 0, 0, 0, 0),
  (28, 3, .putfield (109), 6, 15, 0, 0),
  (31, 1, .aload_n (0), 0, 0, 0, 0),
  (32, 1, .iconst (5), 0, 0, 5, 0),
  (33, 3, .invokevirtual (124), 0, 0, 0, 0),
  (36, 1, .istore_n (2), 0, 0, 0, 0),
  (37, 1, .iload_n (2), 0, 0, 0, 0),
  (38, 2, .bipush (-9), 0, 0, (-9), 0),
  (40, 3, .if_icmp .ne (5), 45, 0, 0, 0),
  (43, 1, .iconst (0), 0, 0, 0, 0),
  (44, 1, .ireturn, 0, 0, 0, 0),
  (45, 1, .aload_n (0), 0, 0, 0, 0),
  (46, 2, .bipush (9), 0, 0, 9, 0),
  (48, 3, .invokevirtual (124), 0, 0, 0, 0),
  (51, 1, .istore_n (3), 0, 0, 0, 0),
  (52, 1, .iload_n (3), 0, 0, 0, 0),
  (53, 2, .bipush (-9), 0, 0, (-9), 0),
  (55, 3, .if_icmp .ne (5), 60, 0, 0, 0),
  (58, 1, .iconst (0), 0, 0, 0, 0),
  (59, 1, .ireturn, 0, 0, 0, 0),
  (60, 1, .aload_n (0), 0, 0, 0, 0),
  (61, 3, .getfield (44), 6, 18, 0, 0),
  (64, 1, .iconst (3), 0, 0, 3, 0),
  (65, 1, .aload_n (0), 0, 0, 0, 0),
  (66, 3, .getfield (130), 6, 19, 0, 0),
  (69, 1, .imul, 0, 0, 0, 0),
  (70, 1, .iload_n (1), 0, 0, 0, 0),
  (71, 1, .iastore, 0, 0, 0, 0),
  (72, 1, .aload_n (0), 0, 0, 0, 0),
  (73, 3, .getfield (44), 6, 18, 0, 0),
  (76, 1, .iconst (3), 0, 0, 3, 0),
  (77, 1, .aload_n (0), 0, 0, 0, 0),
  (78, 3, .getfield (130), 6, 19, 0, 0),
  (81, 1, .imul, 0, 0, 0, 0),
  (82, 1, .iconst (1), 0, 0, 1, 0),
  (83, 1, .iadd, 0, 0, 0, 0),
  (84, 1, .iload_n (2), 0, 0, 0, 0),
  (85, 1, .iastore, 0, 0, 0, 0),
  (86, 1, .aload_n (0), 0, 0, 0, 0),
  (87, 3, .getfield (44), 6, 18, 0, 0),
  (90, 1, .iconst (3), 0, 0, 3, 0),
  (91, 1, .aload_n (0), 0, 0, 0, 0),
  (92, 3, .getfield (130), 6, 19, 0, 0),
  (95, 1, .imul, 0, 0, 0, 0),
  (96, 1, .iconst (2), 0, 0, 2, 0),
  (97, 1, .iadd, 0, 0, 0, 0),
  (98, 1, .iload_n (3), 0, 0, 0, 0),
  (99, 1, .iastore, 0, 0, 0, 0),
  (100, 1, .aload_n (0), 0, 0, 0, 0),
  (101, 1, .dup, 0, 0, 0, 0),
  (102, 3, .getfield (130), 6, 19, 0, 0),
  (105, 1, .iconst (1), 0, 0, 1, 0),
  (106, 1, .iadd, 0, 0, 0, 0),
  (107, 3, .putfield (130), 6, 19, 0, 0),
  (110, 1, .aload_n (0), 0, 0, 0, 0),
  (111, 3, .invokevirtual (121), 0, 0, 0, 0),
  (114, 1, .iconst (1), 0, 0, 1, 0),
  (115, 1, .ireturn, 0, 0, 0, 0)]
def md_Mod_readsSleeper : Md := (y_Mod_readsSleeper, prog_8_method_25_code, 4, (some .boolean), pm_Mod_readsSleeper)
theorem tk_Mod_readsSleeper : Tm md_Mod_readsSleeper := tab_of (o := 6) (by decide +kernel)
set_option maxRecDepth 100000 in
theorem ok_Mod_readsSleeper : MdOk md_Mod_readsSleeper 0 ∧ Cond.instanceMethod md_Mod_readsSleeper.1 ∈ T1 ∧ Cond.selects md_Mod_readsSleeper.1.cls md_Mod_readsSleeper.1 md_Mod_readsSleeper.1 ∈ T1 := ⟨⟨T1_in5 (i := 63) rfl rfl, T1_in1 (i := 8) rfl rfl, by decide +kernel, ⟨by decide +kernel, by decide +kernel⟩, by decide +kernel, by decide⟩, T1_in5 (i := 62) rfl rfl, T1_inP (i := 41) rfl⟩
def pm_Mod_kindHere : List PE := [(0, 1, .aload_n (0), 0, 0, 0, 0),
  (1, 3, .invokevirtual (115), 0, 0, 0, 0),
  (4, 1, .istore_n (1), 0, 0, 0, 0),
  (5, 1, .iload_n (1), 0, 0, 0, 0),
  (6, 2, .bipush (115), 0, 0, 115, 0),
  (8, 3, .if_icmp .ne (7), 15, 0, 0, 0),
  (11, 1, .iconst (0), 0, 0, 0, 0),
  (12, 3, .goto (55), 67, 0, 0, 0),
  (15, 1, .iload_n (1), 0, 0, 0, 0),
  (16, 2, .bipush (110), 0, 0, 110, 0),
  (18, 3, .if_icmp .ne (7), 25, 0, 0, 0),
  (21, 1, .iconst (1), 0, 0, 1, 0),
  (22, 3, .goto (45), 67, 0, 0, 0),
  (25, 1, .iload_n (1), 0, 0, 0, 0),
  (26, 2, .bipush (100), 0, 0, 100, 0),
  (28, 3, .if_icmp .ne (7), 35, 0, 0, 0),
  (31, 1, .iconst (2), 0, 0, 2, 0),
  (32, 3, .goto (35), 67, 0, 0, 0),
  (35, 1, .iload_n (1), 0, 0, 0, 0),
  (36, 2, .bipush (104), 0, 0, 104, 0),
  (38, 3, .if_icmp .ne (7), 45, 0, 0, 0),
  (41, 1, .iconst (3), 0, 0, 3, 0),
  (42, 3, .goto (25), 67, 0, 0, 0),
  (45, 1, .iload_n (1), 0, 0, 0, 0),
  (46, 2, .bipush (116), 0, 0, 116, 0),
  (48, 3, .if_icmp .ne (7), 55, 0, 0, 0),
  (51, 1, .iconst (4), 0, 0, 4, 0),
  (52, 3, .goto (15), 67, 0, 0, 0),
  (55, 1, .iload_n (1), 0, 0, 0, 0),
  (56, 2, .bipush (107), 0, 0, 107, 0),
  (58, 3, .if_icmp .ne (7), 65, 0, 0, 0),
  (61, 1, .iconst (5), 0, 0, 5, 0),
  (62, 3, .goto (5), 67, 0, 0, 0),
  (65, 2, .bipush (-9), 0, 0, (-9), 0),
  (67, 1, .ireturn, 0, 0, 0, 0)]
def md_Mod_kindHere : Md := (y_Mod_kindHere, prog_8_method_23_code, 2, (some .int), pm_Mod_kindHere)
theorem tk_Mod_kindHere : Tm md_Mod_kindHere := tab_of (o := 6) (by decide +kernel)
set_option maxRecDepth 100000 in
theorem ok_Mod_kindHere : MdOk md_Mod_kindHere 0 ∧ Cond.instanceMethod md_Mod_kindHere.1 ∈ T1 ∧ Cond.selects md_Mod_kindHere.1.cls md_Mod_kindHere.1 md_Mod_kindHere.1 ∈ T1 := ⟨⟨T1_in5 (i := 67) rfl rfl, T1_in1 (i := 8) rfl rfl, by decide +kernel, ⟨by decide +kernel, by decide +kernel⟩, by decide +kernel, by decide⟩, T1_in5 (i := 66) rfl rfl, T1_inP (i := 42) rfl⟩
def pm_Mod_tent : List PE := [(0, 1, .iload_n (1), 0, 0, 0, 0),
  (1, 3, .invokestatic (103), 0, 0, 0, 0),
  (4, 3, .ifCond .ne (5), 9, 0, 0, 0),
  (7, 1, .iconst (-1), 0, 0, (-1), 0),
  (8, 1, .ireturn, 0, 0, 0, 0),
  (9, 1, .aload_n (0), 0, 0, 0, 0),
  (10, 3, .getfield (28), 6, 7, 0, 0),
  (13, 1, .iload_n (1), 0, 0, 0, 0),
  (14, 1, .iaload, 0, 0, 0, 0),
  (15, 3, .ifCond .ge (9), 24, 0, 0, 0),
  (18, 1, .aload_n (0), 0, 0, 0, 0),
  (19, 1, .iconst (1), 0, 0, 1, 0),
  (20, 3, .invokevirtual (84), 0, 0, 0, 0),
  (23, 1, .ireturn, 0, 0, 0, 0),
  (24, 1, .aload_n (0), 0, 0, 0, 0),
  (25, 1, .iload_n (1), 0, 0, 0, 0),
  (26, 3, .invokevirtual (140), 0, 0, 0, 0),
  (29, 2, .bipush (-9), 0, 0, (-9), 0),
  (31, 3, .if_icmp .eq (6), 37, 0, 0, 0),
  (34, 2, .bipush (-4), 0, 0, (-4), 0),
  (36, 1, .ireturn, 0, 0, 0, 0),
  (37, 1, .aload_n (0), 0, 0, 0, 0),
  (38, 1, .aload_n (0), 0, 0, 0, 0),
  (39, 3, .getfield (130), 6, 19, 0, 0),
  (42, 3, .putfield (143), 6, 1, 0, 0),
  (45, 1, .iconst (0), 0, 0, 0, 0),
  (46, 1, .istore_n (2), 0, 0, 0, 0),
  (47, 1, .iload_n (2), 0, 0, 0, 0),
  (48, 2, .bipush (8), 0, 0, 8, 0),
  (50, 3, .if_icmp .ge (21), 71, 0, 0, 0),
  (53, 1, .aload_n (0), 0, 0, 0, 0),
  (54, 3, .getfield (19), 6, 4, 0, 0),
  (57, 1, .iload_n (2), 0, 0, 0, 0),
  (58, 1, .aload_n (0), 0, 0, 0, 0),
  (59, 3, .getfield (41), 6, 17, 0, 0),
  (62, 1, .iload_n (2), 0, 0, 0, 0),
  (63, 1, .iaload, 0, 0, 0, 0),
  (64, 1, .iastore, 0, 0, 0, 0),
  (65, 3, .iinc (2) (1), 0, 0, 1, 0),
  (68, 3, .goto (-21), 47, 0, 0, 0),
  (71, 1, .iconst (0), 0, 0, 0, 0),
  (72, 1, .istore_n (2), 0, 0, 0, 0),
  (73, 1, .iload_n (2), 0, 0, 0, 0),
  (74, 3, .sipush (1026), 0, 0, 1026, 0),
  (77, 3, .if_icmp .ge (16), 93, 0, 0, 0),
  (80, 1, .aload_n (0), 0, 0, 0, 0),
  (81, 3, .getfield (7), 6, 0, 0, 0),
  (84, 1, .iload_n (2), 0, 0, 0, 0),
  (85, 1, .iconst (0), 0, 0, 0, 0),
  (86, 1, .iastore, 0, 0, 0, 0),
  (87, 3, .iinc (2) (1), 0, 0, 1, 0),
  (90, 3, .goto (-17), 73, 0, 0, 0),
  (93, 1, .iconst (0), 0, 0, 0, 0),
  (94, 1, .istore_n (2), 0, 0, 0, 0),
  (95, 1, .iload_n (2), 0, 0, 0, 0),
  (96, 1, .aload_n (0), 0, 0, 0, 0),
  (97, 3, .getfield (143), 6, 1, 0, 0),
  (100, 3, .if_icmp .ge (67), 167, 0, 0, 0),
  (103, 1, .aload_n (0), 0, 0, 0, 0),
  (104, 3, .getfield (13), 6, 2, 0, 0),
  (107, 1, .iload_n (2), 0, 0, 0, 0),
  (108, 1, .aload_n (0), 0, 0, 0, 0),
  (109, 3, .getfield (44), 6, 18, 0, 0),
  (112, 1, .iconst (3), 0, 0, 3, 0),
  (113, 1, .iload_n (2), 0, 0, 0, 0),
  (114, 1, .imul, 0, 0, 0, 0),
  (115, 1, .iaload, 0, 0, 0, 0),
  (116, 1, .iastore, 0, 0, 0, 0),
  (117, 1, .aload_n (0), 0, 0, 0, 0),
  (118, 3, .getfield (16), 6, 3, 0, 0),
  (121, 1, .iload_n (2), 0, 0, 0, 0),
  (122, 1, .aload_n (0), 0, 0, 0, 0),
  (123, 3, .getfield (44), 6, 18, 0, 0),
  (126, 1, .iconst (3), 0, 0, 3, 0),
  (127, 1, .iload_n (2), 0, 0, 0, 0),
  (128, 1, .imul, 0, 0, 0, 0),
  (129, 1, .iconst (1), 0, 0, 1, 0),
  (130, 1, .iadd, 0, 0, 0, 0),
  (131, 1, .iaload, 0, 0, 0, 0),
  (132, 1, .iastore, 0, 0, 0, 0),
  (133, 1, .aload_n (0), 0, 0, 0, 0),
  (134, 3, .getfield (7), 6, 0, 0, 0),
  (137, 2, .bipush (6), 0, 0, 6, 0),
  (139, 1, .iload_n (2), 0, 0, 0, 0),
  (140, 1, .iadd, 0, 0, 0, 0),
  (141, 1, .aload_n (0), 0, 0, 0, 0),
  (142, 3, .getfield (44), 6, 18, 0, 0),
  (145, 1, .iconst (3), 0, 0, 3, 0),
  (146, 1, .iload_n (2), 0, 0, 0, 0),
  (147, 1, .imul, 0, 0, 0, 0),
  (148, 1, .iconst (2), 0, 0, 2, 0),
  (149, 1, .iadd, 0, 0, 0, 0),
  (150, 1, .iaload, 0, 0, 0, 0),
  (151, 1, .iastore, 0, 0, 0, 0),
  (152, 1, .aload_n (0), 0, 0, 0, 0),
  (153, 3, .getfield (7), 6, 0, 0, 0),
  (156, 1, .iconst (1), 0, 0, 1, 0),
  (157, 1, .iload_n (2), 0, 0, 0, 0),
  (158, 1, .iadd, 0, 0, 0, 0),
  (159, 1, .iload_n (2), 0, 0, 0, 0),
  (160, 1, .iastore, 0, 0, 0, 0),
  (161, 3, .iinc (2) (1), 0, 0, 1, 0),
  (164, 3, .goto (-69), 95, 0, 0, 0),
  (167, 1, .iconst (1), 0, 0, 1, 0),
  (168, 1, .istore_n (2), 0, 0, 0, 0),
  (169, 1, .iload_n (2), 0, 0, 0, 0),
  (170, 1, .iconst (4), 0, 0, 4, 0),
  (171, 3, .if_icmp .ge (22), 193, 0, 0, 0),
  (174, 1, .aload_n (0), 0, 0, 0, 0),
  (175, 3, .getfield (7), 6, 0, 0, 0),
  (178, 3, .sipush (1026), 0, 0, 1026, 0),
  (181, 1, .iload_n (2), 0, 0, 0, 0),
  (182, 1, .imul, 0, 0, 0, 0),
  (183, 1, .iconst (0), 0, 0, 0, 0),
  (184, 1, .iadd, 0, 0, 0, 0),
  (185, 1, .iconst (-1), 0, 0, (-1), 0),
  (186, 1, .iastore, 0, 0, 0, 0),
  (187, 3, .iinc (2) (1), 0, 0, 1, 0),
  (190, 3, .goto (-21), 169, 0, 0, 0),
  (193, 1, .aload_n (0), 0, 0, 0, 0),
  (194, 3, .getfield (143), 6, 1, 0, 0),
  (197, 1, .ireturn, 0, 0, 0, 0)]
def md_Mod_tent : Md := (y_Mod_tent, prog_8_method_28_code, 3, (some .int), pm_Mod_tent)
theorem tk_Mod_tent : Tm md_Mod_tent := tab_of (o := 6) (by decide +kernel)
set_option maxRecDepth 100000 in
theorem ok_Mod_tent : MdOk md_Mod_tent 1 ∧ Cond.instanceMethod md_Mod_tent.1 ∈ T1 ∧ Cond.selects md_Mod_tent.1.cls md_Mod_tent.1 md_Mod_tent.1 ∈ T1 := ⟨⟨T1_in5 (i := 71) rfl rfl, T1_in1 (i := 8) rfl rfl, by decide +kernel, ⟨by decide +kernel, by decide +kernel⟩, by decide +kernel, by decide⟩, T1_in5 (i := 69) rfl rfl, T1_in5 (i := 70) rfl rfl⟩
def pm_Mod_sleeper : List PE := [(0, 1, .aload_n (0), 0, 0, 0, 0),
  (1, 1, .iload_n (1), 0, 0, 0, 0),
  (2, 3, .invokevirtual (198), 0, 0, 0, 0),
  (5, 3, .ifCond .eq (15), 20, 0, 0, 0),
  (8, 1, .iload_n (2), 0, 0, 0, 0),
  (9, 1, .i2l, 0, 0, 0, 0),
  (10, 1, .lconst (0), 0, 0, 0, 0),
  (11, 3, .ldc2_w (72), 0, 0, 0, 5),
  (14, 3, .invokestatic (74), 0, 0, 0, 0),
  (17, 3, .ifCond .ne (5), 22, 0, 0, 0),
  (20, 1, .iconst (-1), 0, 0, (-1), 0),
  (21, 1, .ireturn, 0, 0, 0, 0),
  (22, 1, .aload_n (0), 0, 0, 0, 0),
  (23, 1, .aload_n (0), 0, 0, 0, 0),
  (24, 1, .iload_n (1), 0, 0, 0, 0),
  (25, 1, .iload_n (2), 0, 0, 0, 0),
  (26, 3, .invokevirtual (201), 0, 0, 0, 0),
  (29, 3, .invokevirtual (96), 0, 0, 0, 0),
  (32, 1, .ireturn, 0, 0, 0, 0)]
def md_Mod_sleeper : Md := (y_Mod_sleeper, prog_8_method_46_code, 3, (some .int), pm_Mod_sleeper)
theorem tk_Mod_sleeper : Tm md_Mod_sleeper := tab_of (o := 6) (by decide +kernel)
set_option maxRecDepth 100000 in
theorem ok_Mod_sleeper : MdOk md_Mod_sleeper 2 ∧ Cond.instanceMethod md_Mod_sleeper.1 ∈ T1 ∧ Cond.selects md_Mod_sleeper.1.cls md_Mod_sleeper.1 md_Mod_sleeper.1 ∈ T1 := ⟨⟨T1_in5 (i := 75) rfl rfl, T1_in1 (i := 8) rfl rfl, by decide +kernel, ⟨by decide +kernel, by decide +kernel⟩, by decide +kernel, by decide⟩, T1_in5 (i := 73) rfl rfl, T1_in5 (i := 74) rfl rfl⟩
def pm_Mod_isSleeper : List PE := [(0, 1, .iload_n (1), 0, 0, 0, 0),
  (1, 1, .i2l, 0, 0, 0, 0),
  (2, 1, .lconst (0), 0, 0, 0, 0),
  (3, 1, .aload_n (0), 0, 0, 0, 0),
  (4, 3, .getfield (143), 6, 1, 0, 0),
  (7, 1, .iconst (1), 0, 0, 1, 0),
  (8, 1, .isub, 0, 0, 0, 0),
  (9, 1, .i2l, 0, 0, 0, 0),
  (10, 3, .invokestatic (74), 0, 0, 0, 0),
  (13, 1, .ireturn, 0, 0, 0, 0)]
def md_Mod_isSleeper : Md := (y_Mod_isSleeper, prog_8_method_30_code, 2, (some .boolean), pm_Mod_isSleeper)
theorem tk_Mod_isSleeper : Tm md_Mod_isSleeper := tab_of (o := 6) (by decide +kernel)
set_option maxRecDepth 100000 in
theorem ok_Mod_isSleeper : MdOk md_Mod_isSleeper 1 ∧ Cond.instanceMethod md_Mod_isSleeper.1 ∈ T1 ∧ Cond.selects md_Mod_isSleeper.1.cls md_Mod_isSleeper.1 md_Mod_isSleeper.1 ∈ T1 := ⟨⟨T1_in5 (i := 79) rfl rfl, T1_in1 (i := 8) rfl rfl, by decide +kernel, ⟨by decide +kernel, by decide +kernel⟩, by decide +kernel, by decide⟩, T1_in5 (i := 78) rfl rfl, T1_inP (i := 43) rfl⟩
def pm_Mod_toldOf : List PE := [(0, 1, .aload_n (0), 0, 0, 0, 0),
  (1, 3, .invokevirtual (204), 0, 0, 0, 0),
  (4, 1, .iload_n (2), 0, 0, 0, 0),
  (5, 35, .tableswitch (71) (0) (4) #[(35), (42), (48), (55), (61)], 0, 0, 0, 0),
  (40, 1, .aload_n (0), 0, 0, 0, 0),
  (41, 3, .getfield (13), 6, 2, 0, 0),
  (44, 1, .iload_n (1), 0, 0, 0, 0),
  (45, 1, .iaload, 0, 0, 0, 0),
  (46, 1, .ireturn, 0, 0, 0, 0),
  (47, 1, .aload_n (0), 0, 0, 0, 0),
  (48, 1, .iload_n (1), 0, 0, 0, 0),
  (49, 3, .invokevirtual (161), 0, 0, 0, 0),
  (52, 1, .ireturn, 0, 0, 0, 0),
  (53, 1, .aload_n (0), 0, 0, 0, 0),
  (54, 3, .getfield (50), 6, 21, 0, 0),
  (57, 1, .iload_n (1), 0, 0, 0, 0),
  (58, 1, .iaload, 0, 0, 0, 0),
  (59, 1, .ireturn, 0, 0, 0, 0),
  (60, 1, .aload_n (0), 0, 0, 0, 0),
  (61, 1, .iload_n (1), 0, 0, 0, 0),
  (62, 3, .invokevirtual (158), 0, 0, 0, 0),
  (65, 1, .ireturn, 0, 0, 0, 0),
  (66, 1, .aload_n (0), 0, 0, 0, 0),
  (67, 3, .getfield (7), 6, 0, 0, 0),
  (70, 2, .bipush (16), 0, 0, 16, 0),
  (72, 1, .iload_n (1), 0, 0, 0, 0),
  (73, 1, .iadd, 0, 0, 0, 0),
  (74, 1, .iaload, 0, 0, 0, 0),
  (75, 1, .ireturn, 0, 0, 0, 0),
  (76, 1, .aload_n (0), 0, 0, 0, 0),
  (77, 3, .getfield (7), 6, 0, 0, 0),
  (80, 2, .bipush (21), 0, 0, 21, 0),
  (82, 1, .iload_n (1), 0, 0, 0, 0),
  (83, 1, .iadd, 0, 0, 0, 0),
  (84, 1, .iaload, 0, 0, 0, 0),
  (85, 1, .ireturn, 0, 0, 0, 0)]
def md_Mod_toldOf : Md := (y_Mod_toldOf, prog_8_method_47_code, 3, (some .int), pm_Mod_toldOf)
theorem tk_Mod_toldOf : Tm md_Mod_toldOf := tab_of (o := 6) (by decide +kernel)
set_option maxRecDepth 100000 in
theorem ok_Mod_toldOf : MdOk md_Mod_toldOf 2 ∧ Cond.instanceMethod md_Mod_toldOf.1 ∈ T1 ∧ Cond.selects md_Mod_toldOf.1.cls md_Mod_toldOf.1 md_Mod_toldOf.1 ∈ T1 := ⟨⟨T1_in5 (i := 83) rfl rfl, T1_in1 (i := 8) rfl rfl, by decide +kernel, ⟨by decide +kernel, by decide +kernel⟩, by decide +kernel, by decide⟩, T1_in5 (i := 82) rfl rfl, T1_inP (i := 44) rfl⟩
def pm_Mod_layNow : List PE := [(0, 1, .iconst (0), 0, 0, 0, 0),
  (1, 1, .istore_n (1), 0, 0, 0, 0),
  (2, 1, .iload_n (1), 0, 0, 0, 0),
  (3, 1, .iconst (5), 0, 0, 5, 0),
  (4, 3, .if_icmp .ge (38), 42, 0, 0, 0),
  (7, 1, .aload_n (0), 0, 0, 0, 0),
  (8, 3, .getfield (47), 6, 20, 0, 0),
  (11, 1, .iload_n (1), 0, 0, 0, 0),
  (12, 1, .aload_n (0), 0, 0, 0, 0),
  (13, 3, .getfield (7), 6, 0, 0, 0),
  (16, 1, .iconst (1), 0, 0, 1, 0),
  (17, 1, .iload_n (1), 0, 0, 0, 0),
  (18, 1, .iadd, 0, 0, 0, 0),
  (19, 1, .iaload, 0, 0, 0, 0),
  (20, 1, .iastore, 0, 0, 0, 0),
  (21, 1, .aload_n (0), 0, 0, 0, 0),
  (22, 3, .getfield (50), 6, 21, 0, 0),
  (25, 1, .iload_n (1), 0, 0, 0, 0),
  (26, 1, .aload_n (0), 0, 0, 0, 0),
  (27, 3, .getfield (7), 6, 0, 0, 0),
  (30, 2, .bipush (6), 0, 0, 6, 0),
  (32, 1, .iload_n (1), 0, 0, 0, 0),
  (33, 1, .iadd, 0, 0, 0, 0),
  (34, 1, .iaload, 0, 0, 0, 0),
  (35, 1, .iastore, 0, 0, 0, 0),
  (36, 3, .iinc (1) (1), 0, 0, 1, 0),
  (39, 3, .goto (-37), 2, 0, 0, 0),
  (42, 1, .aload_n (0), 0, 0, 0, 0),
  (43, 1, .aload_n (0), 0, 0, 0, 0),
  (44, 3, .getfield (7), 6, 0, 0, 0),
  (47, 2, .bipush (13), 0, 0, 13, 0),
  (49, 1, .iaload, 0, 0, 0, 0),
  (50, 3, .putfield (146), 6, 22, 0, 0),
  (53, 1, .aload_n (0), 0, 0, 0, 0),
  (54, 1, .aload_n (0), 0, 0, 0, 0),
  (55, 3, .getfield (7), 6, 0, 0, 0),
  (58, 2, .bipush (12), 0, 0, 12, 0),
  (60, 1, .iaload, 0, 0, 0, 0),
  (61, 3, .putfield (149), 6, 23, 0, 0),
  (64, 1, .return_, 0, 0, 0, 0)]
def md_Mod_layNow : Md := (y_Mod_layNow, prog_8_method_29_code, 2, none, pm_Mod_layNow)
theorem tk_Mod_layNow : Tm md_Mod_layNow := tab_of (o := 6) (by decide +kernel)
set_option maxRecDepth 100000 in
theorem ok_Mod_layNow : MdOk md_Mod_layNow 0 ∧ Cond.instanceMethod md_Mod_layNow.1 ∈ T1 ∧ Cond.selects md_Mod_layNow.1.cls md_Mod_layNow.1 md_Mod_layNow.1 ∈ T1 := ⟨⟨T1_in5 (i := 87) rfl rfl, T1_in1 (i := 8) rfl rfl, by decide +kernel, ⟨by decide +kernel, by decide +kernel⟩, by decide +kernel, by decide⟩, T1_in5 (i := 86) rfl rfl, T1_inP (i := 45) rfl⟩
def pm_Mod_givesOf : List PE := [(0, 1, .iload_n (1), 0, 0, 0, 0),
  (1, 1, .aload_n (0), 0, 0, 0, 0),
  (2, 3, .getfield (53), 6, 24, 0, 0),
  (5, 3, .if_icmp .ne (7), 12, 0, 0, 0),
  (8, 1, .iconst (0), 0, 0, 0, 0),
  (9, 3, .goto (29), 38, 0, 0, 0),
  (12, 1, .aload_n (0), 0, 0, 0, 0),
  (13, 1, .iload_n (1), 0, 0, 0, 0),
  (14, 3, .invokevirtual (155), 0, 0, 0, 0),
  (17, 1, .iconst (3), 0, 0, 3, 0),
  (18, 3, .if_icmp .ne (14), 32, 0, 0, 0),
  (21, 1, .iconst (2), 0, 0, 2, 0),
  (22, 1, .aload_n (0), 0, 0, 0, 0),
  (23, 3, .getfield (16), 6, 3, 0, 0),
  (26, 1, .iload_n (1), 0, 0, 0, 0),
  (27, 1, .iaload, 0, 0, 0, 0),
  (28, 1, .imul, 0, 0, 0, 0),
  (29, 3, .goto (9), 38, 0, 0, 0),
  (32, 1, .aload_n (0), 0, 0, 0, 0),
  (33, 3, .getfield (16), 6, 3, 0, 0),
  (36, 1, .iload_n (1), 0, 0, 0, 0),
  (37, 1, .iaload, 0, 0, 0, 0),
  (38, 1, .ireturn, 0, 0, 0, 0)]
def md_Mod_givesOf : Md := (y_Mod_givesOf, prog_8_method_32_code, 2, (some .int), pm_Mod_givesOf)
theorem tk_Mod_givesOf : Tm md_Mod_givesOf := tab_of (o := 6) (by decide +kernel)
set_option maxRecDepth 100000 in
theorem ok_Mod_givesOf : MdOk md_Mod_givesOf 1 ∧ Cond.instanceMethod md_Mod_givesOf.1 ∈ T1 ∧ Cond.selects md_Mod_givesOf.1.cls md_Mod_givesOf.1 md_Mod_givesOf.1 ∈ T1 := ⟨⟨T1_in5 (i := 91) rfl rfl, T1_in1 (i := 8) rfl rfl, by decide +kernel, ⟨by decide +kernel, by decide +kernel⟩, by decide +kernel, by decide⟩, T1_in5 (i := 90) rfl rfl, T1_inP (i := 46) rfl⟩
def pm_Mod_kindOf : List PE := [(0, 1, .iload_n (1), 0, 0, 0, 0),
  (1, 1, .aload_n (0), 0, 0, 0, 0),
  (2, 3, .getfield (57), 6, 25, 0, 0),
  (5, 3, .if_icmp .ne (10), 15, 0, 0, 0),
  (8, 1, .aload_n (0), 0, 0, 0, 0),
  (9, 3, .getfield (152), 6, 26, 0, 0),
  (12, 3, .goto (9), 21, 0, 0, 0),
  (15, 1, .aload_n (0), 0, 0, 0, 0),
  (16, 3, .getfield (13), 6, 2, 0, 0),
  (19, 1, .iload_n (1), 0, 0, 0, 0),
  (20, 1, .iaload, 0, 0, 0, 0),
  (21, 1, .ireturn, 0, 0, 0, 0)]
def md_Mod_kindOf : Md := (y_Mod_kindOf, prog_8_method_31_code, 2, (some .int), pm_Mod_kindOf)
theorem tk_Mod_kindOf : Tm md_Mod_kindOf := tab_of (o := 6) (by decide +kernel)
set_option maxRecDepth 100000 in
theorem ok_Mod_kindOf : MdOk md_Mod_kindOf 1 ∧ Cond.instanceMethod md_Mod_kindOf.1 ∈ T1 ∧ Cond.selects md_Mod_kindOf.1.cls md_Mod_kindOf.1 md_Mod_kindOf.1 ∈ T1 := ⟨⟨T1_in5 (i := 95) rfl rfl, T1_in1 (i := 8) rfl rfl, by decide +kernel, ⟨by decide +kernel, by decide +kernel⟩, by decide +kernel, by decide⟩, T1_in5 (i := 94) rfl rfl, T1_inP (i := 47) rfl⟩
def pm_Mod_placeOf : List PE := [(0, 1, .iconst (0), 0, 0, 0, 0),
  (1, 1, .istore_n (2), 0, 0, 0, 0),
  (2, 1, .aload_n (0), 0, 0, 0, 0),
  (3, 3, .getfield (47), 6, 20, 0, 0),
  (6, 1, .iload_n (2), 0, 0, 0, 0),
  (7, 1, .iaload, 0, 0, 0, 0),
  (8, 1, .iload_n (1), 0, 0, 0, 0),
  (9, 3, .if_icmp .eq (9), 18, 0, 0, 0),
  (12, 3, .iinc (2) (1), 0, 0, 1, 0),
  (15, 3, .goto (-13), 2, 0, 0, 0),
  (18, 1, .iload_n (2), 0, 0, 0, 0),
  (19, 1, .ireturn, 0, 0, 0, 0)]
def md_Mod_placeOf : Md := (y_Mod_placeOf, prog_8_method_35_code, 3, (some .int), pm_Mod_placeOf)
theorem tk_Mod_placeOf : Tm md_Mod_placeOf := tab_of (o := 6) (by decide +kernel)
set_option maxRecDepth 100000 in
theorem ok_Mod_placeOf : MdOk md_Mod_placeOf 1 ∧ Cond.instanceMethod md_Mod_placeOf.1 ∈ T1 ∧ Cond.selects md_Mod_placeOf.1.cls md_Mod_placeOf.1 md_Mod_placeOf.1 ∈ T1 := ⟨⟨T1_in5 (i := 99) rfl rfl, T1_in1 (i := 8) rfl rfl, by decide +kernel, ⟨by decide +kernel, by decide +kernel⟩, by decide +kernel, by decide⟩, T1_in5 (i := 98) rfl rfl, T1_inP (i := 48) rfl⟩
def pm_Mod_mark : List PE := [(0, 1, .aload_n (0), 0, 0, 0, 0),
  (1, 1, .iload_n (1), 0, 0, 0, 0),
  (2, 3, .invokevirtual (198), 0, 0, 0, 0),
  (5, 3, .ifCond .eq (15), 20, 0, 0, 0),
  (8, 1, .iload_n (2), 0, 0, 0, 0),
  (9, 1, .i2l, 0, 0, 0, 0),
  (10, 1, .lconst (1), 0, 0, 0, 1),
  (11, 3, .ldc2_w (72), 0, 0, 0, 5),
  (14, 3, .invokestatic (74), 0, 0, 0, 0),
  (17, 3, .ifCond .ne (5), 22, 0, 0, 0),
  (20, 1, .iconst (-1), 0, 0, (-1), 0),
  (21, 1, .ireturn, 0, 0, 0, 0),
  (22, 1, .aload_n (0), 0, 0, 0, 0),
  (23, 1, .iload_n (1), 0, 0, 0, 0),
  (24, 1, .iload_n (2), 0, 0, 0, 0),
  (25, 3, .invokevirtual (207), 0, 0, 0, 0),
  (28, 3, .ifCond .ne (9), 37, 0, 0, 0),
  (31, 1, .aload_n (0), 0, 0, 0, 0),
  (32, 1, .iconst (3), 0, 0, 3, 0),
  (33, 3, .invokevirtual (84), 0, 0, 0, 0),
  (36, 1, .ireturn, 0, 0, 0, 0),
  (37, 1, .aload_n (0), 0, 0, 0, 0),
  (38, 3, .invokevirtual (204), 0, 0, 0, 0),
  (41, 1, .iload_n (2), 0, 0, 0, 0),
  (42, 30, .tableswitch (59) (1) (4) #[(30), (36), (42), (54)], 0, 0, 0, 0),
  (72, 1, .aload_n (0), 0, 0, 0, 0),
  (73, 1, .iload_n (1), 0, 0, 0, 0),
  (74, 3, .invokevirtual (210), 0, 0, 0, 0),
  (77, 1, .ireturn, 0, 0, 0, 0),
  (78, 1, .aload_n (0), 0, 0, 0, 0),
  (79, 1, .iload_n (1), 0, 0, 0, 0),
  (80, 3, .invokevirtual (177), 0, 0, 0, 0),
  (83, 1, .ireturn, 0, 0, 0, 0),
  (84, 1, .aload_n (0), 0, 0, 0, 0),
  (85, 1, .iload_n (1), 0, 0, 0, 0),
  (86, 3, .invokevirtual (161), 0, 0, 0, 0),
  (89, 1, .aload_n (0), 0, 0, 0, 0),
  (90, 1, .iload_n (1), 0, 0, 0, 0),
  (91, 3, .invokevirtual (213), 0, 0, 0, 0),
  (94, 1, .imul, 0, 0, 0, 0),
  (95, 1, .ireturn, 0, 0, 0, 0),
  (96, 1, .aload_n (0), 0, 0, 0, 0),
  (97, 3, .invokevirtual (216), 0, 0, 0, 0),
  (100, 1, .ireturn, 0, 0, 0, 0),
  (101, 1, .aload_n (0), 0, 0, 0, 0),
  (102, 3, .getfield (146), 6, 22, 0, 0),
  (105, 3, .invokestatic (219), 0, 0, 0, 0),
  (108, 1, .ireturn, 0, 0, 0, 0)]
def md_Mod_mark : Md := (y_Mod_mark, prog_8_method_52_code, 3, (some .int), pm_Mod_mark)
theorem tk_Mod_mark : Tm md_Mod_mark := tab_of (o := 6) (by decide +kernel)
set_option maxRecDepth 100000 in
theorem ok_Mod_mark : MdOk md_Mod_mark 2 ∧ Cond.instanceMethod md_Mod_mark.1 ∈ T1 ∧ Cond.selects md_Mod_mark.1.cls md_Mod_mark.1 md_Mod_mark.1 ∈ T1 := ⟨⟨T1_in5 (i := 103) rfl rfl, T1_in1 (i := 8) rfl rfl, by decide +kernel, ⟨by decide +kernel, by decide +kernel⟩, by decide +kernel, by decide⟩, T1_in5 (i := 101) rfl rfl, T1_in5 (i := 102) rfl rfl⟩
def pm_Mod_isOf : List PE := [(0, 1, .aload_n (0), 0, 0, 0, 0),
  (1, 3, .getfield (13), 6, 2, 0, 0),
  (4, 1, .iload_n (1), 0, 0, 0, 0),
  (5, 1, .iaload, 0, 0, 0, 0),
  (6, 1, .iload_n (2), 0, 0, 0, 0),
  (7, 3, .if_icmp .eq (33), 40, 0, 0, 0),
  (10, 1, .iload_n (2), 0, 0, 0, 0),
  (11, 1, .iconst (1), 0, 0, 1, 0),
  (12, 3, .if_icmp .ne (13), 25, 0, 0, 0),
  (15, 1, .aload_n (0), 0, 0, 0, 0),
  (16, 3, .getfield (13), 6, 2, 0, 0),
  (19, 1, .iload_n (1), 0, 0, 0, 0),
  (20, 1, .iaload, 0, 0, 0, 0),
  (21, 1, .iconst (4), 0, 0, 4, 0),
  (22, 3, .if_icmp .eq (18), 40, 0, 0, 0),
  (25, 1, .iload_n (2), 0, 0, 0, 0),
  (26, 1, .iconst (2), 0, 0, 2, 0),
  (27, 3, .if_icmp .ne (17), 44, 0, 0, 0),
  (30, 1, .aload_n (0), 0, 0, 0, 0),
  (31, 3, .getfield (13), 6, 2, 0, 0),
  (34, 1, .iload_n (1), 0, 0, 0, 0),
  (35, 1, .iaload, 0, 0, 0, 0),
  (36, 1, .iconst (5), 0, 0, 5, 0),
  (37, 3, .if_icmp .ne (7), 44, 0, 0, 0),
  (40, 1, .iconst (1), 0, 0, 1, 0),
  (41, 3, .goto (4), 45, 0, 0, 0),
  (44, 1, .iconst (0), 0, 0, 0, 0),
  (45, 1, .ireturn, 0, 0, 0, 0)]
def md_Mod_isOf : Md := (y_Mod_isOf, prog_8_method_48_code, 3, (some .boolean), pm_Mod_isOf)
theorem tk_Mod_isOf : Tm md_Mod_isOf := tab_of (o := 6) (by decide +kernel)
set_option maxRecDepth 100000 in
theorem ok_Mod_isOf : MdOk md_Mod_isOf 2 ∧ Cond.instanceMethod md_Mod_isOf.1 ∈ T1 ∧ Cond.selects md_Mod_isOf.1.cls md_Mod_isOf.1 md_Mod_isOf.1 ∈ T1 := ⟨⟨T1_in5 (i := 107) rfl rfl, T1_in1 (i := 8) rfl rfl, by decide +kernel, ⟨by decide +kernel, by decide +kernel⟩, by decide +kernel, by decide⟩, T1_in5 (i := 106) rfl rfl, T1_inP (i := 49) rfl⟩
def pm_Mod_heardBy : List PE := [(0, 1, .iconst (0), 0, 0, 0, 0),
  (1, 1, .istore_n (2), 0, 0, 0, 0),
  (2, 1, .iconst (0), 0, 0, 0, 0),
  (3, 1, .istore_n (3), 0, 0, 0, 0),
  (4, 1, .iload_n (3), 0, 0, 0, 0),
  (5, 1, .aload_n (0), 0, 0, 0, 0),
  (6, 3, .getfield (143), 6, 1, 0, 0),
  (9, 3, .if_icmp .ge (48), 57, 0, 0, 0),
  (12, 1, .iload_n (2), 0, 0, 0, 0),
  (13, 1, .aload_n (0), 0, 0, 0, 0),
  (14, 3, .getfield (13), 6, 2, 0, 0),
  (17, 1, .iload_n (3), 0, 0, 0, 0),
  (18, 1, .iaload, 0, 0, 0, 0),
  (19, 3, .invokestatic (174), 0, 0, 0, 0),
  (22, 3, .ifCond .ne (26), 48, 0, 0, 0),
  (25, 1, .aload_n (0), 0, 0, 0, 0),
  (26, 1, .iload_n (1), 0, 0, 0, 0),
  (27, 1, .aload_n (0), 0, 0, 0, 0),
  (28, 1, .iload_n (3), 0, 0, 0, 0),
  (29, 3, .invokevirtual (158), 0, 0, 0, 0),
  (32, 1, .aload_n (0), 0, 0, 0, 0),
  (33, 1, .iload_n (1), 0, 0, 0, 0),
  (34, 3, .invokevirtual (158), 0, 0, 0, 0),
  (37, 1, .isub, 0, 0, 0, 0),
  (38, 3, .invokevirtual (170), 0, 0, 0, 0),
  (41, 3, .ifCond .eq (7), 48, 0, 0, 0),
  (44, 1, .iconst (1), 0, 0, 1, 0),
  (45, 3, .goto (4), 49, 0, 0, 0),
  (48, 1, .iconst (0), 0, 0, 0, 0),
  (49, 1, .iadd, 0, 0, 0, 0),
  (50, 1, .istore_n (2), 0, 0, 0, 0),
  (51, 3, .iinc (3) (1), 0, 0, 1, 0),
  (54, 3, .goto (-50), 4, 0, 0, 0),
  (57, 1, .iload_n (2), 0, 0, 0, 0),
  (58, 1, .ireturn, 0, 0, 0, 0)]
def md_Mod_heardBy : Md := (y_Mod_heardBy, prog_8_method_50_code, 4, (some .int), pm_Mod_heardBy)
theorem tk_Mod_heardBy : Tm md_Mod_heardBy := tab_of (o := 6) (by decide +kernel)
set_option maxRecDepth 100000 in
theorem ok_Mod_heardBy : MdOk md_Mod_heardBy 1 ∧ Cond.instanceMethod md_Mod_heardBy.1 ∈ T1 ∧ Cond.selects md_Mod_heardBy.1.cls md_Mod_heardBy.1 md_Mod_heardBy.1 ∈ T1 := ⟨⟨T1_in5 (i := 111) rfl rfl, T1_in1 (i := 8) rfl rfl, by decide +kernel, ⟨by decide +kernel, by decide +kernel⟩, by decide +kernel, by decide⟩, T1_in5 (i := 110) rfl rfl, T1_inP (i := 50) rfl⟩
def pm_Mod_hearsNone : List PE := [(0, 1, .iload_n (0), 0, 0, 0, 0),
  (1, 1, .iconst (2), 0, 0, 2, 0),
  (2, 3, .if_icmp .eq (8), 10, 0, 0, 0),
  (5, 1, .iload_n (0), 0, 0, 0, 0),
  (6, 1, .iconst (5), 0, 0, 5, 0),
  (7, 3, .if_icmp .ne (7), 14, 0, 0, 0),
  (10, 1, .iconst (1), 0, 0, 1, 0),
  (11, 3, .goto (4), 15, 0, 0, 0),
  (14, 1, .iconst (0), 0, 0, 0, 0),
  (15, 1, .ireturn, 0, 0, 0, 0)]
def md_Mod_hearsNone : Md := (y_Mod_hearsNone, prog_8_method_34_code, 1, (some .boolean), pm_Mod_hearsNone)
theorem tk_Mod_hearsNone : Tm md_Mod_hearsNone := tab_of (o := 6) (by decide +kernel)
set_option maxRecDepth 100000 in
theorem ok_Mod_hearsNone : MdOk md_Mod_hearsNone 1 ∧ Cond.static md_Mod_hearsNone.1 ∈ T1 := ⟨⟨T1_in5 (i := 114) rfl rfl, T1_in1 (i := 8) rfl rfl, by decide +kernel, ⟨by decide +kernel, by decide +kernel⟩, by decide +kernel, by decide⟩, T1_in5 (i := 113) rfl rfl⟩
def pm_Mod_reaches : List PE := [(0, 1, .aload_n (0), 0, 0, 0, 0),
  (1, 1, .iload_n (1), 0, 0, 0, 0),
  (2, 3, .invokevirtual (155), 0, 0, 0, 0),
  (5, 1, .iconst (4), 0, 0, 4, 0),
  (6, 3, .if_icmp .ne (7), 13, 0, 0, 0),
  (9, 1, .iconst (2), 0, 0, 2, 0),
  (10, 3, .goto (4), 14, 0, 0, 0),
  (13, 1, .iconst (1), 0, 0, 1, 0),
  (14, 1, .istore_n (3), 0, 0, 0, 0),
  (15, 1, .iload_n (1), 0, 0, 0, 0),
  (16, 1, .aload_n (0), 0, 0, 0, 0),
  (17, 3, .getfield (53), 6, 24, 0, 0),
  (20, 3, .if_icmp .eq (35), 55, 0, 0, 0),
  (23, 1, .aload_n (0), 0, 0, 0, 0),
  (24, 1, .iload_n (1), 0, 0, 0, 0),
  (25, 3, .invokevirtual (155), 0, 0, 0, 0),
  (28, 3, .invokestatic (167), 0, 0, 0, 0),
  (31, 3, .ifCond .eq (24), 55, 0, 0, 0),
  (34, 1, .iload_n (2), 0, 0, 0, 0),
  (35, 3, .ifCond .eq (20), 55, 0, 0, 0),
  (38, 1, .iload_n (2), 0, 0, 0, 0),
  (39, 1, .i2l, 0, 0, 0, 0),
  (40, 1, .iload_n (3), 0, 0, 0, 0),
  (41, 1, .ineg, 0, 0, 0, 0),
  (42, 1, .i2l, 0, 0, 0, 0),
  (43, 1, .iload_n (3), 0, 0, 0, 0),
  (44, 1, .i2l, 0, 0, 0, 0),
  (45, 3, .invokestatic (74), 0, 0, 0, 0),
  (48, 3, .ifCond .eq (7), 55, 0, 0, 0),
  (51, 1, .iconst (1), 0, 0, 1, 0),
  (52, 3, .goto (4), 56, 0, 0, 0),
  (55, 1, .iconst (0), 0, 0, 0, 0),
  (56, 1, .ireturn, 0, 0, 0, 0)]
def md_Mod_reaches : Md := (y_Mod_reaches, prog_8_method_38_code, 4, (some .boolean), pm_Mod_reaches)
theorem tk_Mod_reaches : Tm md_Mod_reaches := tab_of (o := 6) (by decide +kernel)
set_option maxRecDepth 100000 in
theorem ok_Mod_reaches : MdOk md_Mod_reaches 2 ∧ Cond.instanceMethod md_Mod_reaches.1 ∈ T1 ∧ Cond.selects md_Mod_reaches.1.cls md_Mod_reaches.1 md_Mod_reaches.1 ∈ T1 := ⟨⟨T1_in5 (i := 118) rfl rfl, T1_in1 (i := 8) rfl rfl, by decide +kernel, ⟨by decide +kernel, by decide +kernel⟩, by decide +kernel, by decide⟩, T1_in5 (i := 117) rfl rfl, T1_inP (i := 51) rfl⟩
def pm_Mod_isSnoring : List PE := [(0, 1, .iload_n (0), 0, 0, 0, 0),
  (1, 1, .iconst (1), 0, 0, 1, 0),
  (2, 3, .if_icmp .eq (8), 10, 0, 0, 0),
  (5, 1, .iload_n (0), 0, 0, 0, 0),
  (6, 1, .iconst (4), 0, 0, 4, 0),
  (7, 3, .if_icmp .ne (7), 14, 0, 0, 0),
  (10, 1, .iconst (1), 0, 0, 1, 0),
  (11, 3, .goto (4), 15, 0, 0, 0),
  (14, 1, .iconst (0), 0, 0, 0, 0),
  (15, 1, .ireturn, 0, 0, 0, 0)]
def md_Mod_isSnoring : Md := (y_Mod_isSnoring, prog_8_method_33_code, 1, (some .boolean), pm_Mod_isSnoring)
theorem tk_Mod_isSnoring : Tm md_Mod_isSnoring := tab_of (o := 6) (by decide +kernel)
set_option maxRecDepth 100000 in
theorem ok_Mod_isSnoring : MdOk md_Mod_isSnoring 1 ∧ Cond.static md_Mod_isSnoring.1 ∈ T1 := ⟨⟨T1_in5 (i := 121) rfl rfl, T1_in1 (i := 8) rfl rfl, by decide +kernel, ⟨by decide +kernel, by decide +kernel⟩, by decide +kernel, by decide⟩, T1_in5 (i := 120) rfl rfl⟩
def pm_Mod_snorersNear : List PE := [(0, 1, .iconst (0), 0, 0, 0, 0),
  (1, 1, .istore_n (2), 0, 0, 0, 0),
  (2, 1, .iconst (0), 0, 0, 0, 0),
  (3, 1, .istore_n (3), 0, 0, 0, 0),
  (4, 1, .iload_n (3), 0, 0, 0, 0),
  (5, 1, .aload_n (0), 0, 0, 0, 0),
  (6, 3, .getfield (143), 6, 1, 0, 0),
  (9, 3, .if_icmp .ge (36), 45, 0, 0, 0),
  (12, 1, .iload_n (2), 0, 0, 0, 0),
  (13, 1, .aload_n (0), 0, 0, 0, 0),
  (14, 1, .iload_n (3), 0, 0, 0, 0),
  (15, 1, .aload_n (0), 0, 0, 0, 0),
  (16, 1, .iload_n (3), 0, 0, 0, 0),
  (17, 3, .invokevirtual (158), 0, 0, 0, 0),
  (20, 1, .aload_n (0), 0, 0, 0, 0),
  (21, 1, .iload_n (1), 0, 0, 0, 0),
  (22, 3, .invokevirtual (158), 0, 0, 0, 0),
  (25, 1, .isub, 0, 0, 0, 0),
  (26, 3, .invokevirtual (170), 0, 0, 0, 0),
  (29, 3, .ifCond .eq (7), 36, 0, 0, 0),
  (32, 1, .iconst (1), 0, 0, 1, 0),
  (33, 3, .goto (4), 37, 0, 0, 0),
  (36, 1, .iconst (0), 0, 0, 0, 0),
  (37, 1, .iadd, 0, 0, 0, 0),
  (38, 1, .istore_n (2), 0, 0, 0, 0),
  (39, 3, .iinc (3) (1), 0, 0, 1, 0),
  (42, 3, .goto (-38), 4, 0, 0, 0),
  (45, 1, .iload_n (2), 0, 0, 0, 0),
  (46, 1, .ireturn, 0, 0, 0, 0)]
def md_Mod_snorersNear : Md := (y_Mod_snorersNear, prog_8_method_39_code, 4, (some .int), pm_Mod_snorersNear)
theorem tk_Mod_snorersNear : Tm md_Mod_snorersNear := tab_of (o := 6) (by decide +kernel)
set_option maxRecDepth 100000 in
theorem ok_Mod_snorersNear : MdOk md_Mod_snorersNear 1 ∧ Cond.instanceMethod md_Mod_snorersNear.1 ∈ T1 ∧ Cond.selects md_Mod_snorersNear.1.cls md_Mod_snorersNear.1 md_Mod_snorersNear.1 ∈ T1 := ⟨⟨T1_in5 (i := 125) rfl rfl, T1_in1 (i := 8) rfl rfl, by decide +kernel, ⟨by decide +kernel, by decide +kernel⟩, by decide +kernel, by decide⟩, T1_in5 (i := 124) rfl rfl, T1_inP (i := 52) rfl⟩
def pm_Mod_beside : List PE := [(0, 1, .aload_n (0), 0, 0, 0, 0),
  (1, 1, .iload_n (1), 0, 0, 0, 0),
  (2, 3, .invokevirtual (158), 0, 0, 0, 0),
  (5, 1, .istore_n (2), 0, 0, 0, 0),
  (6, 1, .iload_n (2), 0, 0, 0, 0),
  (7, 3, .ifCond .le (7), 14, 0, 0, 0),
  (10, 1, .iconst (1), 0, 0, 1, 0),
  (11, 3, .goto (4), 15, 0, 0, 0),
  (14, 1, .iconst (0), 0, 0, 0, 0),
  (15, 1, .iload_n (2), 0, 0, 0, 0),
  (16, 1, .aload_n (0), 0, 0, 0, 0),
  (17, 3, .getfield (143), 6, 1, 0, 0),
  (20, 1, .iconst (1), 0, 0, 1, 0),
  (21, 1, .isub, 0, 0, 0, 0),
  (22, 3, .if_icmp .ge (7), 29, 0, 0, 0),
  (25, 1, .iconst (1), 0, 0, 1, 0),
  (26, 3, .goto (4), 30, 0, 0, 0),
  (29, 1, .iconst (0), 0, 0, 0, 0),
  (30, 1, .iadd, 0, 0, 0, 0),
  (31, 1, .ireturn, 0, 0, 0, 0)]
def md_Mod_beside : Md := (y_Mod_beside, prog_8_method_49_code, 3, (some .int), pm_Mod_beside)
theorem tk_Mod_beside : Tm md_Mod_beside := tab_of (o := 6) (by decide +kernel)
set_option maxRecDepth 100000 in
theorem ok_Mod_beside : MdOk md_Mod_beside 1 ∧ Cond.instanceMethod md_Mod_beside.1 ∈ T1 ∧ Cond.selects md_Mod_beside.1.cls md_Mod_beside.1 md_Mod_beside.1 ∈ T1 := ⟨⟨T1_in5 (i := 129) rfl rfl, T1_in1 (i := 8) rfl rfl, by decide +kernel, ⟨by decide +kernel, by decide +kernel⟩, by decide +kernel, by decide⟩, T1_in5 (i := 128) rfl rfl, T1_inP (i := 53) rfl⟩
def pm_Mod_snorers : List PE := [(0, 1, .iconst (0), 0, 0, 0, 0),
  (1, 1, .istore_n (1), 0, 0, 0, 0),
  (2, 1, .iconst (0), 0, 0, 0, 0),
  (3, 1, .istore_n (2), 0, 0, 0, 0),
  (4, 1, .iload_n (2), 0, 0, 0, 0),
  (5, 1, .aload_n (0), 0, 0, 0, 0),
  (6, 3, .getfield (143), 6, 1, 0, 0),
  (9, 3, .if_icmp .ge (29), 38, 0, 0, 0),
  (12, 1, .iload_n (1), 0, 0, 0, 0),
  (13, 1, .aload_n (0), 0, 0, 0, 0),
  (14, 3, .getfield (13), 6, 2, 0, 0),
  (17, 1, .iload_n (2), 0, 0, 0, 0),
  (18, 1, .iaload, 0, 0, 0, 0),
  (19, 3, .invokestatic (167), 0, 0, 0, 0),
  (22, 3, .ifCond .eq (7), 29, 0, 0, 0),
  (25, 1, .iconst (1), 0, 0, 1, 0),
  (26, 3, .goto (4), 30, 0, 0, 0),
  (29, 1, .iconst (0), 0, 0, 0, 0),
  (30, 1, .iadd, 0, 0, 0, 0),
  (31, 1, .istore_n (1), 0, 0, 0, 0),
  (32, 3, .iinc (2) (1), 0, 0, 1, 0),
  (35, 3, .goto (-31), 4, 0, 0, 0),
  (38, 1, .iload_n (1), 0, 0, 0, 0),
  (39, 1, .ireturn, 0, 0, 0, 0)]
def md_Mod_snorers : Md := (y_Mod_snorers, prog_8_method_51_code, 3, (some .int), pm_Mod_snorers)
theorem tk_Mod_snorers : Tm md_Mod_snorers := tab_of (o := 6) (by decide +kernel)
set_option maxRecDepth 100000 in
theorem ok_Mod_snorers : MdOk md_Mod_snorers 0 ∧ Cond.instanceMethod md_Mod_snorers.1 ∈ T1 ∧ Cond.selects md_Mod_snorers.1.cls md_Mod_snorers.1 md_Mod_snorers.1 ∈ T1 := ⟨⟨T1_in5 (i := 133) rfl rfl, T1_in1 (i := 8) rfl rfl, by decide +kernel, ⟨by decide +kernel, by decide +kernel⟩, by decide +kernel, by decide⟩, T1_in5 (i := 132) rfl rfl, T1_inP (i := 54) rfl⟩
def pm_Mod_bits : List PE := [(0, 1, .iconst (0), 0, 0, 0, 0),
  (1, 1, .istore_n (1), 0, 0, 0, 0),
  (2, 1, .iconst (0), 0, 0, 0, 0),
  (3, 1, .istore_n (2), 0, 0, 0, 0),
  (4, 1, .iload_n (2), 0, 0, 0, 0),
  (5, 2, .bipush (8), 0, 0, 8, 0),
  (7, 3, .if_icmp .ge (17), 24, 0, 0, 0),
  (10, 1, .iload_n (1), 0, 0, 0, 0),
  (11, 1, .iload_n (0), 0, 0, 0, 0),
  (12, 1, .iload_n (2), 0, 0, 0, 0),
  (13, 1, .ishr, 0, 0, 0, 0),
  (14, 1, .iconst (1), 0, 0, 1, 0),
  (15, 1, .iand, 0, 0, 0, 0),
  (16, 1, .iadd, 0, 0, 0, 0),
  (17, 1, .istore_n (1), 0, 0, 0, 0),
  (18, 3, .iinc (2) (1), 0, 0, 1, 0),
  (21, 3, .goto (-17), 4, 0, 0, 0),
  (24, 1, .iload_n (1), 0, 0, 0, 0),
  (25, 1, .ireturn, 0, 0, 0, 0)]
def md_Mod_bits : Md := (y_Mod_bits, prog_8_method_4_code, 3, (some .int), pm_Mod_bits)
theorem tk_Mod_bits : Tm md_Mod_bits := tab_of (o := 6) (by decide +kernel)
set_option maxRecDepth 100000 in
theorem ok_Mod_bits : MdOk md_Mod_bits 1 ∧ Cond.static md_Mod_bits.1 ∈ T1 := ⟨⟨T1_in5 (i := 136) rfl rfl, T1_in1 (i := 8) rfl rfl, by decide +kernel, ⟨by decide +kernel, by decide +kernel⟩, by decide +kernel, by decide⟩, T1_in5 (i := 135) rfl rfl⟩
def pm_Mod_vent : List PE := [(0, 1, .iload_n (1), 0, 0, 0, 0),
  (1, 1, .i2l, 0, 0, 0, 0),
  (2, 1, .lconst (0), 0, 0, 0, 0),
  (3, 1, .lconst (1), 0, 0, 0, 1),
  (4, 3, .invokestatic (74), 0, 0, 0, 0),
  (7, 3, .ifCond .ne (5), 12, 0, 0, 0),
  (10, 1, .iconst (-1), 0, 0, (-1), 0),
  (11, 1, .ireturn, 0, 0, 0, 0),
  (12, 1, .aload_n (0), 0, 0, 0, 0),
  (13, 3, .getfield (143), 6, 1, 0, 0),
  (16, 3, .ifCond .ne (6), 22, 0, 0, 0),
  (19, 2, .bipush (-4), 0, 0, (-4), 0),
  (21, 1, .ireturn, 0, 0, 0, 0),
  (22, 1, .aload_n (0), 0, 0, 0, 0),
  (23, 3, .getfield (7), 6, 0, 0, 0),
  (26, 2, .bipush (11), 0, 0, 11, 0),
  (28, 1, .iaload, 0, 0, 0, 0),
  (29, 1, .istore_n (2), 0, 0, 0, 0),
  (30, 1, .aload_n (0), 0, 0, 0, 0),
  (31, 3, .getfield (7), 6, 0, 0, 0),
  (34, 2, .bipush (11), 0, 0, 11, 0),
  (36, 1, .iload_n (1), 0, 0, 0, 0),
  (37, 1, .iastore, 0, 0, 0, 0),
  (38, 1, .iload_n (2), 0, 0, 0, 0),
  (39, 1, .ireturn, 0, 0, 0, 0)]
def md_Mod_vent : Md := (y_Mod_vent, prog_8_method_53_code, 3, (some .int), pm_Mod_vent)
theorem tk_Mod_vent : Tm md_Mod_vent := tab_of (o := 6) (by decide +kernel)
set_option maxRecDepth 100000 in
theorem ok_Mod_vent : MdOk md_Mod_vent 1 ∧ Cond.instanceMethod md_Mod_vent.1 ∈ T1 ∧ Cond.selects md_Mod_vent.1.cls md_Mod_vent.1 md_Mod_vent.1 ∈ T1 := ⟨⟨T1_in5 (i := 140) rfl rfl, T1_in1 (i := 8) rfl rfl, by decide +kernel, ⟨by decide +kernel, by decide +kernel⟩, by decide +kernel, by decide⟩, T1_in5 (i := 138) rfl rfl, T1_in5 (i := 139) rfl rfl⟩
def pm_Mod_bottle : List PE := [(0, 1, .iload_n (1), 0, 0, 0, 0),
  (1, 1, .i2l, 0, 0, 0, 0),
  (2, 1, .lconst (0), 0, 0, 0, 0),
  (3, 1, .aload_n (0), 0, 0, 0, 0),
  (4, 3, .getfield (143), 6, 1, 0, 0),
  (7, 1, .iconst (1), 0, 0, 1, 0),
  (8, 1, .isub, 0, 0, 0, 0),
  (9, 1, .i2l, 0, 0, 0, 0),
  (10, 3, .invokestatic (74), 0, 0, 0, 0),
  (13, 3, .ifCond .ne (5), 18, 0, 0, 0),
  (16, 1, .iconst (-1), 0, 0, (-1), 0),
  (17, 1, .ireturn, 0, 0, 0, 0),
  (18, 1, .aload_n (0), 0, 0, 0, 0),
  (19, 3, .getfield (7), 6, 0, 0, 0),
  (22, 2, .bipush (12), 0, 0, 12, 0),
  (24, 1, .iaload, 0, 0, 0, 0),
  (25, 1, .istore_n (2), 0, 0, 0, 0),
  (26, 1, .aload_n (0), 0, 0, 0, 0),
  (27, 3, .getfield (7), 6, 0, 0, 0),
  (30, 2, .bipush (12), 0, 0, 12, 0),
  (32, 1, .iload_n (1), 0, 0, 0, 0),
  (33, 1, .iastore, 0, 0, 0, 0),
  (34, 1, .iload_n (2), 0, 0, 0, 0),
  (35, 1, .ireturn, 0, 0, 0, 0)]
def md_Mod_bottle : Md := (y_Mod_bottle, prog_8_method_54_code, 3, (some .int), pm_Mod_bottle)
theorem tk_Mod_bottle : Tm md_Mod_bottle := tab_of (o := 6) (by decide +kernel)
set_option maxRecDepth 100000 in
theorem ok_Mod_bottle : MdOk md_Mod_bottle 1 ∧ Cond.instanceMethod md_Mod_bottle.1 ∈ T1 ∧ Cond.selects md_Mod_bottle.1.cls md_Mod_bottle.1 md_Mod_bottle.1 ∈ T1 := ⟨⟨T1_in5 (i := 144) rfl rfl, T1_in1 (i := 8) rfl rfl, by decide +kernel, ⟨by decide +kernel, by decide +kernel⟩, by decide +kernel, by decide⟩, T1_in5 (i := 142) rfl rfl, T1_in5 (i := 143) rfl rfl⟩
def pm_Mod_turns : List PE := [(0, 1, .iload_n (1), 0, 0, 0, 0),
  (1, 1, .i2l, 0, 0, 0, 0),
  (2, 1, .lconst (0), 0, 0, 0, 0),
  (3, 3, .ldc2_w (222), 0, 0, 0, 255),
  (6, 3, .invokestatic (74), 0, 0, 0, 0),
  (9, 3, .ifCond .ne (5), 14, 0, 0, 0),
  (12, 1, .iconst (-1), 0, 0, (-1), 0),
  (13, 1, .ireturn, 0, 0, 0, 0),
  (14, 1, .aload_n (0), 0, 0, 0, 0),
  (15, 3, .getfield (143), 6, 1, 0, 0),
  (18, 3, .ifCond .ne (6), 24, 0, 0, 0),
  (21, 2, .bipush (-4), 0, 0, (-4), 0),
  (23, 1, .ireturn, 0, 0, 0, 0),
  (24, 1, .aload_n (0), 0, 0, 0, 0),
  (25, 3, .getfield (7), 6, 0, 0, 0),
  (28, 2, .bipush (13), 0, 0, 13, 0),
  (30, 1, .iaload, 0, 0, 0, 0),
  (31, 1, .istore_n (2), 0, 0, 0, 0),
  (32, 1, .aload_n (0), 0, 0, 0, 0),
  (33, 3, .getfield (7), 6, 0, 0, 0),
  (36, 2, .bipush (13), 0, 0, 13, 0),
  (38, 1, .iload_n (1), 0, 0, 0, 0),
  (39, 1, .iastore, 0, 0, 0, 0),
  (40, 1, .iload_n (2), 0, 0, 0, 0),
  (41, 1, .ireturn, 0, 0, 0, 0)]
def md_Mod_turns : Md := (y_Mod_turns, prog_8_method_55_code, 3, (some .int), pm_Mod_turns)
theorem tk_Mod_turns : Tm md_Mod_turns := tab_of (o := 6) (by decide +kernel)
set_option maxRecDepth 100000 in
theorem ok_Mod_turns : MdOk md_Mod_turns 1 ∧ Cond.instanceMethod md_Mod_turns.1 ∈ T1 ∧ Cond.selects md_Mod_turns.1.cls md_Mod_turns.1 md_Mod_turns.1 ∈ T1 := ⟨⟨T1_in5 (i := 148) rfl rfl, T1_in1 (i := 8) rfl rfl, by decide +kernel, ⟨by decide +kernel, by decide +kernel⟩, by decide +kernel, by decide⟩, T1_in5 (i := 146) rfl rfl, T1_in5 (i := 147) rfl rfl⟩
def pm_Mod_change : List PE := [(0, 1, .aload_n (0), 0, 0, 0, 0),
  (1, 1, .iload_n (1), 0, 0, 0, 0),
  (2, 3, .invokevirtual (198), 0, 0, 0, 0),
  (5, 3, .ifCond .eq (11), 16, 0, 0, 0),
  (8, 1, .aload_n (0), 0, 0, 0, 0),
  (9, 1, .iload_n (2), 0, 0, 0, 0),
  (10, 3, .invokevirtual (198), 0, 0, 0, 0),
  (13, 3, .ifCond .ne (5), 18, 0, 0, 0),
  (16, 1, .iconst (-1), 0, 0, (-1), 0),
  (17, 1, .ireturn, 0, 0, 0, 0),
  (18, 1, .aload_n (0), 0, 0, 0, 0),
  (19, 3, .invokevirtual (204), 0, 0, 0, 0),
  (22, 1, .aload_n (0), 0, 0, 0, 0),
  (23, 1, .iload_n (2), 0, 0, 0, 0),
  (24, 3, .invokevirtual (158), 0, 0, 0, 0),
  (27, 1, .istore_n (3), 0, 0, 0, 0),
  (28, 1, .aload_n (0), 0, 0, 0, 0),
  (29, 1, .iconst (1), 0, 0, 1, 0),
  (30, 1, .aload_n (0), 0, 0, 0, 0),
  (31, 1, .iload_n (1), 0, 0, 0, 0),
  (32, 3, .invokevirtual (158), 0, 0, 0, 0),
  (35, 1, .iadd, 0, 0, 0, 0),
  (36, 1, .iconst (1), 0, 0, 1, 0),
  (37, 1, .iload_n (3), 0, 0, 0, 0),
  (38, 1, .iadd, 0, 0, 0, 0),
  (39, 3, .invokevirtual (224), 0, 0, 0, 0),
  (42, 1, .iload_n (3), 0, 0, 0, 0),
  (43, 1, .ireturn, 0, 0, 0, 0)]
def md_Mod_change : Md := (y_Mod_change, prog_8_method_57_code, 4, (some .int), pm_Mod_change)
theorem tk_Mod_change : Tm md_Mod_change := tab_of (o := 6) (by decide +kernel)
set_option maxRecDepth 100000 in
theorem ok_Mod_change : MdOk md_Mod_change 2 ∧ Cond.instanceMethod md_Mod_change.1 ∈ T1 ∧ Cond.selects md_Mod_change.1.cls md_Mod_change.1 md_Mod_change.1 ∈ T1 := ⟨⟨T1_in5 (i := 153) rfl rfl, T1_in1 (i := 8) rfl rfl, by decide +kernel, ⟨by decide +kernel, by decide +kernel⟩, by decide +kernel, by decide⟩, T1_in5 (i := 151) rfl rfl, T1_in5 (i := 152) rfl rfl⟩
def pm_Mod_swap : List PE := [(0, 1, .aload_n (0), 0, 0, 0, 0),
  (1, 3, .getfield (7), 6, 0, 0, 0),
  (4, 1, .iload_n (1), 0, 0, 0, 0),
  (5, 1, .iaload, 0, 0, 0, 0),
  (6, 1, .istore_n (3), 0, 0, 0, 0),
  (7, 1, .aload_n (0), 0, 0, 0, 0),
  (8, 3, .getfield (7), 6, 0, 0, 0),
  (11, 1, .iload_n (1), 0, 0, 0, 0),
  (12, 1, .aload_n (0), 0, 0, 0, 0),
  (13, 3, .getfield (7), 6, 0, 0, 0),
  (16, 1, .iload_n (2), 0, 0, 0, 0),
  (17, 1, .iaload, 0, 0, 0, 0),
  (18, 1, .iastore, 0, 0, 0, 0),
  (19, 1, .aload_n (0), 0, 0, 0, 0),
  (20, 3, .getfield (7), 6, 0, 0, 0),
  (23, 1, .iload_n (2), 0, 0, 0, 0),
  (24, 1, .iload_n (3), 0, 0, 0, 0),
  (25, 1, .iastore, 0, 0, 0, 0),
  (26, 1, .return_, 0, 0, 0, 0)]
def md_Mod_swap : Md := (y_Mod_swap, prog_8_method_56_code, 4, none, pm_Mod_swap)
theorem tk_Mod_swap : Tm md_Mod_swap := tab_of (o := 6) (by decide +kernel)
set_option maxRecDepth 100000 in
theorem ok_Mod_swap : MdOk md_Mod_swap 2 ∧ Cond.instanceMethod md_Mod_swap.1 ∈ T1 ∧ Cond.selects md_Mod_swap.1.cls md_Mod_swap.1 md_Mod_swap.1 ∈ T1 := ⟨⟨T1_in5 (i := 157) rfl rfl, T1_in1 (i := 8) rfl rfl, by decide +kernel, ⟨by decide +kernel, by decide +kernel⟩, by decide +kernel, by decide⟩, T1_in5 (i := 156) rfl rfl, T1_inP (i := 55) rfl⟩
def pm_Mod_bags : List PE := [(0, 1, .aload_n (0), 0, 0, 0, 0),
  (1, 1, .iload_n (1), 0, 0, 0, 0),
  (2, 3, .invokevirtual (198), 0, 0, 0, 0),
  (5, 3, .ifCond .eq (11), 16, 0, 0, 0),
  (8, 1, .aload_n (0), 0, 0, 0, 0),
  (9, 1, .iload_n (2), 0, 0, 0, 0),
  (10, 3, .invokevirtual (198), 0, 0, 0, 0),
  (13, 3, .ifCond .ne (5), 18, 0, 0, 0),
  (16, 1, .iconst (-1), 0, 0, (-1), 0),
  (17, 1, .ireturn, 0, 0, 0, 0),
  (18, 1, .aload_n (0), 0, 0, 0, 0),
  (19, 2, .bipush (6), 0, 0, 6, 0),
  (21, 1, .iload_n (1), 0, 0, 0, 0),
  (22, 1, .iadd, 0, 0, 0, 0),
  (23, 2, .bipush (6), 0, 0, 6, 0),
  (25, 1, .iload_n (2), 0, 0, 0, 0),
  (26, 1, .iadd, 0, 0, 0, 0),
  (27, 3, .invokevirtual (224), 0, 0, 0, 0),
  (30, 1, .aload_n (0), 0, 0, 0, 0),
  (31, 3, .getfield (7), 6, 0, 0, 0),
  (34, 2, .bipush (6), 0, 0, 6, 0),
  (36, 1, .iload_n (1), 0, 0, 0, 0),
  (37, 1, .iadd, 0, 0, 0, 0),
  (38, 1, .iaload, 0, 0, 0, 0),
  (39, 1, .ireturn, 0, 0, 0, 0)]
def md_Mod_bags : Md := (y_Mod_bags, prog_8_method_58_code, 3, (some .int), pm_Mod_bags)
theorem tk_Mod_bags : Tm md_Mod_bags := tab_of (o := 6) (by decide +kernel)
set_option maxRecDepth 100000 in
theorem ok_Mod_bags : MdOk md_Mod_bags 2 ∧ Cond.instanceMethod md_Mod_bags.1 ∈ T1 ∧ Cond.selects md_Mod_bags.1.cls md_Mod_bags.1 md_Mod_bags.1 ∈ T1 := ⟨⟨T1_in5 (i := 161) rfl rfl, T1_in1 (i := 8) rfl rfl, by decide +kernel, ⟨by decide +kernel, by decide +kernel⟩, by decide +kernel, by decide⟩, T1_in5 (i := 159) rfl rfl, T1_in5 (i := 160) rfl rfl⟩
def pm_Mod_lie : List PE := [(0, 1, .iload_n (1), 0, 0, 0, 0),
  (1, 3, .invokestatic (80), 0, 0, 0, 0),
  (4, 3, .ifCond .ne (5), 9, 0, 0, 0),
  (7, 1, .iconst (-1), 0, 0, (-1), 0),
  (8, 1, .ireturn, 0, 0, 0, 0),
  (9, 1, .aload_n (0), 0, 0, 0, 0),
  (10, 3, .getfield (143), 6, 1, 0, 0),
  (13, 3, .ifCond .ne (6), 19, 0, 0, 0),
  (16, 2, .bipush (-4), 0, 0, (-4), 0),
  (18, 1, .ireturn, 0, 0, 0, 0),
  (19, 1, .aload_n (0), 0, 0, 0, 0),
  (20, 3, .getfield (22), 6, 5, 0, 0),
  (23, 1, .iload_n (1), 0, 0, 0, 0),
  (24, 1, .iaload, 0, 0, 0, 0),
  (25, 3, .ifCond .ge (9), 34, 0, 0, 0),
  (28, 1, .aload_n (0), 0, 0, 0, 0),
  (29, 1, .iconst (1), 0, 0, 1, 0),
  (30, 3, .invokevirtual (84), 0, 0, 0, 0),
  (33, 1, .ireturn, 0, 0, 0, 0),
  (34, 1, .aload_n (0), 0, 0, 0, 0),
  (35, 3, .getfield (22), 6, 5, 0, 0),
  (38, 1, .iload_n (1), 0, 0, 0, 0),
  (39, 1, .iaload, 0, 0, 0, 0),
  (40, 1, .aload_n (0), 0, 0, 0, 0),
  (41, 3, .getfield (143), 6, 1, 0, 0),
  (44, 3, .if_icmp .eq (9), 53, 0, 0, 0),
  (47, 1, .aload_n (0), 0, 0, 0, 0),
  (48, 1, .iconst (5), 0, 0, 5, 0),
  (49, 3, .invokevirtual (84), 0, 0, 0, 0),
  (52, 1, .ireturn, 0, 0, 0, 0),
  (53, 1, .aload_n (0), 0, 0, 0, 0),
  (54, 1, .iload_n (1), 0, 0, 0, 0),
  (55, 3, .invokevirtual (227), 0, 0, 0, 0),
  (58, 3, .ifCond .ne (9), 67, 0, 0, 0),
  (61, 1, .aload_n (0), 0, 0, 0, 0),
  (62, 1, .iconst (3), 0, 0, 3, 0),
  (63, 3, .invokevirtual (84), 0, 0, 0, 0),
  (66, 1, .ireturn, 0, 0, 0, 0),
  (67, 1, .iconst (0), 0, 0, 0, 0),
  (68, 1, .istore_n (2), 0, 0, 0, 0),
  (69, 1, .iload_n (2), 0, 0, 0, 0),
  (70, 1, .aload_n (0), 0, 0, 0, 0),
  (71, 3, .getfield (143), 6, 1, 0, 0),
  (74, 3, .if_icmp .ge (28), 102, 0, 0, 0),
  (77, 1, .aload_n (0), 0, 0, 0, 0),
  (78, 3, .getfield (7), 6, 0, 0, 0),
  (81, 1, .iconst (1), 0, 0, 1, 0),
  (82, 1, .iload_n (2), 0, 0, 0, 0),
  (83, 1, .iadd, 0, 0, 0, 0),
  (84, 1, .aload_n (0), 0, 0, 0, 0),
  (85, 3, .getfield (25), 6, 6, 0, 0),
  (88, 2, .bipush (40), 0, 0, 40, 0),
  (90, 1, .iload_n (1), 0, 0, 0, 0),
  (91, 1, .imul, 0, 0, 0, 0),
  (92, 1, .iload_n (2), 0, 0, 0, 0),
  (93, 1, .iadd, 0, 0, 0, 0),
  (94, 1, .iaload, 0, 0, 0, 0),
  (95, 1, .iastore, 0, 0, 0, 0),
  (96, 3, .iinc (2) (1), 0, 0, 1, 0),
  (99, 3, .goto (-30), 69, 0, 0, 0),
  (102, 1, .iconst (1), 0, 0, 1, 0),
  (103, 1, .ireturn, 0, 0, 0, 0)]
def md_Mod_lie : Md := (y_Mod_lie, prog_8_method_60_code, 3, (some .int), pm_Mod_lie)
theorem tk_Mod_lie : Tm md_Mod_lie := tab_of (o := 6) (by decide +kernel)
set_option maxRecDepth 100000 in
theorem ok_Mod_lie : MdOk md_Mod_lie 1 ∧ Cond.instanceMethod md_Mod_lie.1 ∈ T1 ∧ Cond.selects md_Mod_lie.1.cls md_Mod_lie.1 md_Mod_lie.1 ∈ T1 := ⟨⟨T1_in5 (i := 165) rfl rfl, T1_in1 (i := 8) rfl rfl, by decide +kernel, ⟨by decide +kernel, by decide +kernel⟩, by decide +kernel, by decide⟩, T1_in5 (i := 163) rfl rfl, T1_in5 (i := 164) rfl rfl⟩
def pm_Mod_isOrder : List PE := [(0, 1, .iconst (0), 0, 0, 0, 0),
  (1, 1, .istore_n (2), 0, 0, 0, 0),
  (2, 1, .iconst (0), 0, 0, 0, 0),
  (3, 1, .istore_n (3), 0, 0, 0, 0),
  (4, 1, .iload_n (3), 0, 0, 0, 0),
  (5, 1, .aload_n (0), 0, 0, 0, 0),
  (6, 3, .getfield (143), 6, 1, 0, 0),
  (9, 3, .if_icmp .ge (42), 51, 0, 0, 0),
  (12, 1, .aload_n (0), 0, 0, 0, 0),
  (13, 3, .getfield (25), 6, 6, 0, 0),
  (16, 2, .bipush (40), 0, 0, 40, 0),
  (18, 1, .iload_n (1), 0, 0, 0, 0),
  (19, 1, .imul, 0, 0, 0, 0),
  (20, 1, .iload_n (3), 0, 0, 0, 0),
  (21, 1, .iadd, 0, 0, 0, 0),
  (22, 1, .iaload, 0, 0, 0, 0),
  (23, 2, .istore (4), 0, 0, 0, 0),
  (25, 1, .iload_n (2), 0, 0, 0, 0),
  (26, 1, .aload_n (0), 0, 0, 0, 0),
  (27, 2, .iload (4), 0, 0, 0, 0),
  (29, 3, .invokevirtual (198), 0, 0, 0, 0),
  (32, 3, .ifCond .eq (10), 42, 0, 0, 0),
  (35, 1, .iconst (1), 0, 0, 1, 0),
  (36, 2, .iload (4), 0, 0, 0, 0),
  (38, 1, .ishl, 0, 0, 0, 0),
  (39, 3, .goto (4), 43, 0, 0, 0),
  (42, 1, .iconst (0), 0, 0, 0, 0),
  (43, 1, .ior, 0, 0, 0, 0),
  (44, 1, .istore_n (2), 0, 0, 0, 0),
  (45, 3, .iinc (3) (1), 0, 0, 1, 0),
  (48, 3, .goto (-44), 4, 0, 0, 0),
  (51, 1, .iload_n (2), 0, 0, 0, 0),
  (52, 1, .iconst (1), 0, 0, 1, 0),
  (53, 1, .aload_n (0), 0, 0, 0, 0),
  (54, 3, .getfield (143), 6, 1, 0, 0),
  (57, 1, .ishl, 0, 0, 0, 0),
  (58, 1, .iconst (1), 0, 0, 1, 0),
  (59, 1, .isub, 0, 0, 0, 0),
  (60, 3, .if_icmp .ne (7), 67, 0, 0, 0),
  (63, 1, .iconst (1), 0, 0, 1, 0),
  (64, 3, .goto (4), 68, 0, 0, 0),
  (67, 1, .iconst (0), 0, 0, 0, 0),
  (68, 1, .ireturn, 0, 0, 0, 0)]
def md_Mod_isOrder : Md := (y_Mod_isOrder, prog_8_method_59_code, 5, (some .boolean), pm_Mod_isOrder)
theorem tk_Mod_isOrder : Tm md_Mod_isOrder := tab_of (o := 6) (by decide +kernel)
set_option maxRecDepth 100000 in
theorem ok_Mod_isOrder : MdOk md_Mod_isOrder 1 ∧ Cond.instanceMethod md_Mod_isOrder.1 ∈ T1 ∧ Cond.selects md_Mod_isOrder.1.cls md_Mod_isOrder.1 md_Mod_isOrder.1 ∈ T1 := ⟨⟨T1_in5 (i := 169) rfl rfl, T1_in1 (i := 8) rfl rfl, by decide +kernel, ⟨by decide +kernel, by decide +kernel⟩, by decide +kernel, by decide⟩, T1_in5 (i := 168) rfl rfl, T1_inP (i := 56) rfl⟩
def pm_Mod_hour : List PE := [(0, 1, .aload_n (0), 0, 0, 0, 0),
  (1, 3, .getfield (143), 6, 1, 0, 0),
  (4, 3, .ifCond .eq (15), 19, 0, 0, 0),
  (7, 1, .aload_n (0), 0, 0, 0, 0),
  (8, 3, .getfield (7), 6, 0, 0, 0),
  (11, 2, .bipush (15), 0, 0, 15, 0),
  (13, 1, .iaload, 0, 0, 0, 0),
  (14, 2, .bipush (8), 0, 0, 8, 0),
  (16, 3, .if_icmp .ne (6), 22, 0, 0, 0),
  (19, 2, .bipush (-4), 0, 0, (-4), 0),
  (21, 1, .ireturn, 0, 0, 0, 0),
  (22, 1, .aload_n (0), 0, 0, 0, 0),
  (23, 3, .getfield (7), 6, 0, 0, 0),
  (26, 1, .iconst (0), 0, 0, 0, 0),
  (27, 1, .iaload, 0, 0, 0, 0),
  (28, 2, .bipush (40), 0, 0, 40, 0),
  (30, 3, .if_icmp .ne (6), 36, 0, 0, 0),
  (33, 2, .bipush (-2), 0, 0, (-2), 0),
  (35, 1, .ireturn, 0, 0, 0, 0),
  (36, 1, .iconst (0), 0, 0, 0, 0),
  (37, 1, .istore_n (1), 0, 0, 0, 0),
  (38, 1, .iload_n (1), 0, 0, 0, 0),
  (39, 2, .bipush (25), 0, 0, 25, 0),
  (41, 3, .if_icmp .ge (36), 77, 0, 0, 0),
  (44, 1, .aload_n (0), 0, 0, 0, 0),
  (45, 3, .getfield (7), 6, 0, 0, 0),
  (48, 2, .bipush (26), 0, 0, 26, 0),
  (50, 2, .bipush (25), 0, 0, 25, 0),
  (52, 1, .aload_n (0), 0, 0, 0, 0),
  (53, 3, .getfield (7), 6, 0, 0, 0),
  (56, 1, .iconst (0), 0, 0, 0, 0),
  (57, 1, .iaload, 0, 0, 0, 0),
  (58, 1, .imul, 0, 0, 0, 0),
  (59, 1, .iadd, 0, 0, 0, 0),
  (60, 1, .iload_n (1), 0, 0, 0, 0),
  (61, 1, .iadd, 0, 0, 0, 0),
  (62, 1, .aload_n (0), 0, 0, 0, 0),
  (63, 3, .getfield (7), 6, 0, 0, 0),
  (66, 1, .iconst (1), 0, 0, 1, 0),
  (67, 1, .iload_n (1), 0, 0, 0, 0),
  (68, 1, .iadd, 0, 0, 0, 0),
  (69, 1, .iaload, 0, 0, 0, 0),
  (70, 1, .iastore, 0, 0, 0, 0),
  (71, 3, .iinc (1) (1), 0, 0, 1, 0),
  (74, 3, .goto (-36), 38, 0, 0, 0),
  (77, 1, .aload_n (0), 0, 0, 0, 0),
  (78, 3, .invokevirtual (204), 0, 0, 0, 0),
  (81, 1, .aload_n (0), 0, 0, 0, 0),
  (82, 1, .aload_n (0), 0, 0, 0, 0),
  (83, 3, .getfield (7), 6, 0, 0, 0),
  (86, 2, .bipush (15), 0, 0, 15, 0),
  (88, 1, .iaload, 0, 0, 0, 0),
  (89, 3, .invokevirtual (230), 0, 0, 0, 0),
  (92, 1, .istore_n (1), 0, 0, 0, 0),
  (93, 1, .iconst (0), 0, 0, 0, 0),
  (94, 1, .istore_n (2), 0, 0, 0, 0),
  (95, 1, .iload_n (2), 0, 0, 0, 0),
  (96, 1, .aload_n (0), 0, 0, 0, 0),
  (97, 3, .getfield (143), 6, 1, 0, 0),
  (100, 3, .if_icmp .ge (55), 155, 0, 0, 0),
  (103, 1, .aload_n (0), 0, 0, 0, 0),
  (104, 3, .getfield (7), 6, 0, 0, 0),
  (107, 2, .bipush (16), 0, 0, 16, 0),
  (109, 1, .iload_n (2), 0, 0, 0, 0),
  (110, 1, .iadd, 0, 0, 0, 0),
  (111, 1, .dup2, 0, 0, 0, 0),
  (112, 1, .iaload, 0, 0, 0, 0),
  (113, 1, .iload_n (1), 0, 0, 0, 0),
  (114, 1, .iload_n (2), 0, 0, 0, 0),
  (115, 1, .ishr, 0, 0, 0, 0),
  (116, 1, .iconst (1), 0, 0, 1, 0),
  (117, 1, .iand, 0, 0, 0, 0),
  (118, 1, .iadd, 0, 0, 0, 0),
  (119, 1, .iastore, 0, 0, 0, 0),
  (120, 1, .aload_n (0), 0, 0, 0, 0),
  (121, 3, .getfield (7), 6, 0, 0, 0),
  (124, 2, .bipush (21), 0, 0, 21, 0),
  (126, 1, .iload_n (2), 0, 0, 0, 0),
  (127, 1, .iadd, 0, 0, 0, 0),
  (128, 1, .dup2, 0, 0, 0, 0),
  (129, 1, .iaload, 0, 0, 0, 0),
  (130, 1, .aload_n (0), 0, 0, 0, 0),
  (131, 1, .aload_n (0), 0, 0, 0, 0),
  (132, 1, .iload_n (2), 0, 0, 0, 0),
  (133, 3, .invokevirtual (158), 0, 0, 0, 0),
  (136, 3, .invokevirtual (164), 0, 0, 0, 0),
  (139, 3, .ifCond .eq (7), 146, 0, 0, 0),
  (142, 1, .iconst (1), 0, 0, 1, 0),
  (143, 3, .goto (4), 147, 0, 0, 0),
  (146, 1, .iconst (0), 0, 0, 0, 0),
  (147, 1, .iadd, 0, 0, 0, 0),
  (148, 1, .iastore, 0, 0, 0, 0),
  (149, 3, .iinc (2) (1), 0, 0, 1, 0),
  (152, 3, .goto (-57), 95, 0, 0, 0),
  (155, 1, .aload_n (0), 0, 0, 0, 0),
  (156, 3, .getfield (7), 6, 0, 0, 0),
  (159, 1, .iconst (0), 0, 0, 0, 0),
  (160, 1, .dup2, 0, 0, 0, 0),
  (161, 1, .iaload, 0, 0, 0, 0),
  (162, 1, .iconst (1), 0, 0, 1, 0),
  (163, 1, .iadd, 0, 0, 0, 0),
  (164, 1, .iastore, 0, 0, 0, 0),
  (165, 1, .aload_n (0), 0, 0, 0, 0),
  (166, 3, .getfield (7), 6, 0, 0, 0),
  (169, 2, .bipush (15), 0, 0, 15, 0),
  (171, 1, .dup2, 0, 0, 0, 0),
  (172, 1, .iaload, 0, 0, 0, 0),
  (173, 1, .iconst (1), 0, 0, 1, 0),
  (174, 1, .iadd, 0, 0, 0, 0),
  (175, 1, .iastore, 0, 0, 0, 0),
  (176, 1, .iload_n (1), 0, 0, 0, 0),
  (177, 1, .ireturn, 0, 0, 0, 0)]
def md_Mod_hour : Md := (y_Mod_hour, prog_8_method_62_code, 3, (some .int), pm_Mod_hour)
theorem tk_Mod_hour : Tm md_Mod_hour := tab_of (o := 6) (by decide +kernel)
set_option maxRecDepth 100000 in
theorem ok_Mod_hour : MdOk md_Mod_hour 0 ∧ Cond.instanceMethod md_Mod_hour.1 ∈ T1 ∧ Cond.selects md_Mod_hour.1.cls md_Mod_hour.1 md_Mod_hour.1 ∈ T1 := ⟨⟨T1_in5 (i := 173) rfl rfl, T1_in1 (i := 8) rfl rfl, by decide +kernel, ⟨by decide +kernel, by decide +kernel⟩, by decide +kernel, by decide⟩, T1_in5 (i := 171) rfl rfl, T1_in5 (i := 172) rfl rfl⟩
def pm_Mod_sleepsIn : List PE := [(0, 1, .iconst (0), 0, 0, 0, 0),
  (1, 1, .istore_n (2), 0, 0, 0, 0),
  (2, 1, .iconst (0), 0, 0, 0, 0),
  (3, 1, .istore_n (3), 0, 0, 0, 0),
  (4, 1, .iload_n (3), 0, 0, 0, 0),
  (5, 1, .aload_n (0), 0, 0, 0, 0),
  (6, 3, .getfield (143), 6, 1, 0, 0),
  (9, 3, .if_icmp .ge (28), 37, 0, 0, 0),
  (12, 1, .iload_n (2), 0, 0, 0, 0),
  (13, 1, .aload_n (0), 0, 0, 0, 0),
  (14, 1, .iload_n (3), 0, 0, 0, 0),
  (15, 1, .iload_n (1), 0, 0, 0, 0),
  (16, 3, .invokevirtual (192), 0, 0, 0, 0),
  (19, 3, .ifCond .ne (9), 28, 0, 0, 0),
  (22, 1, .iconst (1), 0, 0, 1, 0),
  (23, 1, .iload_n (3), 0, 0, 0, 0),
  (24, 1, .ishl, 0, 0, 0, 0),
  (25, 3, .goto (4), 29, 0, 0, 0),
  (28, 1, .iconst (0), 0, 0, 0, 0),
  (29, 1, .ior, 0, 0, 0, 0),
  (30, 1, .istore_n (2), 0, 0, 0, 0),
  (31, 3, .iinc (3) (1), 0, 0, 1, 0),
  (34, 3, .goto (-30), 4, 0, 0, 0),
  (37, 1, .iload_n (2), 0, 0, 0, 0),
  (38, 1, .ireturn, 0, 0, 0, 0)]
def md_Mod_sleepsIn : Md := (y_Mod_sleepsIn, prog_8_method_61_code, 4, (some .int), pm_Mod_sleepsIn)
theorem tk_Mod_sleepsIn : Tm md_Mod_sleepsIn := tab_of (o := 6) (by decide +kernel)
set_option maxRecDepth 100000 in
theorem ok_Mod_sleepsIn : MdOk md_Mod_sleepsIn 1 ∧ Cond.instanceMethod md_Mod_sleepsIn.1 ∈ T1 ∧ Cond.selects md_Mod_sleepsIn.1.cls md_Mod_sleepsIn.1 md_Mod_sleepsIn.1 ∈ T1 := ⟨⟨T1_in5 (i := 177) rfl rfl, T1_in1 (i := 8) rfl rfl, by decide +kernel, ⟨by decide +kernel, by decide +kernel⟩, by decide +kernel, by decide⟩, T1_in5 (i := 176) rfl rfl, T1_inP (i := 57) rfl⟩
def pm_Mod_whyNot : List PE := [(0, 1, .aload_n (0), 0, 0, 0, 0),
  (1, 1, .iload_n (1), 0, 0, 0, 0),
  (2, 1, .iload_n (2), 0, 0, 0, 0),
  (3, 3, .invokevirtual (183), 0, 0, 0, 0),
  (6, 3, .ifCond .ge (7), 13, 0, 0, 0),
  (9, 1, .iconst (1), 0, 0, 1, 0),
  (10, 3, .goto (4), 14, 0, 0, 0),
  (13, 1, .iconst (0), 0, 0, 0, 0),
  (14, 1, .istore_n (3), 0, 0, 0, 0),
  (15, 1, .iload_n (3), 0, 0, 0, 0),
  (16, 1, .aload_n (0), 0, 0, 0, 0),
  (17, 1, .iload_n (1), 0, 0, 0, 0),
  (18, 3, .invokevirtual (186), 0, 0, 0, 0),
  (21, 3, .ifCond .eq (7), 28, 0, 0, 0),
  (24, 1, .iconst (2), 0, 0, 2, 0),
  (25, 3, .goto (4), 29, 0, 0, 0),
  (28, 1, .iconst (0), 0, 0, 0, 0),
  (29, 1, .iadd, 0, 0, 0, 0),
  (30, 1, .istore_n (3), 0, 0, 0, 0),
  (31, 1, .iload_n (3), 0, 0, 0, 0),
  (32, 1, .aload_n (0), 0, 0, 0, 0),
  (33, 1, .iload_n (2), 0, 0, 0, 0),
  (34, 3, .invokevirtual (189), 0, 0, 0, 0),
  (37, 3, .ifCond .eq (7), 44, 0, 0, 0),
  (40, 1, .iconst (4), 0, 0, 4, 0),
  (41, 3, .goto (4), 45, 0, 0, 0),
  (44, 1, .iconst (0), 0, 0, 0, 0),
  (45, 1, .iadd, 0, 0, 0, 0),
  (46, 1, .istore_n (3), 0, 0, 0, 0),
  (47, 1, .iload_n (3), 0, 0, 0, 0),
  (48, 1, .aload_n (0), 0, 0, 0, 0),
  (49, 3, .getfield (146), 6, 22, 0, 0),
  (52, 1, .iload_n (2), 0, 0, 0, 0),
  (53, 3, .invokestatic (180), 0, 0, 0, 0),
  (56, 3, .ifCond .eq (17), 73, 0, 0, 0),
  (59, 1, .aload_n (0), 0, 0, 0, 0),
  (60, 1, .iload_n (1), 0, 0, 0, 0),
  (61, 3, .invokevirtual (155), 0, 0, 0, 0),
  (64, 1, .iconst (5), 0, 0, 5, 0),
  (65, 3, .if_icmp .eq (8), 73, 0, 0, 0),
  (68, 2, .bipush (8), 0, 0, 8, 0),
  (70, 3, .goto (4), 74, 0, 0, 0),
  (73, 1, .iconst (0), 0, 0, 0, 0),
  (74, 1, .iadd, 0, 0, 0, 0),
  (75, 1, .ireturn, 0, 0, 0, 0)]
def md_Mod_whyNot : Md := (y_Mod_whyNot, prog_8_method_42_code, 4, (some .int), pm_Mod_whyNot)
theorem tk_Mod_whyNot : Tm md_Mod_whyNot := tab_of (o := 6) (by decide +kernel)
set_option maxRecDepth 100000 in
theorem ok_Mod_whyNot : MdOk md_Mod_whyNot 2 ∧ Cond.instanceMethod md_Mod_whyNot.1 ∈ T1 ∧ Cond.selects md_Mod_whyNot.1.cls md_Mod_whyNot.1 md_Mod_whyNot.1 ∈ T1 := ⟨⟨T1_in5 (i := 181) rfl rfl, T1_in1 (i := 8) rfl rfl, by decide +kernel, ⟨by decide +kernel, by decide +kernel⟩, by decide +kernel, by decide⟩, T1_in5 (i := 180) rfl rfl, T1_inP (i := 58) rfl⟩
def pm_Mod_feelsIn : List PE := [(0, 1, .aload_n (0), 0, 0, 0, 0),
  (1, 1, .iload_n (1), 0, 0, 0, 0),
  (2, 3, .invokevirtual (158), 0, 0, 0, 0),
  (5, 1, .istore_n (3), 0, 0, 0, 0),
  (6, 1, .aload_n (0), 0, 0, 0, 0),
  (7, 3, .getfield (50), 6, 21, 0, 0),
  (10, 1, .iload_n (1), 0, 0, 0, 0),
  (11, 1, .iaload, 0, 0, 0, 0),
  (12, 1, .aload_n (0), 0, 0, 0, 0),
  (13, 3, .getfield (19), 6, 4, 0, 0),
  (16, 1, .iload_n (2), 0, 0, 0, 0),
  (17, 1, .iaload, 0, 0, 0, 0),
  (18, 1, .isub, 0, 0, 0, 0),
  (19, 2, .istore (4), 0, 0, 0, 0),
  (21, 2, .iload (4), 0, 0, 0, 0),
  (23, 1, .iload_n (3), 0, 0, 0, 0),
  (24, 3, .ifCond .le (18), 42, 0, 0, 0),
  (27, 1, .aload_n (0), 0, 0, 0, 0),
  (28, 1, .aload_n (0), 0, 0, 0, 0),
  (29, 3, .getfield (47), 6, 20, 0, 0),
  (32, 1, .iload_n (3), 0, 0, 0, 0),
  (33, 1, .iconst (1), 0, 0, 1, 0),
  (34, 1, .isub, 0, 0, 0, 0),
  (35, 1, .iaload, 0, 0, 0, 0),
  (36, 3, .invokevirtual (161), 0, 0, 0, 0),
  (39, 3, .goto (4), 43, 0, 0, 0),
  (42, 1, .iconst (0), 0, 0, 0, 0),
  (43, 1, .iadd, 0, 0, 0, 0),
  (44, 2, .istore (4), 0, 0, 0, 0),
  (46, 2, .iload (4), 0, 0, 0, 0),
  (48, 1, .iload_n (3), 0, 0, 0, 0),
  (49, 1, .aload_n (0), 0, 0, 0, 0),
  (50, 3, .getfield (143), 6, 1, 0, 0),
  (53, 1, .iconst (1), 0, 0, 1, 0),
  (54, 1, .isub, 0, 0, 0, 0),
  (55, 3, .if_icmp .ge (18), 73, 0, 0, 0),
  (58, 1, .aload_n (0), 0, 0, 0, 0),
  (59, 1, .aload_n (0), 0, 0, 0, 0),
  (60, 3, .getfield (47), 6, 20, 0, 0),
  (63, 1, .iload_n (3), 0, 0, 0, 0),
  (64, 1, .iconst (1), 0, 0, 1, 0),
  (65, 1, .iadd, 0, 0, 0, 0),
  (66, 1, .iaload, 0, 0, 0, 0),
  (67, 3, .invokevirtual (161), 0, 0, 0, 0),
  (70, 3, .goto (4), 74, 0, 0, 0),
  (73, 1, .iconst (0), 0, 0, 0, 0),
  (74, 1, .iadd, 0, 0, 0, 0),
  (75, 2, .istore (4), 0, 0, 0, 0),
  (77, 2, .iload (4), 0, 0, 0, 0),
  (79, 1, .aload_n (0), 0, 0, 0, 0),
  (80, 3, .getfield (149), 6, 23, 0, 0),
  (83, 1, .iload_n (2), 0, 0, 0, 0),
  (84, 1, .iadd, 0, 0, 0, 0),
  (85, 1, .aload_n (0), 0, 0, 0, 0),
  (86, 3, .getfield (143), 6, 1, 0, 0),
  (89, 1, .irem, 0, 0, 0, 0),
  (90, 1, .iload_n (3), 0, 0, 0, 0),
  (91, 3, .if_icmp .ne (7), 98, 0, 0, 0),
  (94, 1, .iconst (3), 0, 0, 3, 0),
  (95, 3, .goto (4), 99, 0, 0, 0),
  (98, 1, .iconst (0), 0, 0, 0, 0),
  (99, 1, .iadd, 0, 0, 0, 0),
  (100, 2, .istore (4), 0, 0, 0, 0),
  (102, 2, .iload (4), 0, 0, 0, 0),
  (104, 1, .aload_n (0), 0, 0, 0, 0),
  (105, 1, .iload_n (3), 0, 0, 0, 0),
  (106, 3, .invokevirtual (164), 0, 0, 0, 0),
  (109, 3, .ifCond .eq (7), 116, 0, 0, 0),
  (112, 1, .iconst (2), 0, 0, 2, 0),
  (113, 3, .goto (4), 117, 0, 0, 0),
  (116, 1, .iconst (0), 0, 0, 0, 0),
  (117, 1, .isub, 0, 0, 0, 0),
  (118, 2, .istore (4), 0, 0, 0, 0),
  (120, 1, .aload_n (0), 0, 0, 0, 0),
  (121, 3, .getfield (7), 6, 0, 0, 0),
  (124, 2, .bipush (11), 0, 0, 11, 0),
  (126, 1, .iaload, 0, 0, 0, 0),
  (127, 1, .iconst (1), 0, 0, 1, 0),
  (128, 3, .if_icmp .ne (7), 135, 0, 0, 0),
  (131, 1, .iconst (1), 0, 0, 1, 0),
  (132, 3, .goto (4), 136, 0, 0, 0),
  (135, 1, .iconst (0), 0, 0, 0, 0),
  (136, 2, .istore (5), 0, 0, 0, 0),
  (138, 2, .iload (4), 0, 0, 0, 0),
  (140, 2, .iload (5), 0, 0, 0, 0),
  (142, 3, .ifCond .eq (7), 149, 0, 0, 0),
  (145, 1, .iconst (2), 0, 0, 2, 0),
  (146, 3, .goto (18), 164, 0, 0, 0),
  (149, 1, .aload_n (0), 0, 0, 0, 0),
  (150, 1, .iload_n (3), 0, 0, 0, 0),
  (151, 3, .invokevirtual (164), 0, 0, 0, 0),
  (154, 3, .ifCond .eq (9), 163, 0, 0, 0),
  (157, 1, .iload_n (2), 0, 0, 0, 0),
  (158, 1, .iconst (2), 0, 0, 2, 0),
  (159, 1, .idiv, 0, 0, 0, 0),
  (160, 3, .goto (4), 164, 0, 0, 0),
  (163, 1, .iconst (0), 0, 0, 0, 0),
  (164, 1, .isub, 0, 0, 0, 0),
  (165, 1, .ireturn, 0, 0, 0, 0)]
def md_Mod_feelsIn : Md := (y_Mod_feelsIn, prog_8_method_37_code, 6, (some .int), pm_Mod_feelsIn)
theorem tk_Mod_feelsIn : Tm md_Mod_feelsIn := tab_of (o := 6) (by decide +kernel)
set_option maxRecDepth 100000 in
theorem ok_Mod_feelsIn : MdOk md_Mod_feelsIn 2 ∧ Cond.instanceMethod md_Mod_feelsIn.1 ∈ T1 ∧ Cond.selects md_Mod_feelsIn.1.cls md_Mod_feelsIn.1 md_Mod_feelsIn.1 ∈ T1 := ⟨⟨T1_in5 (i := 185) rfl rfl, T1_in1 (i := 8) rfl rfl, by decide +kernel, ⟨by decide +kernel, by decide +kernel⟩, by decide +kernel, by decide⟩, T1_in5 (i := 184) rfl rfl, T1_inP (i := 59) rfl⟩
def pm_Mod_isRim : List PE := [(0, 1, .iload_n (1), 0, 0, 0, 0),
  (1, 3, .ifCond .eq (13), 14, 0, 0, 0),
  (4, 1, .iload_n (1), 0, 0, 0, 0),
  (5, 1, .aload_n (0), 0, 0, 0, 0),
  (6, 3, .getfield (143), 6, 1, 0, 0),
  (9, 1, .iconst (1), 0, 0, 1, 0),
  (10, 1, .isub, 0, 0, 0, 0),
  (11, 3, .if_icmp .ne (7), 18, 0, 0, 0),
  (14, 1, .iconst (1), 0, 0, 1, 0),
  (15, 3, .goto (4), 19, 0, 0, 0),
  (18, 1, .iconst (0), 0, 0, 0, 0),
  (19, 1, .ireturn, 0, 0, 0, 0)]
def md_Mod_isRim : Md := (y_Mod_isRim, prog_8_method_36_code, 2, (some .boolean), pm_Mod_isRim)
theorem tk_Mod_isRim : Tm md_Mod_isRim := tab_of (o := 6) (by decide +kernel)
set_option maxRecDepth 100000 in
theorem ok_Mod_isRim : MdOk md_Mod_isRim 1 ∧ Cond.instanceMethod md_Mod_isRim.1 ∈ T1 ∧ Cond.selects md_Mod_isRim.1.cls md_Mod_isRim.1 md_Mod_isRim.1 ∈ T1 := ⟨⟨T1_in5 (i := 189) rfl rfl, T1_in1 (i := 8) rfl rfl, by decide +kernel, ⟨by decide +kernel, by decide +kernel⟩, by decide +kernel, by decide⟩, T1_in5 (i := 188) rfl rfl, T1_inP (i := 60) rfl⟩
def pm_Mod_hears : List PE := [(0, 1, .aload_n (0), 0, 0, 0, 0),
  (1, 1, .iload_n (1), 0, 0, 0, 0),
  (2, 3, .invokevirtual (155), 0, 0, 0, 0),
  (5, 3, .invokestatic (174), 0, 0, 0, 0),
  (8, 3, .ifCond .ne (15), 23, 0, 0, 0),
  (11, 1, .aload_n (0), 0, 0, 0, 0),
  (12, 1, .iload_n (1), 0, 0, 0, 0),
  (13, 3, .invokevirtual (177), 0, 0, 0, 0),
  (16, 3, .ifCond .le (7), 23, 0, 0, 0),
  (19, 1, .iconst (1), 0, 0, 1, 0),
  (20, 3, .goto (4), 24, 0, 0, 0),
  (23, 1, .iconst (0), 0, 0, 0, 0),
  (24, 1, .ireturn, 0, 0, 0, 0)]
def md_Mod_hears : Md := (y_Mod_hears, prog_8_method_40_code, 2, (some .boolean), pm_Mod_hears)
theorem tk_Mod_hears : Tm md_Mod_hears := tab_of (o := 6) (by decide +kernel)
set_option maxRecDepth 100000 in
theorem ok_Mod_hears : MdOk md_Mod_hears 1 ∧ Cond.instanceMethod md_Mod_hears.1 ∈ T1 ∧ Cond.selects md_Mod_hears.1.cls md_Mod_hears.1 md_Mod_hears.1 ∈ T1 := ⟨⟨T1_in5 (i := 193) rfl rfl, T1_in1 (i := 8) rfl rfl, by decide +kernel, ⟨by decide +kernel, by decide +kernel⟩, by decide +kernel, by decide⟩, T1_in5 (i := 192) rfl rfl, T1_inP (i := 61) rfl⟩
def pm_Mod_isSore : List PE := [(0, 1, .iload_n (1), 0, 0, 0, 0),
  (1, 1, .istore_n (2), 0, 0, 0, 0),
  (2, 1, .iconst (0), 0, 0, 0, 0),
  (3, 1, .istore_n (3), 0, 0, 0, 0),
  (4, 1, .iload_n (3), 0, 0, 0, 0),
  (5, 1, .iload_n (1), 0, 0, 0, 0),
  (6, 3, .if_icmp .gt (28), 34, 0, 0, 0),
  (9, 1, .aload_n (0), 0, 0, 0, 0),
  (10, 3, .getfield (146), 6, 22, 0, 0),
  (13, 1, .iload_n (3), 0, 0, 0, 0),
  (14, 3, .invokestatic (180), 0, 0, 0, 0),
  (17, 3, .ifCond .eq (9), 26, 0, 0, 0),
  (20, 1, .iload_n (1), 0, 0, 0, 0),
  (21, 1, .iload_n (3), 0, 0, 0, 0),
  (22, 1, .isub, 0, 0, 0, 0),
  (23, 3, .goto (4), 27, 0, 0, 0),
  (26, 1, .iload_n (2), 0, 0, 0, 0),
  (27, 1, .istore_n (2), 0, 0, 0, 0),
  (28, 3, .iinc (3) (1), 0, 0, 1, 0),
  (31, 3, .goto (-27), 4, 0, 0, 0),
  (34, 1, .iload_n (2), 0, 0, 0, 0),
  (35, 1, .iconst (3), 0, 0, 3, 0),
  (36, 3, .if_icmp .lt (7), 43, 0, 0, 0),
  (39, 1, .iconst (1), 0, 0, 1, 0),
  (40, 3, .goto (4), 44, 0, 0, 0),
  (43, 1, .iconst (0), 0, 0, 0, 0),
  (44, 1, .ireturn, 0, 0, 0, 0)]
def md_Mod_isSore : Md := (y_Mod_isSore, prog_8_method_41_code, 4, (some .boolean), pm_Mod_isSore)
theorem tk_Mod_isSore : Tm md_Mod_isSore := tab_of (o := 6) (by decide +kernel)
set_option maxRecDepth 100000 in
theorem ok_Mod_isSore : MdOk md_Mod_isSore 1 ∧ Cond.instanceMethod md_Mod_isSore.1 ∈ T1 ∧ Cond.selects md_Mod_isSore.1.cls md_Mod_isSore.1 md_Mod_isSore.1 ∈ T1 := ⟨⟨T1_in5 (i := 197) rfl rfl, T1_in1 (i := 8) rfl rfl, by decide +kernel, ⟨by decide +kernel, by decide +kernel⟩, by decide +kernel, by decide⟩, T1_in5 (i := 196) rfl rfl, T1_inP (i := 62) rfl⟩
def pm_Mod_has : List PE := [(0, 1, .iload_n (0), 0, 0, 0, 0),
  (1, 1, .iload_n (1), 0, 0, 0, 0),
  (2, 1, .ishr, 0, 0, 0, 0),
  (3, 1, .iconst (1), 0, 0, 1, 0),
  (4, 1, .iand, 0, 0, 0, 0),
  (5, 1, .iconst (1), 0, 0, 1, 0),
  (6, 3, .if_icmp .ne (7), 13, 0, 0, 0),
  (9, 1, .iconst (1), 0, 0, 1, 0),
  (10, 3, .goto (4), 14, 0, 0, 0),
  (13, 1, .iconst (0), 0, 0, 0, 0),
  (14, 1, .ireturn, 0, 0, 0, 0)]
def md_Mod_has : Md := (y_Mod_has, prog_8_method_3_code, 2, (some .boolean), pm_Mod_has)
theorem tk_Mod_has : Tm md_Mod_has := tab_of (o := 6) (by decide +kernel)
set_option maxRecDepth 100000 in
theorem ok_Mod_has : MdOk md_Mod_has 2 ∧ Cond.static md_Mod_has.1 ∈ T1 := ⟨⟨T1_in5 (i := 200) rfl rfl, T1_in1 (i := 8) rfl rfl, by decide +kernel, ⟨by decide +kernel, by decide +kernel⟩, by decide +kernel, by decide⟩, T1_in5 (i := 199) rfl rfl⟩
def pm_Mod_night : List PE := [(0, 1, .aload_n (0), 0, 0, 0, 0),
  (1, 3, .getfield (143), 6, 1, 0, 0),
  (4, 3, .ifCond .ne (6), 10, 0, 0, 0),
  (7, 2, .bipush (-4), 0, 0, (-4), 0),
  (9, 1, .ireturn, 0, 0, 0, 0),
  (10, 1, .aload_n (0), 0, 0, 0, 0),
  (11, 3, .getfield (7), 6, 0, 0, 0),
  (14, 2, .bipush (14), 0, 0, 14, 0),
  (16, 1, .iaload, 0, 0, 0, 0),
  (17, 2, .bipush (9), 0, 0, 9, 0),
  (19, 3, .if_icmp .ne (6), 25, 0, 0, 0),
  (22, 2, .bipush (-2), 0, 0, (-2), 0),
  (24, 1, .ireturn, 0, 0, 0, 0),
  (25, 1, .aload_n (0), 0, 0, 0, 0),
  (26, 3, .getfield (7), 6, 0, 0, 0),
  (29, 2, .bipush (14), 0, 0, 14, 0),
  (31, 1, .dup2, 0, 0, 0, 0),
  (32, 1, .iaload, 0, 0, 0, 0),
  (33, 1, .iconst (1), 0, 0, 1, 0),
  (34, 1, .iadd, 0, 0, 0, 0),
  (35, 1, .iastore, 0, 0, 0, 0),
  (36, 1, .aload_n (0), 0, 0, 0, 0),
  (37, 3, .getfield (7), 6, 0, 0, 0),
  (40, 2, .bipush (15), 0, 0, 15, 0),
  (42, 1, .iconst (0), 0, 0, 0, 0),
  (43, 1, .iastore, 0, 0, 0, 0),
  (44, 1, .aload_n (0), 0, 0, 0, 0),
  (45, 3, .getfield (7), 6, 0, 0, 0),
  (48, 2, .bipush (14), 0, 0, 14, 0),
  (50, 1, .iaload, 0, 0, 0, 0),
  (51, 1, .ireturn, 0, 0, 0, 0)]
def md_Mod_night : Md := (y_Mod_night, prog_8_method_63_code, 1, (some .int), pm_Mod_night)
theorem tk_Mod_night : Tm md_Mod_night := tab_of (o := 6) (by decide +kernel)
set_option maxRecDepth 100000 in
theorem ok_Mod_night : MdOk md_Mod_night 0 ∧ Cond.instanceMethod md_Mod_night.1 ∈ T1 ∧ Cond.selects md_Mod_night.1.cls md_Mod_night.1 md_Mod_night.1 ∈ T1 := ⟨⟨T1_in5 (i := 204) rfl rfl, T1_in1 (i := 8) rfl rfl, by decide +kernel, ⟨by decide +kernel, by decide +kernel⟩, by decide +kernel, by decide⟩, T1_in5 (i := 202) rfl rfl, T1_in5 (i := 203) rfl rfl⟩
def pm_Mod_undo : List PE := [(0, 1, .iload_n (1), 0, 0, 0, 0),
  (1, 1, .i2l, 0, 0, 0, 0),
  (2, 1, .lconst (0), 0, 0, 0, 0),
  (3, 1, .aload_n (0), 0, 0, 0, 0),
  (4, 3, .getfield (7), 6, 0, 0, 0),
  (7, 1, .iconst (0), 0, 0, 0, 0),
  (8, 1, .iaload, 0, 0, 0, 0),
  (9, 1, .i2l, 0, 0, 0, 0),
  (10, 3, .invokestatic (74), 0, 0, 0, 0),
  (13, 3, .ifCond .ne (5), 18, 0, 0, 0),
  (16, 1, .iconst (-1), 0, 0, (-1), 0),
  (17, 1, .ireturn, 0, 0, 0, 0),
  (18, 1, .aload_n (0), 0, 0, 0, 0),
  (19, 3, .getfield (7), 6, 0, 0, 0),
  (22, 1, .iconst (0), 0, 0, 0, 0),
  (23, 1, .iaload, 0, 0, 0, 0),
  (24, 1, .iload_n (1), 0, 0, 0, 0),
  (25, 1, .isub, 0, 0, 0, 0),
  (26, 1, .istore_n (2), 0, 0, 0, 0),
  (27, 1, .iconst (0), 0, 0, 0, 0),
  (28, 1, .istore_n (3), 0, 0, 0, 0),
  (29, 1, .iload_n (3), 0, 0, 0, 0),
  (30, 2, .bipush (25), 0, 0, 25, 0),
  (32, 3, .if_icmp .ge (35), 67, 0, 0, 0),
  (35, 1, .iload_n (2), 0, 0, 0, 0),
  (36, 3, .ifCond .le (31), 67, 0, 0, 0),
  (39, 1, .aload_n (0), 0, 0, 0, 0),
  (40, 3, .getfield (7), 6, 0, 0, 0),
  (43, 1, .iconst (1), 0, 0, 1, 0),
  (44, 1, .iload_n (3), 0, 0, 0, 0),
  (45, 1, .iadd, 0, 0, 0, 0),
  (46, 1, .aload_n (0), 0, 0, 0, 0),
  (47, 3, .getfield (7), 6, 0, 0, 0),
  (50, 2, .bipush (26), 0, 0, 26, 0),
  (52, 2, .bipush (25), 0, 0, 25, 0),
  (54, 1, .iload_n (1), 0, 0, 0, 0),
  (55, 1, .imul, 0, 0, 0, 0),
  (56, 1, .iadd, 0, 0, 0, 0),
  (57, 1, .iload_n (3), 0, 0, 0, 0),
  (58, 1, .iadd, 0, 0, 0, 0),
  (59, 1, .iaload, 0, 0, 0, 0),
  (60, 1, .iastore, 0, 0, 0, 0),
  (61, 3, .iinc (3) (1), 0, 0, 1, 0),
  (64, 3, .goto (-35), 29, 0, 0, 0),
  (67, 1, .aload_n (0), 0, 0, 0, 0),
  (68, 3, .getfield (7), 6, 0, 0, 0),
  (71, 1, .iconst (0), 0, 0, 0, 0),
  (72, 1, .iload_n (1), 0, 0, 0, 0),
  (73, 1, .iastore, 0, 0, 0, 0),
  (74, 1, .iload_n (2), 0, 0, 0, 0),
  (75, 1, .ireturn, 0, 0, 0, 0)]
def md_Mod_undo : Md := (y_Mod_undo, prog_8_method_64_code, 4, (some .int), pm_Mod_undo)
theorem tk_Mod_undo : Tm md_Mod_undo := tab_of (o := 6) (by decide +kernel)
set_option maxRecDepth 100000 in
theorem ok_Mod_undo : MdOk md_Mod_undo 1 ∧ Cond.instanceMethod md_Mod_undo.1 ∈ T1 ∧ Cond.selects md_Mod_undo.1.cls md_Mod_undo.1 md_Mod_undo.1 ∈ T1 := ⟨⟨T1_in5 (i := 208) rfl rfl, T1_in1 (i := 8) rfl rfl, by decide +kernel, ⟨by decide +kernel, by decide +kernel⟩, by decide +kernel, by decide⟩, T1_in5 (i := 206) rfl rfl, T1_in5 (i := 207) rfl rfl⟩
def pm_Mod_now : List PE := [(0, 1, .aload_n (0), 0, 0, 0, 0),
  (1, 3, .getfield (143), 6, 1, 0, 0),
  (4, 3, .ifCond .ne (6), 10, 0, 0, 0),
  (7, 2, .bipush (-4), 0, 0, (-4), 0),
  (9, 1, .ireturn, 0, 0, 0, 0),
  (10, 1, .aload_n (0), 0, 0, 0, 0),
  (11, 1, .aload_n (0), 0, 0, 0, 0),
  (12, 3, .getfield (7), 6, 0, 0, 0),
  (15, 2, .bipush (14), 0, 0, 14, 0),
  (17, 1, .iaload, 0, 0, 0, 0),
  (18, 3, .putfield (69), 6, 9, 0, 0),
  (21, 1, .aload_n (0), 0, 0, 0, 0),
  (22, 3, .getfield (7), 6, 0, 0, 0),
  (25, 2, .bipush (15), 0, 0, 15, 0),
  (27, 1, .iaload, 0, 0, 0, 0),
  (28, 1, .ireturn, 0, 0, 0, 0)]
def md_Mod_now : Md := (y_Mod_now, prog_8_method_65_code, 1, (some .int), pm_Mod_now)
theorem tk_Mod_now : Tm md_Mod_now := tab_of (o := 6) (by decide +kernel)
set_option maxRecDepth 100000 in
theorem ok_Mod_now : MdOk md_Mod_now 0 ∧ Cond.instanceMethod md_Mod_now.1 ∈ T1 ∧ Cond.selects md_Mod_now.1.cls md_Mod_now.1 md_Mod_now.1 ∈ T1 := ⟨⟨T1_in5 (i := 212) rfl rfl, T1_in1 (i := 8) rfl rfl, by decide +kernel, ⟨by decide +kernel, by decide +kernel⟩, by decide +kernel, by decide⟩, T1_in5 (i := 210) rfl rfl, T1_in5 (i := 211) rfl rfl⟩
def pm_Mod_keep : List PE := [(0, 1, .iload_n (1), 0, 0, 0, 0),
  (1, 1, .i2l, 0, 0, 0, 0),
  (2, 1, .lconst (0), 0, 0, 0, 0),
  (3, 3, .ldc2_w (233), 0, 0, 0, 2),
  (6, 3, .invokestatic (74), 0, 0, 0, 0),
  (9, 3, .ifCond .ne (5), 14, 0, 0, 0),
  (12, 1, .iconst (-1), 0, 0, (-1), 0),
  (13, 1, .ireturn, 0, 0, 0, 0),
  (14, 1, .aload_n (0), 0, 0, 0, 0),
  (15, 3, .getfield (143), 6, 1, 0, 0),
  (18, 3, .ifCond .ne (6), 24, 0, 0, 0),
  (21, 2, .bipush (-4), 0, 0, (-4), 0),
  (23, 1, .ireturn, 0, 0, 0, 0),
  (24, 1, .aload_n (0), 0, 0, 0, 0),
  (25, 1, .iconst (0), 0, 0, 0, 0),
  (26, 3, .sipush (1026), 0, 0, 1026, 0),
  (29, 1, .iconst (1), 0, 0, 1, 0),
  (30, 1, .iload_n (1), 0, 0, 0, 0),
  (31, 1, .iadd, 0, 0, 0, 0),
  (32, 1, .imul, 0, 0, 0, 0),
  (33, 3, .invokevirtual (235), 0, 0, 0, 0),
  (36, 1, .aload_n (0), 0, 0, 0, 0),
  (37, 3, .getfield (7), 6, 0, 0, 0),
  (40, 1, .iconst (0), 0, 0, 0, 0),
  (41, 1, .iaload, 0, 0, 0, 0),
  (42, 1, .ireturn, 0, 0, 0, 0)]
def md_Mod_keep : Md := (y_Mod_keep, prog_8_method_67_code, 2, (some .int), pm_Mod_keep)
theorem tk_Mod_keep : Tm md_Mod_keep := tab_of (o := 6) (by decide +kernel)
set_option maxRecDepth 100000 in
theorem ok_Mod_keep : MdOk md_Mod_keep 1 ∧ Cond.instanceMethod md_Mod_keep.1 ∈ T1 ∧ Cond.selects md_Mod_keep.1.cls md_Mod_keep.1 md_Mod_keep.1 ∈ T1 := ⟨⟨T1_in5 (i := 216) rfl rfl, T1_in1 (i := 8) rfl rfl, by decide +kernel, ⟨by decide +kernel, by decide +kernel⟩, by decide +kernel, by decide⟩, T1_in5 (i := 214) rfl rfl, T1_in5 (i := 215) rfl rfl⟩
def pm_Mod_copyTent : List PE := [(0, 1, .iconst (0), 0, 0, 0, 0),
  (1, 1, .istore_n (3), 0, 0, 0, 0),
  (2, 1, .iload_n (3), 0, 0, 0, 0),
  (3, 3, .sipush (1026), 0, 0, 1026, 0),
  (6, 3, .if_icmp .ge (25), 31, 0, 0, 0),
  (9, 1, .aload_n (0), 0, 0, 0, 0),
  (10, 3, .getfield (7), 6, 0, 0, 0),
  (13, 1, .iload_n (2), 0, 0, 0, 0),
  (14, 1, .iload_n (3), 0, 0, 0, 0),
  (15, 1, .iadd, 0, 0, 0, 0),
  (16, 1, .aload_n (0), 0, 0, 0, 0),
  (17, 3, .getfield (7), 6, 0, 0, 0),
  (20, 1, .iload_n (1), 0, 0, 0, 0),
  (21, 1, .iload_n (3), 0, 0, 0, 0),
  (22, 1, .iadd, 0, 0, 0, 0),
  (23, 1, .iaload, 0, 0, 0, 0),
  (24, 1, .iastore, 0, 0, 0, 0),
  (25, 3, .iinc (3) (1), 0, 0, 1, 0),
  (28, 3, .goto (-26), 2, 0, 0, 0),
  (31, 1, .return_, 0, 0, 0, 0)]
def md_Mod_copyTent : Md := (y_Mod_copyTent, prog_8_method_66_code, 4, none, pm_Mod_copyTent)
theorem tk_Mod_copyTent : Tm md_Mod_copyTent := tab_of (o := 6) (by decide +kernel)
set_option maxRecDepth 100000 in
theorem ok_Mod_copyTent : MdOk md_Mod_copyTent 2 ∧ Cond.instanceMethod md_Mod_copyTent.1 ∈ T1 ∧ Cond.selects md_Mod_copyTent.1.cls md_Mod_copyTent.1 md_Mod_copyTent.1 ∈ T1 := ⟨⟨T1_in5 (i := 221) rfl rfl, T1_in1 (i := 8) rfl rfl, by decide +kernel, ⟨by decide +kernel, by decide +kernel⟩, by decide +kernel, by decide⟩, T1_in5 (i := 220) rfl rfl, T1_inP (i := 63) rfl⟩
def pm_Mod_on : List PE := [(0, 1, .iload_n (1), 0, 0, 0, 0),
  (1, 1, .i2l, 0, 0, 0, 0),
  (2, 1, .lconst (0), 0, 0, 0, 0),
  (3, 3, .ldc2_w (233), 0, 0, 0, 2),
  (6, 3, .invokestatic (74), 0, 0, 0, 0),
  (9, 3, .ifCond .ne (5), 14, 0, 0, 0),
  (12, 1, .iconst (-1), 0, 0, (-1), 0),
  (13, 1, .ireturn, 0, 0, 0, 0),
  (14, 1, .aload_n (0), 0, 0, 0, 0),
  (15, 3, .getfield (7), 6, 0, 0, 0),
  (18, 3, .sipush (1026), 0, 0, 1026, 0),
  (21, 1, .iconst (1), 0, 0, 1, 0),
  (22, 1, .iload_n (1), 0, 0, 0, 0),
  (23, 1, .iadd, 0, 0, 0, 0),
  (24, 1, .imul, 0, 0, 0, 0),
  (25, 1, .iconst (0), 0, 0, 0, 0),
  (26, 1, .iadd, 0, 0, 0, 0),
  (27, 1, .iaload, 0, 0, 0, 0),
  (28, 3, .ifCond .ge (9), 37, 0, 0, 0),
  (31, 1, .aload_n (0), 0, 0, 0, 0),
  (32, 1, .iconst (1), 0, 0, 1, 0),
  (33, 3, .invokevirtual (84), 0, 0, 0, 0),
  (36, 1, .ireturn, 0, 0, 0, 0),
  (37, 1, .aload_n (0), 0, 0, 0, 0),
  (38, 3, .sipush (1026), 0, 0, 1026, 0),
  (41, 1, .iconst (1), 0, 0, 1, 0),
  (42, 1, .iload_n (1), 0, 0, 0, 0),
  (43, 1, .iadd, 0, 0, 0, 0),
  (44, 1, .imul, 0, 0, 0, 0),
  (45, 1, .iconst (0), 0, 0, 0, 0),
  (46, 3, .invokevirtual (235), 0, 0, 0, 0),
  (49, 1, .aload_n (0), 0, 0, 0, 0),
  (50, 3, .getfield (7), 6, 0, 0, 0),
  (53, 1, .iconst (0), 0, 0, 0, 0),
  (54, 1, .iaload, 0, 0, 0, 0),
  (55, 1, .ireturn, 0, 0, 0, 0)]
def md_Mod_on : Md := (y_Mod_on, prog_8_method_68_code, 2, (some .int), pm_Mod_on)
theorem tk_Mod_on : Tm md_Mod_on := tab_of (o := 6) (by decide +kernel)
set_option maxRecDepth 100000 in
theorem ok_Mod_on : MdOk md_Mod_on 1 ∧ Cond.instanceMethod md_Mod_on.1 ∈ T1 ∧ Cond.selects md_Mod_on.1.cls md_Mod_on.1 md_Mod_on.1 ∈ T1 := ⟨⟨T1_in5 (i := 225) rfl rfl, T1_in1 (i := 8) rfl rfl, by decide +kernel, ⟨by decide +kernel, by decide +kernel⟩, by decide +kernel, by decide⟩, T1_in5 (i := 223) rfl rfl, T1_in5 (i := 224) rfl rfl⟩
def pm_Mod_feels : List PE := [(0, 1, .aload_n (0), 0, 0, 0, 0),
  (1, 1, .iload_n (1), 0, 0, 0, 0),
  (2, 3, .invokevirtual (198), 0, 0, 0, 0),
  (5, 3, .ifCond .eq (10), 15, 0, 0, 0),
  (8, 1, .iload_n (2), 0, 0, 0, 0),
  (9, 3, .invokestatic (240), 0, 0, 0, 0),
  (12, 3, .ifCond .ne (5), 17, 0, 0, 0),
  (15, 1, .iconst (-1), 0, 0, (-1), 0),
  (16, 1, .ireturn, 0, 0, 0, 0),
  (17, 1, .aload_n (0), 0, 0, 0, 0),
  (18, 3, .invokevirtual (204), 0, 0, 0, 0),
  (21, 1, .aload_n (0), 0, 0, 0, 0),
  (22, 1, .aload_n (0), 0, 0, 0, 0),
  (23, 1, .iload_n (1), 0, 0, 0, 0),
  (24, 1, .iload_n (2), 0, 0, 0, 0),
  (25, 3, .invokevirtual (183), 0, 0, 0, 0),
  (28, 3, .invokevirtual (96), 0, 0, 0, 0),
  (31, 1, .ireturn, 0, 0, 0, 0)]
def md_Mod_feels : Md := (y_Mod_feels, prog_8_method_70_code, 3, (some .int), pm_Mod_feels)
theorem tk_Mod_feels : Tm md_Mod_feels := tab_of (o := 6) (by decide +kernel)
set_option maxRecDepth 100000 in
theorem ok_Mod_feels : MdOk md_Mod_feels 2 ∧ Cond.instanceMethod md_Mod_feels.1 ∈ T1 ∧ Cond.selects md_Mod_feels.1.cls md_Mod_feels.1 md_Mod_feels.1 ∈ T1 := ⟨⟨T1_in5 (i := 229) rfl rfl, T1_in1 (i := 8) rfl rfl, by decide +kernel, ⟨by decide +kernel, by decide +kernel⟩, by decide +kernel, by decide⟩, T1_in5 (i := 227) rfl rfl, T1_in5 (i := 228) rfl rfl⟩
def pm_Mod_isHour : List PE := [(0, 1, .iload_n (0), 0, 0, 0, 0),
  (1, 1, .i2l, 0, 0, 0, 0),
  (2, 1, .lconst (0), 0, 0, 0, 0),
  (3, 3, .ldc2_w (238), 0, 0, 0, 7),
  (6, 3, .invokestatic (74), 0, 0, 0, 0),
  (9, 1, .ireturn, 0, 0, 0, 0)]
def md_Mod_isHour : Md := (y_Mod_isHour, prog_8_method_69_code, 1, (some .boolean), pm_Mod_isHour)
theorem tk_Mod_isHour : Tm md_Mod_isHour := tab_of (o := 6) (by decide +kernel)
set_option maxRecDepth 100000 in
theorem ok_Mod_isHour : MdOk md_Mod_isHour 1 ∧ Cond.static md_Mod_isHour.1 ∈ T1 := ⟨⟨T1_in5 (i := 232) rfl rfl, T1_in1 (i := 8) rfl rfl, by decide +kernel, ⟨by decide +kernel, by decide +kernel⟩, by decide +kernel, by decide⟩, T1_in5 (i := 231) rfl rfl⟩
def pm_Mod_why : List PE := [(0, 1, .aload_n (0), 0, 0, 0, 0),
  (1, 1, .iload_n (1), 0, 0, 0, 0),
  (2, 3, .invokevirtual (198), 0, 0, 0, 0),
  (5, 3, .ifCond .eq (10), 15, 0, 0, 0),
  (8, 1, .iload_n (2), 0, 0, 0, 0),
  (9, 3, .invokestatic (240), 0, 0, 0, 0),
  (12, 3, .ifCond .ne (5), 17, 0, 0, 0),
  (15, 1, .iconst (-1), 0, 0, (-1), 0),
  (16, 1, .ireturn, 0, 0, 0, 0),
  (17, 1, .aload_n (0), 0, 0, 0, 0),
  (18, 3, .invokevirtual (204), 0, 0, 0, 0),
  (21, 1, .aload_n (0), 0, 0, 0, 0),
  (22, 1, .iload_n (1), 0, 0, 0, 0),
  (23, 1, .iload_n (2), 0, 0, 0, 0),
  (24, 3, .invokevirtual (192), 0, 0, 0, 0),
  (27, 1, .ireturn, 0, 0, 0, 0)]
def md_Mod_why : Md := (y_Mod_why, prog_8_method_71_code, 3, (some .int), pm_Mod_why)
theorem tk_Mod_why : Tm md_Mod_why := tab_of (o := 6) (by decide +kernel)
set_option maxRecDepth 100000 in
theorem ok_Mod_why : MdOk md_Mod_why 2 ∧ Cond.instanceMethod md_Mod_why.1 ∈ T1 ∧ Cond.selects md_Mod_why.1.cls md_Mod_why.1 md_Mod_why.1 ∈ T1 := ⟨⟨T1_in5 (i := 237) rfl rfl, T1_in1 (i := 8) rfl rfl, by decide +kernel, ⟨by decide +kernel, by decide +kernel⟩, by decide +kernel, by decide⟩, T1_in5 (i := 235) rfl rfl, T1_in5 (i := 236) rfl rfl⟩
def pm_Mod_sleeps : List PE := [(0, 1, .iload_n (1), 0, 0, 0, 0),
  (1, 3, .invokestatic (240), 0, 0, 0, 0),
  (4, 3, .ifCond .ne (5), 9, 0, 0, 0),
  (7, 1, .iconst (-1), 0, 0, (-1), 0),
  (8, 1, .ireturn, 0, 0, 0, 0),
  (9, 1, .aload_n (0), 0, 0, 0, 0),
  (10, 3, .invokevirtual (204), 0, 0, 0, 0),
  (13, 1, .aload_n (0), 0, 0, 0, 0),
  (14, 1, .iconst (0), 0, 0, 0, 0),
  (15, 3, .putfield (69), 6, 9, 0, 0),
  (18, 1, .iconst (0), 0, 0, 0, 0),
  (19, 1, .istore_n (2), 0, 0, 0, 0),
  (20, 1, .iload_n (2), 0, 0, 0, 0),
  (21, 1, .aload_n (0), 0, 0, 0, 0),
  (22, 3, .getfield (143), 6, 1, 0, 0),
  (25, 3, .if_icmp .ge (34), 59, 0, 0, 0),
  (28, 1, .aload_n (0), 0, 0, 0, 0),
  (29, 1, .dup, 0, 0, 0, 0),
  (30, 3, .getfield (69), 6, 9, 0, 0),
  (33, 1, .aload_n (0), 0, 0, 0, 0),
  (34, 1, .iload_n (2), 0, 0, 0, 0),
  (35, 1, .iload_n (1), 0, 0, 0, 0),
  (36, 3, .invokevirtual (183), 0, 0, 0, 0),
  (39, 3, .ifCond .ge (9), 48, 0, 0, 0),
  (42, 1, .iconst (1), 0, 0, 1, 0),
  (43, 1, .iload_n (2), 0, 0, 0, 0),
  (44, 1, .ishl, 0, 0, 0, 0),
  (45, 3, .goto (4), 49, 0, 0, 0),
  (48, 1, .iconst (0), 0, 0, 0, 0),
  (49, 1, .ior, 0, 0, 0, 0),
  (50, 3, .putfield (69), 6, 9, 0, 0),
  (53, 3, .iinc (2) (1), 0, 0, 1, 0),
  (56, 3, .goto (-36), 20, 0, 0, 0),
  (59, 1, .aload_n (0), 0, 0, 0, 0),
  (60, 1, .iload_n (1), 0, 0, 0, 0),
  (61, 3, .invokevirtual (230), 0, 0, 0, 0),
  (64, 1, .ireturn, 0, 0, 0, 0)]
def md_Mod_sleeps : Md := (y_Mod_sleeps, prog_8_method_72_code, 3, (some .int), pm_Mod_sleeps)
theorem tk_Mod_sleeps : Tm md_Mod_sleeps := tab_of (o := 6) (by decide +kernel)
set_option maxRecDepth 100000 in
theorem ok_Mod_sleeps : MdOk md_Mod_sleeps 1 ∧ Cond.instanceMethod md_Mod_sleeps.1 ∈ T1 ∧ Cond.selects md_Mod_sleeps.1.cls md_Mod_sleeps.1 md_Mod_sleeps.1 ∈ T1 := ⟨⟨T1_in6 (i := 1) rfl rfl, T1_in1 (i := 8) rfl rfl, by decide +kernel, ⟨by decide +kernel, by decide +kernel⟩, by decide +kernel, by decide⟩, T1_in5 (i := 239) rfl rfl, T1_in6 (i := 0) rfl rfl⟩
def pm_Mod_slept : List PE := [(0, 1, .aload_n (0), 0, 0, 0, 0),
  (1, 1, .iload_n (1), 0, 0, 0, 0),
  (2, 3, .invokevirtual (198), 0, 0, 0, 0),
  (5, 3, .ifCond .ne (5), 10, 0, 0, 0),
  (8, 1, .iconst (-1), 0, 0, (-1), 0),
  (9, 1, .ireturn, 0, 0, 0, 0),
  (10, 1, .aload_n (0), 0, 0, 0, 0),
  (11, 3, .invokevirtual (204), 0, 0, 0, 0),
  (14, 1, .aload_n (0), 0, 0, 0, 0),
  (15, 1, .iload_n (1), 0, 0, 0, 0),
  (16, 3, .invokevirtual (195), 0, 0, 0, 0),
  (19, 1, .ireturn, 0, 0, 0, 0)]
def md_Mod_slept : Md := (y_Mod_slept, prog_8_method_73_code, 2, (some .int), pm_Mod_slept)
theorem tk_Mod_slept : Tm md_Mod_slept := tab_of (o := 6) (by decide +kernel)
set_option maxRecDepth 100000 in
theorem ok_Mod_slept : MdOk md_Mod_slept 1 ∧ Cond.instanceMethod md_Mod_slept.1 ∈ T1 ∧ Cond.selects md_Mod_slept.1.cls md_Mod_slept.1 md_Mod_slept.1 ∈ T1 := ⟨⟨T1_in6 (i := 5) rfl rfl, T1_in1 (i := 8) rfl rfl, by decide +kernel, ⟨by decide +kernel, by decide +kernel⟩, by decide +kernel, by decide⟩, T1_in6 (i := 3) rfl rfl, T1_in6 (i := 4) rfl rfl⟩
def pm_Mod_sleptBy : List PE := [(0, 1, .iconst (0), 0, 0, 0, 0),
  (1, 1, .istore_n (2), 0, 0, 0, 0),
  (2, 1, .iconst (0), 0, 0, 0, 0),
  (3, 1, .istore_n (3), 0, 0, 0, 0),
  (4, 1, .iload_n (3), 0, 0, 0, 0),
  (5, 2, .bipush (8), 0, 0, 8, 0),
  (7, 3, .if_icmp .ge (26), 33, 0, 0, 0),
  (10, 1, .iload_n (2), 0, 0, 0, 0),
  (11, 1, .aload_n (0), 0, 0, 0, 0),
  (12, 1, .iload_n (1), 0, 0, 0, 0),
  (13, 1, .iload_n (3), 0, 0, 0, 0),
  (14, 3, .invokevirtual (192), 0, 0, 0, 0),
  (17, 3, .ifCond .ne (7), 24, 0, 0, 0),
  (20, 1, .iconst (1), 0, 0, 1, 0),
  (21, 3, .goto (4), 25, 0, 0, 0),
  (24, 1, .iconst (0), 0, 0, 0, 0),
  (25, 1, .iadd, 0, 0, 0, 0),
  (26, 1, .istore_n (2), 0, 0, 0, 0),
  (27, 3, .iinc (3) (1), 0, 0, 1, 0),
  (30, 3, .goto (-26), 4, 0, 0, 0),
  (33, 1, .iload_n (2), 0, 0, 0, 0),
  (34, 1, .ireturn, 0, 0, 0, 0)]
def md_Mod_sleptBy : Md := (y_Mod_sleptBy, prog_8_method_43_code, 4, (some .int), pm_Mod_sleptBy)
theorem tk_Mod_sleptBy : Tm md_Mod_sleptBy := tab_of (o := 6) (by decide +kernel)
set_option maxRecDepth 100000 in
theorem ok_Mod_sleptBy : MdOk md_Mod_sleptBy 1 ∧ Cond.instanceMethod md_Mod_sleptBy.1 ∈ T1 ∧ Cond.selects md_Mod_sleptBy.1.cls md_Mod_sleptBy.1 md_Mod_sleptBy.1 ∈ T1 := ⟨⟨T1_in6 (i := 9) rfl rfl, T1_in1 (i := 8) rfl rfl, by decide +kernel, ⟨by decide +kernel, by decide +kernel⟩, by decide +kernel, by decide⟩, T1_in6 (i := 8) rfl rfl, T1_inP (i := 64) rfl⟩
def pm_Mod_coldest : List PE := [(0, 1, .aload_n (0), 0, 0, 0, 0),
  (1, 3, .getfield (143), 6, 1, 0, 0),
  (4, 3, .ifCond .ne (6), 10, 0, 0, 0),
  (7, 2, .bipush (-4), 0, 0, (-4), 0),
  (9, 1, .ireturn, 0, 0, 0, 0),
  (10, 1, .aload_n (0), 0, 0, 0, 0),
  (11, 3, .invokevirtual (204), 0, 0, 0, 0),
  (14, 1, .iconst (0), 0, 0, 0, 0),
  (15, 1, .istore_n (1), 0, 0, 0, 0),
  (16, 1, .iconst (0), 0, 0, 0, 0),
  (17, 1, .istore_n (2), 0, 0, 0, 0),
  (18, 1, .iconst (0), 0, 0, 0, 0),
  (19, 1, .istore_n (3), 0, 0, 0, 0),
  (20, 1, .iload_n (3), 0, 0, 0, 0),
  (21, 1, .aload_n (0), 0, 0, 0, 0),
  (22, 3, .getfield (143), 6, 1, 0, 0),
  (25, 3, .if_icmp .ge (71), 96, 0, 0, 0),
  (28, 1, .iconst (0), 0, 0, 0, 0),
  (29, 2, .istore (4), 0, 0, 0, 0),
  (31, 2, .iload (4), 0, 0, 0, 0),
  (33, 2, .bipush (8), 0, 0, 8, 0),
  (35, 3, .if_icmp .ge (55), 90, 0, 0, 0),
  (38, 1, .aload_n (0), 0, 0, 0, 0),
  (39, 1, .iload_n (3), 0, 0, 0, 0),
  (40, 2, .iload (4), 0, 0, 0, 0),
  (42, 3, .invokevirtual (183), 0, 0, 0, 0),
  (45, 1, .aload_n (0), 0, 0, 0, 0),
  (46, 1, .iload_n (1), 0, 0, 0, 0),
  (47, 1, .iload_n (2), 0, 0, 0, 0),
  (48, 3, .invokevirtual (183), 0, 0, 0, 0),
  (51, 3, .if_icmp .ge (7), 58, 0, 0, 0),
  (54, 1, .iconst (1), 0, 0, 1, 0),
  (55, 3, .goto (4), 59, 0, 0, 0),
  (58, 1, .iconst (0), 0, 0, 0, 0),
  (59, 2, .istore (5), 0, 0, 0, 0),
  (61, 2, .iload (5), 0, 0, 0, 0),
  (63, 3, .ifCond .eq (7), 70, 0, 0, 0),
  (66, 1, .iload_n (3), 0, 0, 0, 0),
  (67, 3, .goto (4), 71, 0, 0, 0),
  (70, 1, .iload_n (1), 0, 0, 0, 0),
  (71, 1, .istore_n (1), 0, 0, 0, 0),
  (72, 2, .iload (5), 0, 0, 0, 0),
  (74, 3, .ifCond .eq (8), 82, 0, 0, 0),
  (77, 2, .iload (4), 0, 0, 0, 0),
  (79, 3, .goto (4), 83, 0, 0, 0),
  (82, 1, .iload_n (2), 0, 0, 0, 0),
  (83, 1, .istore_n (2), 0, 0, 0, 0),
  (84, 3, .iinc (4) (1), 0, 0, 1, 0),
  (87, 3, .goto (-56), 31, 0, 0, 0),
  (90, 3, .iinc (3) (1), 0, 0, 1, 0),
  (93, 3, .goto (-73), 20, 0, 0, 0),
  (96, 1, .aload_n (0), 0, 0, 0, 0),
  (97, 1, .iload_n (2), 0, 0, 0, 0),
  (98, 3, .putfield (69), 6, 9, 0, 0),
  (101, 1, .iload_n (1), 0, 0, 0, 0),
  (102, 1, .ireturn, 0, 0, 0, 0)]
def md_Mod_coldest : Md := (y_Mod_coldest, prog_8_method_74_code, 6, (some .int), pm_Mod_coldest)
theorem tk_Mod_coldest : Tm md_Mod_coldest := tab_of (o := 6) (by decide +kernel)
set_option maxRecDepth 100000 in
theorem ok_Mod_coldest : MdOk md_Mod_coldest 0 ∧ Cond.instanceMethod md_Mod_coldest.1 ∈ T1 ∧ Cond.selects md_Mod_coldest.1.cls md_Mod_coldest.1 md_Mod_coldest.1 ∈ T1 := ⟨⟨T1_in6 (i := 13) rfl rfl, T1_in1 (i := 8) rfl rfl, by decide +kernel, ⟨by decide +kernel, by decide +kernel⟩, by decide +kernel, by decide⟩, T1_in6 (i := 11) rfl rfl, T1_in6 (i := 12) rfl rfl⟩
def pm_Mod_good : List PE := [(0, 1, .aload_n (0), 0, 0, 0, 0),
  (1, 1, .iload_n (1), 0, 0, 0, 0),
  (2, 3, .invokevirtual (198), 0, 0, 0, 0),
  (5, 3, .ifCond .ne (5), 10, 0, 0, 0),
  (8, 1, .iconst (-1), 0, 0, (-1), 0),
  (9, 1, .ireturn, 0, 0, 0, 0),
  (10, 1, .aload_n (0), 0, 0, 0, 0),
  (11, 3, .invokevirtual (204), 0, 0, 0, 0),
  (14, 1, .aload_n (0), 0, 0, 0, 0),
  (15, 3, .invokevirtual (243), 0, 0, 0, 0),
  (18, 1, .aload_n (0), 0, 0, 0, 0),
  (19, 1, .iload_n (1), 0, 0, 0, 0),
  (20, 3, .invokevirtual (195), 0, 0, 0, 0),
  (23, 1, .isub, 0, 0, 0, 0),
  (24, 1, .istore_n (2), 0, 0, 0, 0),
  (25, 1, .aload_n (0), 0, 0, 0, 0),
  (26, 1, .iload_n (1), 0, 0, 0, 0),
  (27, 3, .putfield (53), 6, 24, 0, 0),
  (30, 1, .aload_n (0), 0, 0, 0, 0),
  (31, 3, .invokevirtual (243), 0, 0, 0, 0),
  (34, 1, .aload_n (0), 0, 0, 0, 0),
  (35, 1, .iload_n (1), 0, 0, 0, 0),
  (36, 3, .invokevirtual (195), 0, 0, 0, 0),
  (39, 1, .isub, 0, 0, 0, 0),
  (40, 1, .istore_n (3), 0, 0, 0, 0),
  (41, 1, .aload_n (0), 0, 0, 0, 0),
  (42, 2, .bipush (-9), 0, 0, (-9), 0),
  (44, 3, .putfield (53), 6, 24, 0, 0),
  (47, 1, .aload_n (0), 0, 0, 0, 0),
  (48, 1, .iload_n (2), 0, 0, 0, 0),
  (49, 1, .iload_n (3), 0, 0, 0, 0),
  (50, 1, .isub, 0, 0, 0, 0),
  (51, 3, .invokevirtual (96), 0, 0, 0, 0),
  (54, 1, .ireturn, 0, 0, 0, 0)]
def md_Mod_good : Md := (y_Mod_good, prog_8_method_75_code, 4, (some .int), pm_Mod_good)
theorem tk_Mod_good : Tm md_Mod_good := tab_of (o := 6) (by decide +kernel)
set_option maxRecDepth 100000 in
theorem ok_Mod_good : MdOk md_Mod_good 1 ∧ Cond.instanceMethod md_Mod_good.1 ∈ T1 ∧ Cond.selects md_Mod_good.1.cls md_Mod_good.1 md_Mod_good.1 ∈ T1 := ⟨⟨T1_in6 (i := 17) rfl rfl, T1_in1 (i := 8) rfl rfl, by decide +kernel, ⟨by decide +kernel, by decide +kernel⟩, by decide +kernel, by decide⟩, T1_in6 (i := 15) rfl rfl, T1_in6 (i := 16) rfl rfl⟩
def pm_Mod_worthNow : List PE := [(0, 1, .iconst (0), 0, 0, 0, 0),
  (1, 1, .istore_n (1), 0, 0, 0, 0),
  (2, 1, .iconst (0), 0, 0, 0, 0),
  (3, 1, .istore_n (2), 0, 0, 0, 0),
  (4, 1, .iload_n (2), 0, 0, 0, 0),
  (5, 1, .aload_n (0), 0, 0, 0, 0),
  (6, 3, .getfield (143), 6, 1, 0, 0),
  (9, 3, .if_icmp .ge (17), 26, 0, 0, 0),
  (12, 1, .iload_n (1), 0, 0, 0, 0),
  (13, 1, .aload_n (0), 0, 0, 0, 0),
  (14, 1, .iload_n (2), 0, 0, 0, 0),
  (15, 3, .invokevirtual (195), 0, 0, 0, 0),
  (18, 1, .iadd, 0, 0, 0, 0),
  (19, 1, .istore_n (1), 0, 0, 0, 0),
  (20, 3, .iinc (2) (1), 0, 0, 1, 0),
  (23, 3, .goto (-19), 4, 0, 0, 0),
  (26, 1, .iload_n (1), 0, 0, 0, 0),
  (27, 1, .ireturn, 0, 0, 0, 0)]
def md_Mod_worthNow : Md := (y_Mod_worthNow, prog_8_method_44_code, 3, (some .int), pm_Mod_worthNow)
theorem tk_Mod_worthNow : Tm md_Mod_worthNow := tab_of (o := 6) (by decide +kernel)
set_option maxRecDepth 100000 in
theorem ok_Mod_worthNow : MdOk md_Mod_worthNow 0 ∧ Cond.instanceMethod md_Mod_worthNow.1 ∈ T1 ∧ Cond.selects md_Mod_worthNow.1.cls md_Mod_worthNow.1 md_Mod_worthNow.1 ∈ T1 := ⟨⟨T1_in6 (i := 21) rfl rfl, T1_in1 (i := 8) rfl rfl, by decide +kernel, ⟨by decide +kernel, by decide +kernel⟩, by decide +kernel, by decide⟩, T1_in6 (i := 20) rfl rfl, T1_inP (i := 65) rfl⟩
def pm_Mod_worth : List PE := [(0, 1, .aload_n (0), 0, 0, 0, 0),
  (1, 3, .getfield (143), 6, 1, 0, 0),
  (4, 3, .ifCond .ne (6), 10, 0, 0, 0),
  (7, 2, .bipush (-4), 0, 0, (-4), 0),
  (9, 1, .ireturn, 0, 0, 0, 0),
  (10, 1, .aload_n (0), 0, 0, 0, 0),
  (11, 3, .invokevirtual (204), 0, 0, 0, 0),
  (14, 1, .aload_n (0), 0, 0, 0, 0),
  (15, 1, .aload_n (0), 0, 0, 0, 0),
  (16, 3, .invokevirtual (246), 0, 0, 0, 0),
  (19, 3, .putfield (69), 6, 9, 0, 0),
  (22, 1, .aload_n (0), 0, 0, 0, 0),
  (23, 3, .invokevirtual (243), 0, 0, 0, 0),
  (26, 1, .ireturn, 0, 0, 0, 0)]
def md_Mod_worth : Md := (y_Mod_worth, prog_8_method_76_code, 1, (some .int), pm_Mod_worth)
theorem tk_Mod_worth : Tm md_Mod_worth := tab_of (o := 6) (by decide +kernel)
set_option maxRecDepth 100000 in
theorem ok_Mod_worth : MdOk md_Mod_worth 0 ∧ Cond.instanceMethod md_Mod_worth.1 ∈ T1 ∧ Cond.selects md_Mod_worth.1.cls md_Mod_worth.1 md_Mod_worth.1 ∈ T1 := ⟨⟨T1_in6 (i := 25) rfl rfl, T1_in1 (i := 8) rfl rfl, by decide +kernel, ⟨by decide +kernel, by decide +kernel⟩, by decide +kernel, by decide⟩, T1_in6 (i := 23) rfl rfl, T1_in6 (i := 24) rfl rfl⟩
def pm_Mod_leastNow : List PE := [(0, 2, .bipush (8), 0, 0, 8, 0),
  (2, 1, .istore_n (1), 0, 0, 0, 0),
  (3, 1, .iconst (0), 0, 0, 0, 0),
  (4, 1, .istore_n (2), 0, 0, 0, 0),
  (5, 1, .iload_n (2), 0, 0, 0, 0),
  (6, 1, .aload_n (0), 0, 0, 0, 0),
  (7, 3, .getfield (143), 6, 1, 0, 0),
  (10, 3, .if_icmp .ge (26), 36, 0, 0, 0),
  (13, 1, .aload_n (0), 0, 0, 0, 0),
  (14, 1, .iload_n (2), 0, 0, 0, 0),
  (15, 3, .invokevirtual (195), 0, 0, 0, 0),
  (18, 1, .istore_n (3), 0, 0, 0, 0),
  (19, 1, .iload_n (3), 0, 0, 0, 0),
  (20, 1, .iload_n (1), 0, 0, 0, 0),
  (21, 3, .if_icmp .ge (7), 28, 0, 0, 0),
  (24, 1, .iload_n (3), 0, 0, 0, 0),
  (25, 3, .goto (4), 29, 0, 0, 0),
  (28, 1, .iload_n (1), 0, 0, 0, 0),
  (29, 1, .istore_n (1), 0, 0, 0, 0),
  (30, 3, .iinc (2) (1), 0, 0, 1, 0),
  (33, 3, .goto (-28), 5, 0, 0, 0),
  (36, 1, .iload_n (1), 0, 0, 0, 0),
  (37, 1, .ireturn, 0, 0, 0, 0)]
def md_Mod_leastNow : Md := (y_Mod_leastNow, prog_8_method_45_code, 4, (some .int), pm_Mod_leastNow)
theorem tk_Mod_leastNow : Tm md_Mod_leastNow := tab_of (o := 6) (by decide +kernel)
set_option maxRecDepth 100000 in
theorem ok_Mod_leastNow : MdOk md_Mod_leastNow 0 ∧ Cond.instanceMethod md_Mod_leastNow.1 ∈ T1 ∧ Cond.selects md_Mod_leastNow.1.cls md_Mod_leastNow.1 md_Mod_leastNow.1 ∈ T1 := ⟨⟨T1_in6 (i := 29) rfl rfl, T1_in1 (i := 8) rfl rfl, by decide +kernel, ⟨by decide +kernel, by decide +kernel⟩, by decide +kernel, by decide⟩, T1_in6 (i := 28) rfl rfl, T1_inP (i := 66) rfl⟩
def pm_Mod_best : List PE := [(0, 1, .aload_n (0), 0, 0, 0, 0),
  (1, 1, .iload_n (1), 0, 0, 0, 0),
  (2, 1, .iconst (0), 0, 0, 0, 0),
  (3, 3, .invokevirtual (262), 0, 0, 0, 0),
  (6, 1, .ireturn, 0, 0, 0, 0)]
def md_Mod_best : Md := (y_Mod_best, prog_8_method_82_code, 2, (some .int), pm_Mod_best)
theorem tk_Mod_best : Tm md_Mod_best := tab_of (o := 6) (by decide +kernel)
set_option maxRecDepth 100000 in
theorem ok_Mod_best : MdOk md_Mod_best 1 ∧ Cond.instanceMethod md_Mod_best.1 ∈ T1 ∧ Cond.selects md_Mod_best.1.cls md_Mod_best.1 md_Mod_best.1 ∈ T1 := ⟨⟨T1_in6 (i := 33) rfl rfl, T1_in1 (i := 8) rfl rfl, by decide +kernel, ⟨by decide +kernel, by decide +kernel⟩, by decide +kernel, by decide⟩, T1_in6 (i := 31) rfl rfl, T1_in6 (i := 32) rfl rfl⟩
def pm_Mod_toBest : List PE := [(0, 1, .iload_n (1), 0, 0, 0, 0),
  (1, 3, .invokestatic (80), 0, 0, 0, 0),
  (4, 3, .ifCond .ne (5), 9, 0, 0, 0),
  (7, 1, .iconst (-1), 0, 0, (-1), 0),
  (8, 1, .ireturn, 0, 0, 0, 0),
  (9, 1, .aload_n (0), 0, 0, 0, 0),
  (10, 3, .getfield (143), 6, 1, 0, 0),
  (13, 3, .ifCond .ne (6), 19, 0, 0, 0),
  (16, 2, .bipush (-4), 0, 0, (-4), 0),
  (18, 1, .ireturn, 0, 0, 0, 0),
  (19, 1, .aload_n (0), 0, 0, 0, 0),
  (20, 3, .invokevirtual (204), 0, 0, 0, 0),
  (23, 1, .iconst (0), 0, 0, 0, 0),
  (24, 1, .istore_n (3), 0, 0, 0, 0),
  (25, 1, .iconst (-1), 0, 0, (-1), 0),
  (26, 2, .istore (4), 0, 0, 0, 0),
  (28, 1, .iconst (0), 0, 0, 0, 0),
  (29, 2, .istore (5), 0, 0, 0, 0),
  (31, 2, .iload (5), 0, 0, 0, 0),
  (33, 1, .aload_n (0), 0, 0, 0, 0),
  (34, 3, .invokevirtual (249), 0, 0, 0, 0),
  (37, 3, .if_icmp .ge (62), 99, 0, 0, 0),
  (40, 1, .aload_n (0), 0, 0, 0, 0),
  (41, 2, .iload (5), 0, 0, 0, 0),
  (43, 3, .invokevirtual (256), 0, 0, 0, 0),
  (46, 1, .iload_n (2), 0, 0, 0, 0),
  (47, 3, .ifCond .eq (10), 57, 0, 0, 0),
  (50, 1, .aload_n (0), 0, 0, 0, 0),
  (51, 3, .invokevirtual (246), 0, 0, 0, 0),
  (54, 3, .goto (7), 61, 0, 0, 0),
  (57, 1, .aload_n (0), 0, 0, 0, 0),
  (58, 3, .invokevirtual (243), 0, 0, 0, 0),
  (61, 2, .istore (6), 0, 0, 0, 0),
  (63, 2, .iload (6), 0, 0, 0, 0),
  (65, 2, .iload (4), 0, 0, 0, 0),
  (67, 3, .if_icmp .le (8), 75, 0, 0, 0),
  (70, 2, .iload (5), 0, 0, 0, 0),
  (72, 3, .goto (4), 76, 0, 0, 0),
  (75, 1, .iload_n (3), 0, 0, 0, 0),
  (76, 1, .istore_n (3), 0, 0, 0, 0),
  (77, 2, .iload (6), 0, 0, 0, 0),
  (79, 2, .iload (4), 0, 0, 0, 0),
  (81, 3, .if_icmp .le (8), 89, 0, 0, 0),
  (84, 2, .iload (6), 0, 0, 0, 0),
  (86, 3, .goto (5), 91, 0, 0, 0),
  (89, 2, .iload (4), 0, 0, 0, 0),
  (91, 2, .istore (4), 0, 0, 0, 0),
  (93, 3, .iinc (5) (1), 0, 0, 1, 0),
  (96, 3, .goto (-65), 31, 0, 0, 0),
  (99, 1, .aload_n (0), 0, 0, 0, 0),
  (100, 1, .iload_n (1), 0, 0, 0, 0),
  (101, 1, .iload_n (3), 0, 0, 0, 0),
  (102, 3, .invokevirtual (259), 0, 0, 0, 0),
  (105, 2, .iload (4), 0, 0, 0, 0),
  (107, 1, .ireturn, 0, 0, 0, 0)]
def md_Mod_toBest : Md := (y_Mod_toBest, prog_8_method_81_code, 7, (some .int), pm_Mod_toBest)
theorem tk_Mod_toBest : Tm md_Mod_toBest := tab_of (o := 6) (by decide +kernel)
set_option maxRecDepth 100000 in
theorem ok_Mod_toBest : MdOk md_Mod_toBest 2 ∧ Cond.instanceMethod md_Mod_toBest.1 ∈ T1 ∧ Cond.selects md_Mod_toBest.1.cls md_Mod_toBest.1 md_Mod_toBest.1 ∈ T1 := ⟨⟨T1_in6 (i := 37) rfl rfl, T1_in1 (i := 8) rfl rfl, by decide +kernel, ⟨by decide +kernel, by decide +kernel⟩, by decide +kernel, by decide⟩, T1_in6 (i := 36) rfl rfl, T1_inP (i := 67) rfl⟩
def pm_Mod_orderMany : List PE := [(0, 1, .iconst (1), 0, 0, 1, 0),
  (1, 1, .istore_n (1), 0, 0, 0, 0),
  (2, 1, .iconst (2), 0, 0, 2, 0),
  (3, 1, .istore_n (2), 0, 0, 0, 0),
  (4, 1, .iload_n (2), 0, 0, 0, 0),
  (5, 1, .aload_n (0), 0, 0, 0, 0),
  (6, 3, .getfield (143), 6, 1, 0, 0),
  (9, 3, .if_icmp .gt (13), 22, 0, 0, 0),
  (12, 1, .iload_n (1), 0, 0, 0, 0),
  (13, 1, .iload_n (2), 0, 0, 0, 0),
  (14, 1, .imul, 0, 0, 0, 0),
  (15, 1, .istore_n (1), 0, 0, 0, 0),
  (16, 3, .iinc (2) (1), 0, 0, 1, 0),
  (19, 3, .goto (-15), 4, 0, 0, 0),
  (22, 1, .iload_n (1), 0, 0, 0, 0),
  (23, 1, .ireturn, 0, 0, 0, 0)]
def md_Mod_orderMany : Md := (y_Mod_orderMany, prog_8_method_77_code, 3, (some .int), pm_Mod_orderMany)
theorem tk_Mod_orderMany : Tm md_Mod_orderMany := tab_of (o := 6) (by decide +kernel)
set_option maxRecDepth 100000 in
theorem ok_Mod_orderMany : MdOk md_Mod_orderMany 0 ∧ Cond.instanceMethod md_Mod_orderMany.1 ∈ T1 ∧ Cond.selects md_Mod_orderMany.1.cls md_Mod_orderMany.1 md_Mod_orderMany.1 ∈ T1 := ⟨⟨T1_in6 (i := 41) rfl rfl, T1_in1 (i := 8) rfl rfl, by decide +kernel, ⟨by decide +kernel, by decide +kernel⟩, by decide +kernel, by decide⟩, T1_in6 (i := 40) rfl rfl, T1_inP (i := 68) rfl⟩
def pm_Mod_lieBy : List PE := [(0, 1, .aload_n (0), 0, 0, 0, 0),
  (1, 1, .iload_n (1), 0, 0, 0, 0),
  (2, 3, .invokevirtual (252), 0, 0, 0, 0),
  (5, 1, .iconst (0), 0, 0, 0, 0),
  (6, 1, .istore_n (2), 0, 0, 0, 0),
  (7, 1, .iload_n (2), 0, 0, 0, 0),
  (8, 1, .aload_n (0), 0, 0, 0, 0),
  (9, 3, .getfield (143), 6, 1, 0, 0),
  (12, 3, .if_icmp .ge (21), 33, 0, 0, 0),
  (15, 1, .aload_n (0), 0, 0, 0, 0),
  (16, 3, .getfield (47), 6, 20, 0, 0),
  (19, 1, .iload_n (2), 0, 0, 0, 0),
  (20, 1, .aload_n (0), 0, 0, 0, 0),
  (21, 3, .getfield (60), 6, 27, 0, 0),
  (24, 1, .iload_n (2), 0, 0, 0, 0),
  (25, 1, .iaload, 0, 0, 0, 0),
  (26, 1, .iastore, 0, 0, 0, 0),
  (27, 3, .iinc (2) (1), 0, 0, 1, 0),
  (30, 3, .goto (-23), 7, 0, 0, 0),
  (33, 1, .return_, 0, 0, 0, 0)]
def md_Mod_lieBy : Md := (y_Mod_lieBy, prog_8_method_79_code, 3, none, pm_Mod_lieBy)
theorem tk_Mod_lieBy : Tm md_Mod_lieBy := tab_of (o := 6) (by decide +kernel)
set_option maxRecDepth 100000 in
theorem ok_Mod_lieBy : MdOk md_Mod_lieBy 1 ∧ Cond.instanceMethod md_Mod_lieBy.1 ∈ T1 ∧ Cond.selects md_Mod_lieBy.1.cls md_Mod_lieBy.1 md_Mod_lieBy.1 ∈ T1 := ⟨⟨T1_in6 (i := 45) rfl rfl, T1_in1 (i := 8) rfl rfl, by decide +kernel, ⟨by decide +kernel, by decide +kernel⟩, by decide +kernel, by decide⟩, T1_in6 (i := 44) rfl rfl, T1_inP (i := 69) rfl⟩
def pm_Mod_layOrder : List PE := [(0, 1, .aload_n (0), 0, 0, 0, 0),
  (1, 3, .invokevirtual (249), 0, 0, 0, 0),
  (4, 1, .istore_n (2), 0, 0, 0, 0),
  (5, 1, .iload_n (1), 0, 0, 0, 0),
  (6, 1, .istore_n (3), 0, 0, 0, 0),
  (7, 1, .iconst (1), 0, 0, 1, 0),
  (8, 1, .aload_n (0), 0, 0, 0, 0),
  (9, 3, .getfield (143), 6, 1, 0, 0),
  (12, 1, .ishl, 0, 0, 0, 0),
  (13, 1, .iconst (1), 0, 0, 1, 0),
  (14, 1, .isub, 0, 0, 0, 0),
  (15, 2, .istore (4), 0, 0, 0, 0),
  (17, 1, .iconst (0), 0, 0, 0, 0),
  (18, 2, .istore (5), 0, 0, 0, 0),
  (20, 2, .iload (5), 0, 0, 0, 0),
  (22, 1, .aload_n (0), 0, 0, 0, 0),
  (23, 3, .getfield (143), 6, 1, 0, 0),
  (26, 3, .if_icmp .ge (84), 110, 0, 0, 0),
  (29, 1, .iload_n (2), 0, 0, 0, 0),
  (30, 1, .aload_n (0), 0, 0, 0, 0),
  (31, 3, .getfield (143), 6, 1, 0, 0),
  (34, 2, .iload (5), 0, 0, 0, 0),
  (36, 1, .isub, 0, 0, 0, 0),
  (37, 1, .idiv, 0, 0, 0, 0),
  (38, 1, .istore_n (2), 0, 0, 0, 0),
  (39, 1, .iload_n (3), 0, 0, 0, 0),
  (40, 1, .iload_n (2), 0, 0, 0, 0),
  (41, 1, .idiv, 0, 0, 0, 0),
  (42, 2, .istore (6), 0, 0, 0, 0),
  (44, 1, .iload_n (3), 0, 0, 0, 0),
  (45, 1, .iload_n (2), 0, 0, 0, 0),
  (46, 1, .irem, 0, 0, 0, 0),
  (47, 1, .istore_n (3), 0, 0, 0, 0),
  (48, 1, .iconst (0), 0, 0, 0, 0),
  (49, 2, .istore (7), 0, 0, 0, 0),
  (51, 2, .iload (4), 0, 0, 0, 0),
  (53, 2, .iload (7), 0, 0, 0, 0),
  (55, 3, .invokestatic (180), 0, 0, 0, 0),
  (58, 3, .ifCond .eq (8), 66, 0, 0, 0),
  (61, 2, .iload (6), 0, 0, 0, 0),
  (63, 3, .ifCond .le (21), 84, 0, 0, 0),
  (66, 2, .iload (6), 0, 0, 0, 0),
  (68, 2, .iload (4), 0, 0, 0, 0),
  (70, 2, .iload (7), 0, 0, 0, 0),
  (72, 1, .ishr, 0, 0, 0, 0),
  (73, 1, .iconst (1), 0, 0, 1, 0),
  (74, 1, .iand, 0, 0, 0, 0),
  (75, 1, .isub, 0, 0, 0, 0),
  (76, 2, .istore (6), 0, 0, 0, 0),
  (78, 3, .iinc (7) (1), 0, 0, 1, 0),
  (81, 3, .goto (-30), 51, 0, 0, 0),
  (84, 1, .aload_n (0), 0, 0, 0, 0),
  (85, 3, .getfield (60), 6, 27, 0, 0),
  (88, 2, .iload (5), 0, 0, 0, 0),
  (90, 2, .iload (7), 0, 0, 0, 0),
  (92, 1, .iastore, 0, 0, 0, 0),
  (93, 2, .iload (4), 0, 0, 0, 0),
  (95, 1, .iconst (1), 0, 0, 1, 0),
  (96, 2, .iload (7), 0, 0, 0, 0),
  (98, 1, .ishl, 0, 0, 0, 0),
  (99, 1, .iconst (-1), 0, 0, (-1), 0),
  (100, 1, .ixor, 0, 0, 0, 0),
  (101, 1, .iand, 0, 0, 0, 0),
  (102, 2, .istore (4), 0, 0, 0, 0),
  (104, 3, .iinc (5) (1), 0, 0, 1, 0),
  (107, 3, .goto (-87), 20, 0, 0, 0),
  (110, 1, .return_, 0, 0, 0, 0)]
def md_Mod_layOrder : Md := (y_Mod_layOrder, prog_8_method_78_code, 8, none, pm_Mod_layOrder)
theorem tk_Mod_layOrder : Tm md_Mod_layOrder := tab_of (o := 6) (by decide +kernel)
set_option maxRecDepth 100000 in
theorem ok_Mod_layOrder : MdOk md_Mod_layOrder 1 ∧ Cond.instanceMethod md_Mod_layOrder.1 ∈ T1 ∧ Cond.selects md_Mod_layOrder.1.cls md_Mod_layOrder.1 md_Mod_layOrder.1 ∈ T1 := ⟨⟨T1_in6 (i := 49) rfl rfl, T1_in1 (i := 8) rfl rfl, by decide +kernel, ⟨by decide +kernel, by decide +kernel⟩, by decide +kernel, by decide⟩, T1_in6 (i := 48) rfl rfl, T1_inP (i := 70) rfl⟩
def pm_Mod_orderTo : List PE := [(0, 1, .aload_n (0), 0, 0, 0, 0),
  (1, 1, .iload_n (2), 0, 0, 0, 0),
  (2, 3, .invokevirtual (252), 0, 0, 0, 0),
  (5, 1, .aload_n (0), 0, 0, 0, 0),
  (6, 1, .iload_n (1), 0, 0, 0, 0),
  (7, 1, .aload_n (0), 0, 0, 0, 0),
  (8, 3, .getfield (143), 6, 1, 0, 0),
  (11, 3, .invokevirtual (88), 0, 0, 0, 0),
  (14, 1, .iconst (0), 0, 0, 0, 0),
  (15, 1, .istore_n (3), 0, 0, 0, 0),
  (16, 1, .iload_n (3), 0, 0, 0, 0),
  (17, 1, .aload_n (0), 0, 0, 0, 0),
  (18, 3, .getfield (143), 6, 1, 0, 0),
  (21, 3, .if_icmp .ge (26), 47, 0, 0, 0),
  (24, 1, .aload_n (0), 0, 0, 0, 0),
  (25, 3, .getfield (25), 6, 6, 0, 0),
  (28, 2, .bipush (40), 0, 0, 40, 0),
  (30, 1, .iload_n (1), 0, 0, 0, 0),
  (31, 1, .imul, 0, 0, 0, 0),
  (32, 1, .iload_n (3), 0, 0, 0, 0),
  (33, 1, .iadd, 0, 0, 0, 0),
  (34, 1, .aload_n (0), 0, 0, 0, 0),
  (35, 3, .getfield (60), 6, 27, 0, 0),
  (38, 1, .iload_n (3), 0, 0, 0, 0),
  (39, 1, .iaload, 0, 0, 0, 0),
  (40, 1, .iastore, 0, 0, 0, 0),
  (41, 3, .iinc (3) (1), 0, 0, 1, 0),
  (44, 3, .goto (-28), 16, 0, 0, 0),
  (47, 1, .return_, 0, 0, 0, 0)]
def md_Mod_orderTo : Md := (y_Mod_orderTo, prog_8_method_80_code, 4, none, pm_Mod_orderTo)
theorem tk_Mod_orderTo : Tm md_Mod_orderTo := tab_of (o := 6) (by decide +kernel)
set_option maxRecDepth 100000 in
theorem ok_Mod_orderTo : MdOk md_Mod_orderTo 2 ∧ Cond.instanceMethod md_Mod_orderTo.1 ∈ T1 ∧ Cond.selects md_Mod_orderTo.1.cls md_Mod_orderTo.1 md_Mod_orderTo.1 ∈ T1 := ⟨⟨T1_in6 (i := 53) rfl rfl, T1_in1 (i := 8) rfl rfl, by decide +kernel, ⟨by decide +kernel, by decide +kernel⟩, by decide +kernel, by decide⟩, T1_in6 (i := 52) rfl rfl, T1_inP (i := 71) rfl⟩
def pm_Mod_fair : List PE := [(0, 1, .aload_n (0), 0, 0, 0, 0),
  (1, 1, .iload_n (1), 0, 0, 0, 0),
  (2, 1, .iconst (1), 0, 0, 1, 0),
  (3, 3, .invokevirtual (262), 0, 0, 0, 0),
  (6, 1, .ireturn, 0, 0, 0, 0)]
def md_Mod_fair : Md := (y_Mod_fair, prog_8_method_83_code, 2, (some .int), pm_Mod_fair)
theorem tk_Mod_fair : Tm md_Mod_fair := tab_of (o := 6) (by decide +kernel)
set_option maxRecDepth 100000 in
theorem ok_Mod_fair : MdOk md_Mod_fair 1 ∧ Cond.instanceMethod md_Mod_fair.1 ∈ T1 ∧ Cond.selects md_Mod_fair.1.cls md_Mod_fair.1 md_Mod_fair.1 ∈ T1 := ⟨⟨T1_in6 (i := 57) rfl rfl, T1_in1 (i := 8) rfl rfl, by decide +kernel, ⟨by decide +kernel, by decide +kernel⟩, by decide +kernel, by decide⟩, T1_in6 (i := 55) rfl rfl, T1_in6 (i := 56) rfl rfl⟩
def pm_Mod_turning : List PE := [(0, 1, .aload_n (0), 0, 0, 0, 0),
  (1, 3, .getfield (143), 6, 1, 0, 0),
  (4, 3, .ifCond .ne (6), 10, 0, 0, 0),
  (7, 2, .bipush (-4), 0, 0, (-4), 0),
  (9, 1, .ireturn, 0, 0, 0, 0),
  (10, 1, .aload_n (0), 0, 0, 0, 0),
  (11, 3, .invokevirtual (204), 0, 0, 0, 0),
  (14, 1, .iconst (0), 0, 0, 0, 0),
  (15, 1, .istore_n (1), 0, 0, 0, 0),
  (16, 1, .iconst (-1), 0, 0, (-1), 0),
  (17, 1, .istore_n (2), 0, 0, 0, 0),
  (18, 1, .iconst (0), 0, 0, 0, 0),
  (19, 1, .istore_n (3), 0, 0, 0, 0),
  (20, 1, .iload_n (3), 0, 0, 0, 0),
  (21, 3, .sipush (256), 0, 0, 256, 0),
  (24, 3, .if_icmp .ge (45), 69, 0, 0, 0),
  (27, 1, .aload_n (0), 0, 0, 0, 0),
  (28, 1, .iload_n (3), 0, 0, 0, 0),
  (29, 3, .putfield (146), 6, 22, 0, 0),
  (32, 1, .aload_n (0), 0, 0, 0, 0),
  (33, 3, .invokevirtual (243), 0, 0, 0, 0),
  (36, 2, .istore (4), 0, 0, 0, 0),
  (38, 2, .iload (4), 0, 0, 0, 0),
  (40, 1, .iload_n (2), 0, 0, 0, 0),
  (41, 3, .if_icmp .le (7), 48, 0, 0, 0),
  (44, 1, .iload_n (3), 0, 0, 0, 0),
  (45, 3, .goto (4), 49, 0, 0, 0),
  (48, 1, .iload_n (1), 0, 0, 0, 0),
  (49, 1, .istore_n (1), 0, 0, 0, 0),
  (50, 2, .iload (4), 0, 0, 0, 0),
  (52, 1, .iload_n (2), 0, 0, 0, 0),
  (53, 3, .if_icmp .le (8), 61, 0, 0, 0),
  (56, 2, .iload (4), 0, 0, 0, 0),
  (58, 3, .goto (4), 62, 0, 0, 0),
  (61, 1, .iload_n (2), 0, 0, 0, 0),
  (62, 1, .istore_n (2), 0, 0, 0, 0),
  (63, 3, .iinc (3) (1), 0, 0, 1, 0),
  (66, 3, .goto (-46), 20, 0, 0, 0),
  (69, 1, .aload_n (0), 0, 0, 0, 0),
  (70, 1, .iload_n (2), 0, 0, 0, 0),
  (71, 3, .putfield (69), 6, 9, 0, 0),
  (74, 1, .iload_n (1), 0, 0, 0, 0),
  (75, 1, .ireturn, 0, 0, 0, 0)]
def md_Mod_turning : Md := (y_Mod_turning, prog_8_method_84_code, 5, (some .int), pm_Mod_turning)
theorem tk_Mod_turning : Tm md_Mod_turning := tab_of (o := 6) (by decide +kernel)
set_option maxRecDepth 100000 in
theorem ok_Mod_turning : MdOk md_Mod_turning 0 ∧ Cond.instanceMethod md_Mod_turning.1 ∈ T1 ∧ Cond.selects md_Mod_turning.1.cls md_Mod_turning.1 md_Mod_turning.1 ∈ T1 := ⟨⟨T1_in6 (i := 61) rfl rfl, T1_in1 (i := 8) rfl rfl, by decide +kernel, ⟨by decide +kernel, by decide +kernel⟩, by decide +kernel, by decide⟩, T1_in6 (i := 59) rfl rfl, T1_in6 (i := 60) rfl rfl⟩
def pm_Mod_warm : List PE := [(0, 1, .aload_n (0), 0, 0, 0, 0),
  (1, 3, .getfield (143), 6, 1, 0, 0),
  (4, 3, .ifCond .ne (6), 10, 0, 0, 0),
  (7, 2, .bipush (-4), 0, 0, (-4), 0),
  (9, 1, .ireturn, 0, 0, 0, 0),
  (10, 1, .aload_n (0), 0, 0, 0, 0),
  (11, 3, .invokevirtual (204), 0, 0, 0, 0),
  (14, 1, .iconst (0), 0, 0, 0, 0),
  (15, 1, .istore_n (1), 0, 0, 0, 0),
  (16, 1, .iconst (-1), 0, 0, (-1), 0),
  (17, 1, .istore_n (2), 0, 0, 0, 0),
  (18, 1, .iconst (0), 0, 0, 0, 0),
  (19, 1, .istore_n (3), 0, 0, 0, 0),
  (20, 1, .iload_n (3), 0, 0, 0, 0),
  (21, 1, .aload_n (0), 0, 0, 0, 0),
  (22, 3, .getfield (143), 6, 1, 0, 0),
  (25, 3, .if_icmp .ge (45), 70, 0, 0, 0),
  (28, 1, .aload_n (0), 0, 0, 0, 0),
  (29, 1, .iload_n (3), 0, 0, 0, 0),
  (30, 3, .putfield (149), 6, 23, 0, 0),
  (33, 1, .aload_n (0), 0, 0, 0, 0),
  (34, 3, .invokevirtual (243), 0, 0, 0, 0),
  (37, 2, .istore (4), 0, 0, 0, 0),
  (39, 2, .iload (4), 0, 0, 0, 0),
  (41, 1, .iload_n (2), 0, 0, 0, 0),
  (42, 3, .if_icmp .le (7), 49, 0, 0, 0),
  (45, 1, .iload_n (3), 0, 0, 0, 0),
  (46, 3, .goto (4), 50, 0, 0, 0),
  (49, 1, .iload_n (1), 0, 0, 0, 0),
  (50, 1, .istore_n (1), 0, 0, 0, 0),
  (51, 2, .iload (4), 0, 0, 0, 0),
  (53, 1, .iload_n (2), 0, 0, 0, 0),
  (54, 3, .if_icmp .le (8), 62, 0, 0, 0),
  (57, 2, .iload (4), 0, 0, 0, 0),
  (59, 3, .goto (4), 63, 0, 0, 0),
  (62, 1, .iload_n (2), 0, 0, 0, 0),
  (63, 1, .istore_n (2), 0, 0, 0, 0),
  (64, 3, .iinc (3) (1), 0, 0, 1, 0),
  (67, 3, .goto (-47), 20, 0, 0, 0),
  (70, 1, .aload_n (0), 0, 0, 0, 0),
  (71, 1, .iload_n (2), 0, 0, 0, 0),
  (72, 3, .putfield (69), 6, 9, 0, 0),
  (75, 1, .iload_n (1), 0, 0, 0, 0),
  (76, 1, .ireturn, 0, 0, 0, 0)]
def md_Mod_warm : Md := (y_Mod_warm, prog_8_method_85_code, 5, (some .int), pm_Mod_warm)
theorem tk_Mod_warm : Tm md_Mod_warm := tab_of (o := 6) (by decide +kernel)
set_option maxRecDepth 100000 in
theorem ok_Mod_warm : MdOk md_Mod_warm 0 ∧ Cond.instanceMethod md_Mod_warm.1 ∈ T1 ∧ Cond.selects md_Mod_warm.1.cls md_Mod_warm.1 md_Mod_warm.1 ∈ T1 := ⟨⟨T1_in6 (i := 65) rfl rfl, T1_in1 (i := 8) rfl rfl, by decide +kernel, ⟨by decide +kernel, by decide +kernel⟩, by decide +kernel, by decide⟩, T1_in6 (i := 63) rfl rfl, T1_in6 (i := 64) rfl rfl⟩
def pm_Mod_thin : List PE := [(0, 1, .iload_n (1), 0, 0, 0, 0),
  (1, 3, .invokestatic (80), 0, 0, 0, 0),
  (4, 3, .ifCond .ne (5), 9, 0, 0, 0),
  (7, 1, .iconst (-1), 0, 0, (-1), 0),
  (8, 1, .ireturn, 0, 0, 0, 0),
  (9, 1, .aload_n (0), 0, 0, 0, 0),
  (10, 3, .getfield (143), 6, 1, 0, 0),
  (13, 3, .ifCond .ne (6), 19, 0, 0, 0),
  (16, 2, .bipush (-4), 0, 0, (-4), 0),
  (18, 1, .ireturn, 0, 0, 0, 0),
  (19, 1, .aload_n (0), 0, 0, 0, 0),
  (20, 3, .invokevirtual (204), 0, 0, 0, 0),
  (23, 1, .iconst (0), 0, 0, 0, 0),
  (24, 1, .istore_n (2), 0, 0, 0, 0),
  (25, 1, .iconst (-1), 0, 0, (-1), 0),
  (26, 1, .istore_n (3), 0, 0, 0, 0),
  (27, 1, .iconst (0), 0, 0, 0, 0),
  (28, 2, .istore (4), 0, 0, 0, 0),
  (30, 2, .iload (4), 0, 0, 0, 0),
  (32, 1, .aload_n (0), 0, 0, 0, 0),
  (33, 3, .invokevirtual (249), 0, 0, 0, 0),
  (36, 3, .if_icmp .ge (87), 123, 0, 0, 0),
  (39, 1, .aload_n (0), 0, 0, 0, 0),
  (40, 2, .iload (4), 0, 0, 0, 0),
  (42, 3, .invokevirtual (252), 0, 0, 0, 0),
  (45, 1, .iconst (0), 0, 0, 0, 0),
  (46, 2, .istore (5), 0, 0, 0, 0),
  (48, 2, .iload (5), 0, 0, 0, 0),
  (50, 1, .aload_n (0), 0, 0, 0, 0),
  (51, 3, .getfield (143), 6, 1, 0, 0),
  (54, 3, .if_icmp .ge (31), 85, 0, 0, 0),
  (57, 1, .aload_n (0), 0, 0, 0, 0),
  (58, 3, .getfield (50), 6, 21, 0, 0),
  (61, 2, .iload (5), 0, 0, 0, 0),
  (63, 1, .aload_n (0), 0, 0, 0, 0),
  (64, 3, .getfield (7), 6, 0, 0, 0),
  (67, 2, .bipush (6), 0, 0, 6, 0),
  (69, 1, .aload_n (0), 0, 0, 0, 0),
  (70, 3, .getfield (60), 6, 27, 0, 0),
  (73, 2, .iload (5), 0, 0, 0, 0),
  (75, 1, .iaload, 0, 0, 0, 0),
  (76, 1, .iadd, 0, 0, 0, 0),
  (77, 1, .iaload, 0, 0, 0, 0),
  (78, 1, .iastore, 0, 0, 0, 0),
  (79, 3, .iinc (5) (1), 0, 0, 1, 0),
  (82, 3, .goto (-34), 48, 0, 0, 0),
  (85, 1, .aload_n (0), 0, 0, 0, 0),
  (86, 3, .invokevirtual (243), 0, 0, 0, 0),
  (89, 2, .istore (5), 0, 0, 0, 0),
  (91, 2, .iload (5), 0, 0, 0, 0),
  (93, 1, .iload_n (3), 0, 0, 0, 0),
  (94, 3, .if_icmp .le (8), 102, 0, 0, 0),
  (97, 2, .iload (4), 0, 0, 0, 0),
  (99, 3, .goto (4), 103, 0, 0, 0),
  (102, 1, .iload_n (2), 0, 0, 0, 0),
  (103, 1, .istore_n (2), 0, 0, 0, 0),
  (104, 2, .iload (5), 0, 0, 0, 0),
  (106, 1, .iload_n (3), 0, 0, 0, 0),
  (107, 3, .if_icmp .le (8), 115, 0, 0, 0),
  (110, 2, .iload (5), 0, 0, 0, 0),
  (112, 3, .goto (4), 116, 0, 0, 0),
  (115, 1, .iload_n (3), 0, 0, 0, 0),
  (116, 1, .istore_n (3), 0, 0, 0, 0),
  (117, 3, .iinc (4) (1), 0, 0, 1, 0),
  (120, 3, .goto (-90), 30, 0, 0, 0),
  (123, 1, .aload_n (0), 0, 0, 0, 0),
  (124, 1, .iload_n (1), 0, 0, 0, 0),
  (125, 1, .iload_n (2), 0, 0, 0, 0),
  (126, 3, .invokevirtual (259), 0, 0, 0, 0),
  (129, 1, .iload_n (3), 0, 0, 0, 0),
  (130, 1, .ireturn, 0, 0, 0, 0)]
def md_Mod_thin : Md := (y_Mod_thin, prog_8_method_86_code, 6, (some .int), pm_Mod_thin)
theorem tk_Mod_thin : Tm md_Mod_thin := tab_of (o := 6) (by decide +kernel)
set_option maxRecDepth 100000 in
theorem ok_Mod_thin : MdOk md_Mod_thin 1 ∧ Cond.instanceMethod md_Mod_thin.1 ∈ T1 ∧ Cond.selects md_Mod_thin.1.cls md_Mod_thin.1 md_Mod_thin.1 ∈ T1 := ⟨⟨T1_in6 (i := 69) rfl rfl, T1_in1 (i := 8) rfl rfl, by decide +kernel, ⟨by decide +kernel, by decide +kernel⟩, by decide +kernel, by decide⟩, T1_in6 (i := 67) rfl rfl, T1_in6 (i := 68) rfl rfl⟩
def pm_Mod_nights : List PE := [(0, 1, .iload_n (1), 0, 0, 0, 0),
  (1, 1, .i2l, 0, 0, 0, 0),
  (2, 1, .lconst (1), 0, 0, 0, 1),
  (3, 3, .ldc2_w (78), 0, 0, 0, 3),
  (6, 3, .invokestatic (74), 0, 0, 0, 0),
  (9, 3, .ifCond .eq (10), 19, 0, 0, 0),
  (12, 1, .iload_n (2), 0, 0, 0, 0),
  (13, 3, .invokestatic (80), 0, 0, 0, 0),
  (16, 3, .ifCond .ne (5), 21, 0, 0, 0),
  (19, 1, .iconst (-1), 0, 0, (-1), 0),
  (20, 1, .ireturn, 0, 0, 0, 0),
  (21, 1, .aload_n (0), 0, 0, 0, 0),
  (22, 3, .getfield (143), 6, 1, 0, 0),
  (25, 3, .ifCond .ne (6), 31, 0, 0, 0),
  (28, 2, .bipush (-4), 0, 0, (-4), 0),
  (30, 1, .ireturn, 0, 0, 0, 0),
  (31, 1, .aload_n (0), 0, 0, 0, 0),
  (32, 3, .invokevirtual (204), 0, 0, 0, 0),
  (35, 1, .aload_n (0), 0, 0, 0, 0),
  (36, 3, .invokevirtual (249), 0, 0, 0, 0),
  (39, 1, .istore_n (3), 0, 0, 0, 0),
  (40, 1, .iconst (0), 0, 0, 0, 0),
  (41, 2, .istore (4), 0, 0, 0, 0),
  (43, 2, .iload (4), 0, 0, 0, 0),
  (45, 1, .iload_n (3), 0, 0, 0, 0),
  (46, 3, .if_icmp .ge (51), 97, 0, 0, 0),
  (49, 1, .aload_n (0), 0, 0, 0, 0),
  (50, 2, .iload (4), 0, 0, 0, 0),
  (52, 3, .invokevirtual (256), 0, 0, 0, 0),
  (55, 1, .iconst (0), 0, 0, 0, 0),
  (56, 2, .istore (5), 0, 0, 0, 0),
  (58, 2, .iload (5), 0, 0, 0, 0),
  (60, 1, .aload_n (0), 0, 0, 0, 0),
  (61, 3, .getfield (143), 6, 1, 0, 0),
  (64, 3, .if_icmp .ge (27), 91, 0, 0, 0),
  (67, 1, .aload_n (0), 0, 0, 0, 0),
  (68, 3, .getfield (63), 6, 28, 0, 0),
  (71, 1, .iconst (5), 0, 0, 5, 0),
  (72, 2, .iload (4), 0, 0, 0, 0),
  (74, 1, .imul, 0, 0, 0, 0),
  (75, 2, .iload (5), 0, 0, 0, 0),
  (77, 1, .iadd, 0, 0, 0, 0),
  (78, 1, .aload_n (0), 0, 0, 0, 0),
  (79, 2, .iload (5), 0, 0, 0, 0),
  (81, 3, .invokevirtual (195), 0, 0, 0, 0),
  (84, 1, .iastore, 0, 0, 0, 0),
  (85, 3, .iinc (5) (1), 0, 0, 1, 0),
  (88, 3, .goto (-30), 58, 0, 0, 0),
  (91, 3, .iinc (4) (1), 0, 0, 1, 0),
  (94, 3, .goto (-51), 43, 0, 0, 0),
  (97, 1, .iconst (-1), 0, 0, (-1), 0),
  (98, 2, .istore (4), 0, 0, 0, 0),
  (100, 1, .aload_n (0), 0, 0, 0, 0),
  (101, 1, .iload_n (2), 0, 0, 0, 0),
  (102, 1, .iload_n (1), 0, 0, 0, 0),
  (103, 3, .invokevirtual (88), 0, 0, 0, 0),
  (106, 1, .iconst (0), 0, 0, 0, 0),
  (107, 2, .istore (5), 0, 0, 0, 0),
  (109, 2, .iload (5), 0, 0, 0, 0),
  (111, 1, .iload_n (3), 0, 0, 0, 0),
  (112, 3, .if_icmp .ge (155), 267, 0, 0, 0),
  (115, 1, .iload_n (1), 0, 0, 0, 0),
  (116, 1, .iconst (1), 0, 0, 1, 0),
  (117, 3, .if_icmp .le (8), 125, 0, 0, 0),
  (120, 2, .iload (5), 0, 0, 0, 0),
  (122, 3, .goto (4), 126, 0, 0, 0),
  (125, 1, .iconst (-1), 0, 0, (-1), 0),
  (126, 2, .istore (6), 0, 0, 0, 0),
  (128, 2, .iload (6), 0, 0, 0, 0),
  (130, 1, .iload_n (1), 0, 0, 0, 0),
  (131, 1, .iconst (1), 0, 0, 1, 0),
  (132, 3, .if_icmp .le (7), 139, 0, 0, 0),
  (135, 1, .iload_n (3), 0, 0, 0, 0),
  (136, 3, .goto (4), 140, 0, 0, 0),
  (139, 1, .iconst (0), 0, 0, 0, 0),
  (140, 3, .if_icmp .ge (121), 261, 0, 0, 0),
  (143, 1, .iload_n (1), 0, 0, 0, 0),
  (144, 1, .iconst (2), 0, 0, 2, 0),
  (145, 3, .if_icmp .le (8), 153, 0, 0, 0),
  (148, 2, .iload (6), 0, 0, 0, 0),
  (150, 3, .goto (4), 154, 0, 0, 0),
  (153, 1, .iconst (-1), 0, 0, (-1), 0),
  (154, 2, .istore (7), 0, 0, 0, 0),
  (156, 2, .iload (7), 0, 0, 0, 0),
  (158, 1, .iload_n (1), 0, 0, 0, 0),
  (159, 1, .iconst (2), 0, 0, 2, 0),
  (160, 3, .if_icmp .le (7), 167, 0, 0, 0),
  (163, 1, .iload_n (3), 0, 0, 0, 0),
  (164, 3, .goto (4), 168, 0, 0, 0),
  (167, 1, .iconst (0), 0, 0, 0, 0),
  (168, 3, .if_icmp .ge (87), 255, 0, 0, 0),
  (171, 1, .aload_n (0), 0, 0, 0, 0),
  (172, 2, .iload (5), 0, 0, 0, 0),
  (174, 2, .iload (6), 0, 0, 0, 0),
  (176, 2, .iload (7), 0, 0, 0, 0),
  (178, 3, .invokevirtual (266), 0, 0, 0, 0),
  (181, 2, .istore (8), 0, 0, 0, 0),
  (183, 2, .iload (8), 0, 0, 0, 0),
  (185, 2, .iload (4), 0, 0, 0, 0),
  (187, 3, .if_icmp .le (62), 249, 0, 0, 0),
  (190, 2, .iload (8), 0, 0, 0, 0),
  (192, 2, .istore (4), 0, 0, 0, 0),
  (194, 1, .aload_n (0), 0, 0, 0, 0),
  (195, 3, .getfield (25), 6, 6, 0, 0),
  (198, 2, .bipush (40), 0, 0, 40, 0),
  (200, 1, .iload_n (2), 0, 0, 0, 0),
  (201, 1, .imul, 0, 0, 0, 0),
  (202, 2, .iload (5), 0, 0, 0, 0),
  (204, 1, .iastore, 0, 0, 0, 0),
  (205, 1, .aload_n (0), 0, 0, 0, 0),
  (206, 3, .getfield (25), 6, 6, 0, 0),
  (209, 2, .bipush (40), 0, 0, 40, 0),
  (211, 1, .iload_n (2), 0, 0, 0, 0),
  (212, 1, .imul, 0, 0, 0, 0),
  (213, 1, .iconst (1), 0, 0, 1, 0),
  (214, 1, .iadd, 0, 0, 0, 0),
  (215, 1, .iload_n (1), 0, 0, 0, 0),
  (216, 1, .iconst (1), 0, 0, 1, 0),
  (217, 3, .if_icmp .le (8), 225, 0, 0, 0),
  (220, 2, .iload (6), 0, 0, 0, 0),
  (222, 3, .goto (4), 226, 0, 0, 0),
  (225, 1, .iconst (0), 0, 0, 0, 0),
  (226, 1, .iastore, 0, 0, 0, 0),
  (227, 1, .aload_n (0), 0, 0, 0, 0),
  (228, 3, .getfield (25), 6, 6, 0, 0),
  (231, 2, .bipush (40), 0, 0, 40, 0),
  (233, 1, .iload_n (2), 0, 0, 0, 0),
  (234, 1, .imul, 0, 0, 0, 0),
  (235, 1, .iconst (2), 0, 0, 2, 0),
  (236, 1, .iadd, 0, 0, 0, 0),
  (237, 1, .iload_n (1), 0, 0, 0, 0),
  (238, 1, .iconst (2), 0, 0, 2, 0),
  (239, 3, .if_icmp .le (8), 247, 0, 0, 0),
  (242, 2, .iload (7), 0, 0, 0, 0),
  (244, 3, .goto (4), 248, 0, 0, 0),
  (247, 1, .iconst (0), 0, 0, 0, 0),
  (248, 1, .iastore, 0, 0, 0, 0),
  (249, 3, .iinc (7) (1), 0, 0, 1, 0),
  (252, 3, .goto (-96), 156, 0, 0, 0),
  (255, 3, .iinc (6) (1), 0, 0, 1, 0),
  (258, 3, .goto (-130), 128, 0, 0, 0),
  (261, 3, .iinc (5) (1), 0, 0, 1, 0),
  (264, 3, .goto (-155), 109, 0, 0, 0),
  (267, 2, .iload (4), 0, 0, 0, 0),
  (269, 1, .ireturn, 0, 0, 0, 0)]
def md_Mod_nights : Md := (y_Mod_nights, prog_8_method_88_code, 9, (some .int), pm_Mod_nights)
theorem tk_Mod_nights : Tm md_Mod_nights := tab_of (o := 6) (by decide +kernel)
set_option maxRecDepth 100000 in
theorem ok_Mod_nights : MdOk md_Mod_nights 2 ∧ Cond.instanceMethod md_Mod_nights.1 ∈ T1 ∧ Cond.selects md_Mod_nights.1.cls md_Mod_nights.1 md_Mod_nights.1 ∈ T1 := ⟨⟨T1_in6 (i := 73) rfl rfl, T1_in1 (i := 8) rfl rfl, by decide +kernel, ⟨by decide +kernel, by decide +kernel⟩, by decide +kernel, by decide⟩, T1_in6 (i := 71) rfl rfl, T1_in6 (i := 72) rfl rfl⟩
def pm_Mod_leastIn : List PE := [(0, 2, .bipush (99), 0, 0, 99, 0),
  (2, 2, .istore (4), 0, 0, 0, 0),
  (4, 1, .iconst (0), 0, 0, 0, 0),
  (5, 2, .istore (5), 0, 0, 0, 0),
  (7, 2, .iload (5), 0, 0, 0, 0),
  (9, 1, .aload_n (0), 0, 0, 0, 0),
  (10, 3, .getfield (143), 6, 1, 0, 0),
  (13, 3, .if_icmp .ge (78), 91, 0, 0, 0),
  (16, 1, .aload_n (0), 0, 0, 0, 0),
  (17, 3, .getfield (63), 6, 28, 0, 0),
  (20, 1, .iconst (5), 0, 0, 5, 0),
  (21, 1, .iload_n (1), 0, 0, 0, 0),
  (22, 1, .imul, 0, 0, 0, 0),
  (23, 2, .iload (5), 0, 0, 0, 0),
  (25, 1, .iadd, 0, 0, 0, 0),
  (26, 1, .iaload, 0, 0, 0, 0),
  (27, 1, .iload_n (2), 0, 0, 0, 0),
  (28, 3, .ifCond .ge (7), 35, 0, 0, 0),
  (31, 1, .iconst (0), 0, 0, 0, 0),
  (32, 3, .goto (14), 46, 0, 0, 0),
  (35, 1, .aload_n (0), 0, 0, 0, 0),
  (36, 3, .getfield (63), 6, 28, 0, 0),
  (39, 1, .iconst (5), 0, 0, 5, 0),
  (40, 1, .iload_n (2), 0, 0, 0, 0),
  (41, 1, .imul, 0, 0, 0, 0),
  (42, 2, .iload (5), 0, 0, 0, 0),
  (44, 1, .iadd, 0, 0, 0, 0),
  (45, 1, .iaload, 0, 0, 0, 0),
  (46, 1, .iadd, 0, 0, 0, 0),
  (47, 1, .iload_n (3), 0, 0, 0, 0),
  (48, 3, .ifCond .ge (7), 55, 0, 0, 0),
  (51, 1, .iconst (0), 0, 0, 0, 0),
  (52, 3, .goto (14), 66, 0, 0, 0),
  (55, 1, .aload_n (0), 0, 0, 0, 0),
  (56, 3, .getfield (63), 6, 28, 0, 0),
  (59, 1, .iconst (5), 0, 0, 5, 0),
  (60, 1, .iload_n (3), 0, 0, 0, 0),
  (61, 1, .imul, 0, 0, 0, 0),
  (62, 2, .iload (5), 0, 0, 0, 0),
  (64, 1, .iadd, 0, 0, 0, 0),
  (65, 1, .iaload, 0, 0, 0, 0),
  (66, 1, .iadd, 0, 0, 0, 0),
  (67, 2, .istore (6), 0, 0, 0, 0),
  (69, 2, .iload (6), 0, 0, 0, 0),
  (71, 2, .iload (4), 0, 0, 0, 0),
  (73, 3, .if_icmp .ge (8), 81, 0, 0, 0),
  (76, 2, .iload (6), 0, 0, 0, 0),
  (78, 3, .goto (5), 83, 0, 0, 0),
  (81, 2, .iload (4), 0, 0, 0, 0),
  (83, 2, .istore (4), 0, 0, 0, 0),
  (85, 3, .iinc (5) (1), 0, 0, 1, 0),
  (88, 3, .goto (-81), 7, 0, 0, 0),
  (91, 2, .iload (4), 0, 0, 0, 0),
  (93, 1, .ireturn, 0, 0, 0, 0)]
def md_Mod_leastIn : Md := (y_Mod_leastIn, prog_8_method_87_code, 7, (some .int), pm_Mod_leastIn)
theorem tk_Mod_leastIn : Tm md_Mod_leastIn := tab_of (o := 6) (by decide +kernel)
set_option maxRecDepth 100000 in
theorem ok_Mod_leastIn : MdOk md_Mod_leastIn 3 ∧ Cond.instanceMethod md_Mod_leastIn.1 ∈ T1 ∧ Cond.selects md_Mod_leastIn.1.cls md_Mod_leastIn.1 md_Mod_leastIn.1 ∈ T1 := ⟨⟨T1_in6 (i := 77) rfl rfl, T1_in1 (i := 8) rfl rfl, by decide +kernel, ⟨by decide +kernel, by decide +kernel⟩, by decide +kernel, by decide⟩, T1_in6 (i := 76) rfl rfl, T1_inP (i := 72) rfl⟩
def pm_Mod_nth : List PE := [(0, 1, .iload_n (1), 0, 0, 0, 0),
  (1, 3, .ifCond .lt (10), 11, 0, 0, 0),
  (4, 1, .iload_n (2), 0, 0, 0, 0),
  (5, 3, .invokestatic (80), 0, 0, 0, 0),
  (8, 3, .ifCond .ne (5), 13, 0, 0, 0),
  (11, 1, .iconst (-1), 0, 0, (-1), 0),
  (12, 1, .ireturn, 0, 0, 0, 0),
  (13, 1, .aload_n (0), 0, 0, 0, 0),
  (14, 3, .getfield (143), 6, 1, 0, 0),
  (17, 3, .ifCond .ne (6), 23, 0, 0, 0),
  (20, 2, .bipush (-4), 0, 0, (-4), 0),
  (22, 1, .ireturn, 0, 0, 0, 0),
  (23, 1, .iload_n (1), 0, 0, 0, 0),
  (24, 1, .aload_n (0), 0, 0, 0, 0),
  (25, 3, .invokevirtual (249), 0, 0, 0, 0),
  (28, 3, .if_icmp .lt (9), 37, 0, 0, 0),
  (31, 1, .aload_n (0), 0, 0, 0, 0),
  (32, 1, .iconst (4), 0, 0, 4, 0),
  (33, 3, .invokevirtual (84), 0, 0, 0, 0),
  (36, 1, .ireturn, 0, 0, 0, 0),
  (37, 1, .aload_n (0), 0, 0, 0, 0),
  (38, 1, .iload_n (2), 0, 0, 0, 0),
  (39, 1, .iload_n (1), 0, 0, 0, 0),
  (40, 3, .invokevirtual (259), 0, 0, 0, 0),
  (43, 1, .iconst (1), 0, 0, 1, 0),
  (44, 1, .ireturn, 0, 0, 0, 0)]
def md_Mod_nth : Md := (y_Mod_nth, prog_8_method_89_code, 3, (some .int), pm_Mod_nth)
theorem tk_Mod_nth : Tm md_Mod_nth := tab_of (o := 6) (by decide +kernel)
set_option maxRecDepth 100000 in
theorem ok_Mod_nth : MdOk md_Mod_nth 2 ∧ Cond.instanceMethod md_Mod_nth.1 ∈ T1 ∧ Cond.selects md_Mod_nth.1.cls md_Mod_nth.1 md_Mod_nth.1 ∈ T1 := ⟨⟨T1_in6 (i := 81) rfl rfl, T1_in1 (i := 8) rfl rfl, by decide +kernel, ⟨by decide +kernel, by decide +kernel⟩, by decide +kernel, by decide⟩, T1_in6 (i := 79) rfl rfl, T1_in6 (i := 80) rfl rfl⟩
def pm_Mod_out : List PE := [(0, 1, .aload_n (0), 0, 0, 0, 0),
  (1, 1, .iload_n (1), 0, 0, 0, 0),
  (2, 3, .invokevirtual (198), 0, 0, 0, 0),
  (5, 3, .ifCond .ne (5), 10, 0, 0, 0),
  (8, 1, .iconst (-1), 0, 0, (-1), 0),
  (9, 1, .ireturn, 0, 0, 0, 0),
  (10, 1, .aload_n (0), 0, 0, 0, 0),
  (11, 3, .invokevirtual (204), 0, 0, 0, 0),
  (14, 1, .aload_n (0), 0, 0, 0, 0),
  (15, 1, .iload_n (1), 0, 0, 0, 0),
  (16, 3, .invokevirtual (158), 0, 0, 0, 0),
  (19, 1, .istore_n (2), 0, 0, 0, 0),
  (20, 1, .aload_n (0), 0, 0, 0, 0),
  (21, 1, .iconst (0), 0, 0, 0, 0),
  (22, 3, .putfield (69), 6, 9, 0, 0),
  (25, 1, .iconst (0), 0, 0, 0, 0),
  (26, 1, .istore_n (3), 0, 0, 0, 0),
  (27, 1, .iload_n (3), 0, 0, 0, 0),
  (28, 1, .iload_n (2), 0, 0, 0, 0),
  (29, 3, .if_icmp .ge (45), 74, 0, 0, 0),
  (32, 1, .aload_n (0), 0, 0, 0, 0),
  (33, 1, .dup, 0, 0, 0, 0),
  (34, 3, .getfield (69), 6, 9, 0, 0),
  (37, 1, .aload_n (0), 0, 0, 0, 0),
  (38, 3, .getfield (13), 6, 2, 0, 0),
  (41, 1, .aload_n (0), 0, 0, 0, 0),
  (42, 3, .getfield (47), 6, 20, 0, 0),
  (45, 1, .iload_n (3), 0, 0, 0, 0),
  (46, 1, .iaload, 0, 0, 0, 0),
  (47, 1, .iaload, 0, 0, 0, 0),
  (48, 1, .iconst (5), 0, 0, 5, 0),
  (49, 3, .if_icmp .ne (7), 56, 0, 0, 0),
  (52, 1, .iconst (0), 0, 0, 0, 0),
  (53, 3, .goto (11), 64, 0, 0, 0),
  (56, 1, .iconst (1), 0, 0, 1, 0),
  (57, 1, .aload_n (0), 0, 0, 0, 0),
  (58, 3, .getfield (47), 6, 20, 0, 0),
  (61, 1, .iload_n (3), 0, 0, 0, 0),
  (62, 1, .iaload, 0, 0, 0, 0),
  (63, 1, .ishl, 0, 0, 0, 0),
  (64, 1, .ior, 0, 0, 0, 0),
  (65, 3, .putfield (69), 6, 9, 0, 0),
  (68, 3, .iinc (3) (1), 0, 0, 1, 0),
  (71, 3, .goto (-44), 27, 0, 0, 0),
  (74, 1, .iload_n (2), 0, 0, 0, 0),
  (75, 1, .ireturn, 0, 0, 0, 0)]
def md_Mod_out : Md := (y_Mod_out, prog_8_method_90_code, 4, (some .int), pm_Mod_out)
theorem tk_Mod_out : Tm md_Mod_out := tab_of (o := 6) (by decide +kernel)
set_option maxRecDepth 100000 in
theorem ok_Mod_out : MdOk md_Mod_out 1 ∧ Cond.instanceMethod md_Mod_out.1 ∈ T1 ∧ Cond.selects md_Mod_out.1.cls md_Mod_out.1 md_Mod_out.1 ∈ T1 := ⟨⟨T1_in6 (i := 85) rfl rfl, T1_in1 (i := 8) rfl rfl, by decide +kernel, ⟨by decide +kernel, by decide +kernel⟩, by decide +kernel, by decide⟩, T1_in6 (i := 83) rfl rfl, T1_in6 (i := 84) rfl rfl⟩
def pm_Mod_whose : List PE := [(0, 1, .iload_n (1), 0, 0, 0, 0),
  (1, 3, .invokestatic (80), 0, 0, 0, 0),
  (4, 3, .ifCond .ne (5), 9, 0, 0, 0),
  (7, 1, .iconst (-1), 0, 0, (-1), 0),
  (8, 1, .ireturn, 0, 0, 0, 0),
  (9, 1, .aload_n (0), 0, 0, 0, 0),
  (10, 3, .getfield (143), 6, 1, 0, 0),
  (13, 3, .ifCond .ne (6), 19, 0, 0, 0),
  (16, 2, .bipush (-4), 0, 0, (-4), 0),
  (18, 1, .ireturn, 0, 0, 0, 0),
  (19, 1, .aload_n (0), 0, 0, 0, 0),
  (20, 3, .getfield (22), 6, 5, 0, 0),
  (23, 1, .iload_n (1), 0, 0, 0, 0),
  (24, 1, .iaload, 0, 0, 0, 0),
  (25, 3, .ifCond .ge (9), 34, 0, 0, 0),
  (28, 1, .aload_n (0), 0, 0, 0, 0),
  (29, 1, .iconst (1), 0, 0, 1, 0),
  (30, 3, .invokevirtual (84), 0, 0, 0, 0),
  (33, 1, .ireturn, 0, 0, 0, 0),
  (34, 1, .aload_n (0), 0, 0, 0, 0),
  (35, 3, .getfield (22), 6, 5, 0, 0),
  (38, 1, .iload_n (1), 0, 0, 0, 0),
  (39, 1, .iaload, 0, 0, 0, 0),
  (40, 1, .aload_n (0), 0, 0, 0, 0),
  (41, 3, .getfield (143), 6, 1, 0, 0),
  (44, 3, .if_icmp .eq (9), 53, 0, 0, 0),
  (47, 1, .aload_n (0), 0, 0, 0, 0),
  (48, 1, .iconst (5), 0, 0, 5, 0),
  (49, 3, .invokevirtual (84), 0, 0, 0, 0),
  (52, 1, .ireturn, 0, 0, 0, 0),
  (53, 1, .aload_n (0), 0, 0, 0, 0),
  (54, 1, .iload_n (1), 0, 0, 0, 0),
  (55, 3, .invokevirtual (270), 0, 0, 0, 0),
  (58, 3, .ifCond .ne (9), 67, 0, 0, 0),
  (61, 1, .aload_n (0), 0, 0, 0, 0),
  (62, 1, .iconst (3), 0, 0, 3, 0),
  (63, 3, .invokevirtual (84), 0, 0, 0, 0),
  (66, 1, .ireturn, 0, 0, 0, 0),
  (67, 1, .aload_n (0), 0, 0, 0, 0),
  (68, 3, .invokevirtual (204), 0, 0, 0, 0),
  (71, 1, .iconst (0), 0, 0, 0, 0),
  (72, 1, .istore_n (2), 0, 0, 0, 0),
  (73, 1, .aload_n (0), 0, 0, 0, 0),
  (74, 1, .iconst (0), 0, 0, 0, 0),
  (75, 3, .putfield (69), 6, 9, 0, 0),
  (78, 1, .iconst (0), 0, 0, 0, 0),
  (79, 1, .istore_n (3), 0, 0, 0, 0),
  (80, 1, .iload_n (3), 0, 0, 0, 0),
  (81, 1, .aload_n (0), 0, 0, 0, 0),
  (82, 3, .getfield (143), 6, 1, 0, 0),
  (85, 3, .if_icmp .ge (55), 140, 0, 0, 0),
  (88, 1, .iload_n (2), 0, 0, 0, 0),
  (89, 1, .aload_n (0), 0, 0, 0, 0),
  (90, 1, .iload_n (1), 0, 0, 0, 0),
  (91, 1, .iload_n (3), 0, 0, 0, 0),
  (92, 1, .iconst (1), 0, 0, 1, 0),
  (93, 3, .invokevirtual (273), 0, 0, 0, 0),
  (96, 3, .ifCond .eq (9), 105, 0, 0, 0),
  (99, 1, .iconst (1), 0, 0, 1, 0),
  (100, 1, .iload_n (3), 0, 0, 0, 0),
  (101, 1, .ishl, 0, 0, 0, 0),
  (102, 3, .goto (4), 106, 0, 0, 0),
  (105, 1, .iconst (0), 0, 0, 0, 0),
  (106, 1, .ior, 0, 0, 0, 0),
  (107, 1, .istore_n (2), 0, 0, 0, 0),
  (108, 1, .aload_n (0), 0, 0, 0, 0),
  (109, 1, .dup, 0, 0, 0, 0),
  (110, 3, .getfield (69), 6, 9, 0, 0),
  (113, 1, .aload_n (0), 0, 0, 0, 0),
  (114, 1, .iload_n (1), 0, 0, 0, 0),
  (115, 1, .iload_n (3), 0, 0, 0, 0),
  (116, 1, .iconst (2), 0, 0, 2, 0),
  (117, 3, .invokevirtual (273), 0, 0, 0, 0),
  (120, 3, .ifCond .eq (9), 129, 0, 0, 0),
  (123, 1, .iconst (1), 0, 0, 1, 0),
  (124, 1, .iload_n (3), 0, 0, 0, 0),
  (125, 1, .ishl, 0, 0, 0, 0),
  (126, 3, .goto (4), 130, 0, 0, 0),
  (129, 1, .iconst (0), 0, 0, 0, 0),
  (130, 1, .ior, 0, 0, 0, 0),
  (131, 3, .putfield (69), 6, 9, 0, 0),
  (134, 3, .iinc (3) (1), 0, 0, 1, 0),
  (137, 3, .goto (-57), 80, 0, 0, 0),
  (140, 1, .iload_n (2), 0, 0, 0, 0),
  (141, 1, .ireturn, 0, 0, 0, 0)]
def md_Mod_whose : Md := (y_Mod_whose, prog_8_method_93_code, 4, (some .int), pm_Mod_whose)
theorem tk_Mod_whose : Tm md_Mod_whose := tab_of (o := 6) (by decide +kernel)
set_option maxRecDepth 100000 in
theorem ok_Mod_whose : MdOk md_Mod_whose 1 ∧ Cond.instanceMethod md_Mod_whose.1 ∈ T1 ∧ Cond.selects md_Mod_whose.1.cls md_Mod_whose.1 md_Mod_whose.1 ∈ T1 := ⟨⟨T1_in6 (i := 89) rfl rfl, T1_in1 (i := 8) rfl rfl, by decide +kernel, ⟨by decide +kernel, by decide +kernel⟩, by decide +kernel, by decide⟩, T1_in6 (i := 87) rfl rfl, T1_in6 (i := 88) rfl rfl⟩
def pm_Mod_areHeard : List PE := [(0, 1, .iconst (1), 0, 0, 1, 0),
  (1, 1, .istore_n (2), 0, 0, 0, 0),
  (2, 1, .iconst (0), 0, 0, 0, 0),
  (3, 1, .istore_n (3), 0, 0, 0, 0),
  (4, 1, .iload_n (3), 0, 0, 0, 0),
  (5, 1, .aload_n (0), 0, 0, 0, 0),
  (6, 3, .getfield (143), 6, 1, 0, 0),
  (9, 3, .if_icmp .ge (50), 59, 0, 0, 0),
  (12, 1, .aload_n (0), 0, 0, 0, 0),
  (13, 3, .getfield (25), 6, 6, 0, 0),
  (16, 2, .bipush (40), 0, 0, 40, 0),
  (18, 1, .iload_n (1), 0, 0, 0, 0),
  (19, 1, .imul, 0, 0, 0, 0),
  (20, 1, .iload_n (3), 0, 0, 0, 0),
  (21, 1, .iadd, 0, 0, 0, 0),
  (22, 1, .iaload, 0, 0, 0, 0),
  (23, 2, .istore (4), 0, 0, 0, 0),
  (25, 1, .iload_n (2), 0, 0, 0, 0),
  (26, 3, .ifCond .eq (25), 51, 0, 0, 0),
  (29, 2, .iload (4), 0, 0, 0, 0),
  (31, 3, .ifCond .eq (16), 47, 0, 0, 0),
  (34, 2, .iload (4), 0, 0, 0, 0),
  (36, 1, .iconst (1), 0, 0, 1, 0),
  (37, 3, .if_icmp .eq (10), 47, 0, 0, 0),
  (40, 2, .iload (4), 0, 0, 0, 0),
  (42, 2, .bipush (-9), 0, 0, (-9), 0),
  (44, 3, .if_icmp .ne (7), 51, 0, 0, 0),
  (47, 1, .iconst (1), 0, 0, 1, 0),
  (48, 3, .goto (4), 52, 0, 0, 0),
  (51, 1, .iconst (0), 0, 0, 0, 0),
  (52, 1, .istore_n (2), 0, 0, 0, 0),
  (53, 3, .iinc (3) (1), 0, 0, 1, 0),
  (56, 3, .goto (-52), 4, 0, 0, 0),
  (59, 1, .iload_n (2), 0, 0, 0, 0),
  (60, 1, .ireturn, 0, 0, 0, 0)]
def md_Mod_areHeard : Md := (y_Mod_areHeard, prog_8_method_91_code, 5, (some .boolean), pm_Mod_areHeard)
theorem tk_Mod_areHeard : Tm md_Mod_areHeard := tab_of (o := 6) (by decide +kernel)
set_option maxRecDepth 100000 in
theorem ok_Mod_areHeard : MdOk md_Mod_areHeard 1 ∧ Cond.instanceMethod md_Mod_areHeard.1 ∈ T1 ∧ Cond.selects md_Mod_areHeard.1.cls md_Mod_areHeard.1 md_Mod_areHeard.1 ∈ T1 := ⟨⟨T1_in6 (i := 93) rfl rfl, T1_in1 (i := 8) rfl rfl, by decide +kernel, ⟨by decide +kernel, by decide +kernel⟩, by decide +kernel, by decide⟩, T1_in6 (i := 92) rfl rfl, T1_inP (i := 73) rfl⟩
def pm_Mod_fits : List PE := [(0, 1, .iconst (1), 0, 0, 1, 0),
  (1, 2, .istore (4), 0, 0, 0, 0),
  (3, 1, .iconst (0), 0, 0, 0, 0),
  (4, 2, .istore (5), 0, 0, 0, 0),
  (6, 2, .iload (5), 0, 0, 0, 0),
  (8, 1, .aload_n (0), 0, 0, 0, 0),
  (9, 3, .getfield (143), 6, 1, 0, 0),
  (12, 3, .if_icmp .ge (112), 124, 0, 0, 0),
  (15, 2, .iload (5), 0, 0, 0, 0),
  (17, 1, .aload_n (0), 0, 0, 0, 0),
  (18, 1, .iload_n (2), 0, 0, 0, 0),
  (19, 3, .invokevirtual (158), 0, 0, 0, 0),
  (22, 1, .isub, 0, 0, 0, 0),
  (23, 2, .istore (6), 0, 0, 0, 0),
  (25, 2, .iload (6), 0, 0, 0, 0),
  (27, 3, .ifCond .eq (39), 66, 0, 0, 0),
  (30, 2, .iload (6), 0, 0, 0, 0),
  (32, 1, .i2l, 0, 0, 0, 0),
  (33, 1, .iload_n (3), 0, 0, 0, 0),
  (34, 1, .ineg, 0, 0, 0, 0),
  (35, 1, .i2l, 0, 0, 0, 0),
  (36, 1, .iload_n (3), 0, 0, 0, 0),
  (37, 1, .i2l, 0, 0, 0, 0),
  (38, 3, .invokestatic (74), 0, 0, 0, 0),
  (41, 3, .ifCond .eq (25), 66, 0, 0, 0),
  (44, 1, .aload_n (0), 0, 0, 0, 0),
  (45, 3, .getfield (13), 6, 2, 0, 0),
  (48, 1, .aload_n (0), 0, 0, 0, 0),
  (49, 3, .getfield (47), 6, 20, 0, 0),
  (52, 2, .iload (5), 0, 0, 0, 0),
  (54, 1, .iaload, 0, 0, 0, 0),
  (55, 1, .iaload, 0, 0, 0, 0),
  (56, 3, .invokestatic (174), 0, 0, 0, 0),
  (59, 3, .ifCond .ne (7), 66, 0, 0, 0),
  (62, 1, .iconst (1), 0, 0, 1, 0),
  (63, 3, .goto (4), 67, 0, 0, 0),
  (66, 1, .iconst (0), 0, 0, 0, 0),
  (67, 2, .istore (7), 0, 0, 0, 0),
  (69, 1, .aload_n (0), 0, 0, 0, 0),
  (70, 3, .getfield (25), 6, 6, 0, 0),
  (73, 2, .bipush (40), 0, 0, 40, 0),
  (75, 1, .iload_n (1), 0, 0, 0, 0),
  (76, 1, .imul, 0, 0, 0, 0),
  (77, 2, .iload (5), 0, 0, 0, 0),
  (79, 1, .iadd, 0, 0, 0, 0),
  (80, 1, .iaload, 0, 0, 0, 0),
  (81, 2, .istore (8), 0, 0, 0, 0),
  (83, 2, .iload (4), 0, 0, 0, 0),
  (85, 3, .ifCond .eq (30), 115, 0, 0, 0),
  (88, 2, .iload (8), 0, 0, 0, 0),
  (90, 2, .bipush (-9), 0, 0, (-9), 0),
  (92, 3, .if_icmp .eq (19), 111, 0, 0, 0),
  (95, 2, .iload (7), 0, 0, 0, 0),
  (97, 2, .iload (8), 0, 0, 0, 0),
  (99, 1, .iconst (1), 0, 0, 1, 0),
  (100, 3, .if_icmp .ne (7), 107, 0, 0, 0),
  (103, 1, .iconst (1), 0, 0, 1, 0),
  (104, 3, .goto (4), 108, 0, 0, 0),
  (107, 1, .iconst (0), 0, 0, 0, 0),
  (108, 3, .if_icmp .ne (7), 115, 0, 0, 0),
  (111, 1, .iconst (1), 0, 0, 1, 0),
  (112, 3, .goto (4), 116, 0, 0, 0),
  (115, 1, .iconst (0), 0, 0, 0, 0),
  (116, 2, .istore (4), 0, 0, 0, 0),
  (118, 3, .iinc (5) (1), 0, 0, 1, 0),
  (121, 3, .goto (-115), 6, 0, 0, 0),
  (124, 2, .iload (4), 0, 0, 0, 0),
  (126, 1, .ireturn, 0, 0, 0, 0)]
def md_Mod_fits : Md := (y_Mod_fits, prog_8_method_92_code, 9, (some .boolean), pm_Mod_fits)
theorem tk_Mod_fits : Tm md_Mod_fits := tab_of (o := 6) (by decide +kernel)
set_option maxRecDepth 100000 in
theorem ok_Mod_fits : MdOk md_Mod_fits 3 ∧ Cond.instanceMethod md_Mod_fits.1 ∈ T1 ∧ Cond.selects md_Mod_fits.1.cls md_Mod_fits.1 md_Mod_fits.1 ∈ T1 := ⟨⟨T1_in6 (i := 97) rfl rfl, T1_in1 (i := 8) rfl rfl, by decide +kernel, ⟨by decide +kernel, by decide +kernel⟩, by decide +kernel, by decide⟩, T1_in6 (i := 96) rfl rfl, T1_inP (i := 74) rfl⟩
def pm_Mod_kinds : List PE := [(0, 1, .aload_n (0), 0, 0, 0, 0),
  (1, 1, .iload_n (1), 0, 0, 0, 0),
  (2, 3, .invokevirtual (198), 0, 0, 0, 0),
  (5, 3, .ifCond .ne (5), 10, 0, 0, 0),
  (8, 1, .iconst (-1), 0, 0, (-1), 0),
  (9, 1, .ireturn, 0, 0, 0, 0),
  (10, 1, .aload_n (0), 0, 0, 0, 0),
  (11, 3, .invokevirtual (204), 0, 0, 0, 0),
  (14, 1, .iconst (0), 0, 0, 0, 0),
  (15, 1, .istore_n (3), 0, 0, 0, 0),
  (16, 1, .aload_n (0), 0, 0, 0, 0),
  (17, 1, .iload_n (1), 0, 0, 0, 0),
  (18, 3, .putfield (57), 6, 25, 0, 0),
  (21, 1, .iconst (0), 0, 0, 0, 0),
  (22, 2, .istore (4), 0, 0, 0, 0),
  (24, 2, .iload (4), 0, 0, 0, 0),
  (26, 2, .bipush (6), 0, 0, 6, 0),
  (28, 3, .if_icmp .ge (34), 62, 0, 0, 0),
  (31, 1, .aload_n (0), 0, 0, 0, 0),
  (32, 2, .iload (4), 0, 0, 0, 0),
  (34, 3, .putfield (152), 6, 26, 0, 0),
  (37, 1, .iload_n (3), 0, 0, 0, 0),
  (38, 1, .aload_n (0), 0, 0, 0, 0),
  (39, 3, .invokevirtual (243), 0, 0, 0, 0),
  (42, 1, .iload_n (2), 0, 0, 0, 0),
  (43, 3, .if_icmp .ne (10), 53, 0, 0, 0),
  (46, 1, .iconst (1), 0, 0, 1, 0),
  (47, 2, .iload (4), 0, 0, 0, 0),
  (49, 1, .ishl, 0, 0, 0, 0),
  (50, 3, .goto (4), 54, 0, 0, 0),
  (53, 1, .iconst (0), 0, 0, 0, 0),
  (54, 1, .ior, 0, 0, 0, 0),
  (55, 1, .istore_n (3), 0, 0, 0, 0),
  (56, 3, .iinc (4) (1), 0, 0, 1, 0),
  (59, 3, .goto (-35), 24, 0, 0, 0),
  (62, 1, .aload_n (0), 0, 0, 0, 0),
  (63, 2, .bipush (-9), 0, 0, (-9), 0),
  (65, 3, .putfield (57), 6, 25, 0, 0),
  (68, 1, .iload_n (3), 0, 0, 0, 0),
  (69, 1, .ireturn, 0, 0, 0, 0)]
def md_Mod_kinds : Md := (y_Mod_kinds, prog_8_method_94_code, 5, (some .int), pm_Mod_kinds)
theorem tk_Mod_kinds : Tm md_Mod_kinds := tab_of (o := 6) (by decide +kernel)
set_option maxRecDepth 100000 in
theorem ok_Mod_kinds : MdOk md_Mod_kinds 2 ∧ Cond.instanceMethod md_Mod_kinds.1 ∈ T1 ∧ Cond.selects md_Mod_kinds.1.cls md_Mod_kinds.1 md_Mod_kinds.1 ∈ T1 := ⟨⟨T1_in6 (i := 101) rfl rfl, T1_in1 (i := 8) rfl rfl, by decide +kernel, ⟨by decide +kernel, by decide +kernel⟩, by decide +kernel, by decide⟩, T1_in6 (i := 99) rfl rfl, T1_in6 (i := 100) rfl rfl⟩
def pm_Mod_odds : List PE := [(0, 1, .aload_n (0), 0, 0, 0, 0),
  (1, 1, .iload_n (1), 0, 0, 0, 0),
  (2, 3, .invokevirtual (198), 0, 0, 0, 0),
  (5, 3, .ifCond .eq (22), 27, 0, 0, 0),
  (8, 1, .iload_n (2), 0, 0, 0, 0),
  (9, 3, .invokestatic (240), 0, 0, 0, 0),
  (12, 3, .ifCond .eq (15), 27, 0, 0, 0),
  (15, 1, .iload_n (3), 0, 0, 0, 0),
  (16, 1, .i2l, 0, 0, 0, 0),
  (17, 1, .lconst (0), 0, 0, 0, 0),
  (18, 3, .ldc2_w (276), 0, 0, 0, 12),
  (21, 3, .invokestatic (74), 0, 0, 0, 0),
  (24, 3, .ifCond .ne (5), 29, 0, 0, 0),
  (27, 1, .iconst (-1), 0, 0, (-1), 0),
  (28, 1, .ireturn, 0, 0, 0, 0),
  (29, 1, .aload_n (0), 0, 0, 0, 0),
  (30, 3, .invokevirtual (204), 0, 0, 0, 0),
  (33, 1, .aload_n (0), 0, 0, 0, 0),
  (34, 3, .getfield (13), 6, 2, 0, 0),
  (37, 1, .iload_n (1), 0, 0, 0, 0),
  (38, 1, .iaload, 0, 0, 0, 0),
  (39, 1, .iconst (5), 0, 0, 5, 0),
  (40, 3, .if_icmp .ne (7), 47, 0, 0, 0),
  (43, 1, .iconst (0), 0, 0, 0, 0),
  (44, 3, .goto (15), 59, 0, 0, 0),
  (47, 1, .aload_n (0), 0, 0, 0, 0),
  (48, 3, .getfield (143), 6, 1, 0, 0),
  (51, 1, .iconst (1), 0, 0, 1, 0),
  (52, 1, .isub, 0, 0, 0, 0),
  (53, 1, .aload_n (0), 0, 0, 0, 0),
  (54, 1, .iload_n (1), 0, 0, 0, 0),
  (55, 3, .invokevirtual (158), 0, 0, 0, 0),
  (58, 1, .isub, 0, 0, 0, 0),
  (59, 2, .istore (4), 0, 0, 0, 0),
  (61, 1, .aload_n (0), 0, 0, 0, 0),
  (62, 1, .iload_n (1), 0, 0, 0, 0),
  (63, 1, .iload_n (2), 0, 0, 0, 0),
  (64, 3, .invokevirtual (192), 0, 0, 0, 0),
  (67, 3, .ifCond .ne (7), 74, 0, 0, 0),
  (70, 1, .lconst (1), 0, 0, 0, 1),
  (71, 3, .goto (4), 75, 0, 0, 0),
  (74, 1, .lconst (0), 0, 0, 0, 0),
  (75, 2, .lstore (5), 0, 0, 0, 0),
  (77, 1, .lconst (1), 0, 0, 0, 1),
  (78, 2, .lstore (7), 0, 0, 0, 0),
  (80, 1, .iconst (0), 0, 0, 0, 0),
  (81, 2, .istore (9), 0, 0, 0, 0),
  (83, 2, .iload (9), 0, 0, 0, 0),
  (85, 2, .iload (4), 0, 0, 0, 0),
  (87, 3, .if_icmp .gt (27), 114, 0, 0, 0),
  (90, 2, .lload (5), 0, 0, 0, 0),
  (92, 2, .bipush (12), 0, 0, 12, 0),
  (94, 1, .iload_n (3), 0, 0, 0, 0),
  (95, 1, .isub, 0, 0, 0, 0),
  (96, 1, .i2l, 0, 0, 0, 0),
  (97, 1, .lmul, 0, 0, 0, 0),
  (98, 2, .lstore (5), 0, 0, 0, 0),
  (100, 2, .lload (7), 0, 0, 0, 0),
  (102, 3, .ldc2_w (276), 0, 0, 0, 12),
  (105, 1, .lmul, 0, 0, 0, 0),
  (106, 2, .lstore (7), 0, 0, 0, 0),
  (108, 3, .iinc (9) (1), 0, 0, 1, 0),
  (111, 3, .goto (-28), 83, 0, 0, 0),
  (114, 2, .lload (5), 0, 0, 0, 0),
  (116, 2, .lload (7), 0, 0, 0, 0),
  (118, 3, .invokestatic (278), 0, 0, 0, 0),
  (121, 2, .lstore (9), 0, 0, 0, 0),
  (123, 1, .aload_n (0), 0, 0, 0, 0),
  (124, 2, .lload (5), 0, 0, 0, 0),
  (126, 2, .lload (9), 0, 0, 0, 0),
  (128, 1, .ldiv, 0, 0, 0, 0),
  (129, 3, .putfield (282), 6, 10, 0, 0),
  (132, 1, .aload_n (0), 0, 0, 0, 0),
  (133, 2, .lload (7), 0, 0, 0, 0),
  (135, 2, .lload (9), 0, 0, 0, 0),
  (137, 1, .ldiv, 0, 0, 0, 0),
  (138, 3, .putfield (34), 6, 11, 0, 0),
  (141, 1, .iconst (1), 0, 0, 1, 0),
  (142, 1, .ireturn, 0, 0, 0, 0)]
def md_Mod_odds : Md := (y_Mod_odds, prog_8_method_96_code, 11, (some .int), pm_Mod_odds)
theorem tk_Mod_odds : Tm md_Mod_odds := tab_of (o := 6) (by decide +kernel)
set_option maxRecDepth 100000 in
theorem ok_Mod_odds : MdOk md_Mod_odds 3 ∧ Cond.instanceMethod md_Mod_odds.1 ∈ T1 ∧ Cond.selects md_Mod_odds.1.cls md_Mod_odds.1 md_Mod_odds.1 ∈ T1 := ⟨⟨T1_in6 (i := 105) rfl rfl, T1_in1 (i := 8) rfl rfl, by decide +kernel, ⟨by decide +kernel, by decide +kernel⟩, by decide +kernel, by decide⟩, T1_in6 (i := 103) rfl rfl, T1_in6 (i := 104) rfl rfl⟩
def pm_Mod_divisor : List PE := [(0, 1, .lload_n (0), 0, 0, 0, 0),
  (1, 2, .lstore (4), 0, 0, 0, 0),
  (3, 1, .lload_n (2), 0, 0, 0, 0),
  (4, 2, .lstore (6), 0, 0, 0, 0),
  (6, 2, .lload (6), 0, 0, 0, 0),
  (8, 1, .lconst (0), 0, 0, 0, 0),
  (9, 1, .lcmp, 0, 0, 0, 0),
  (10, 3, .ifCond .eq (21), 31, 0, 0, 0),
  (13, 2, .lload (4), 0, 0, 0, 0),
  (15, 2, .lload (6), 0, 0, 0, 0),
  (17, 1, .lrem, 0, 0, 0, 0),
  (18, 2, .lstore (8), 0, 0, 0, 0),
  (20, 2, .lload (6), 0, 0, 0, 0),
  (22, 2, .lstore (4), 0, 0, 0, 0),
  (24, 2, .lload (8), 0, 0, 0, 0),
  (26, 2, .lstore (6), 0, 0, 0, 0),
  (28, 3, .goto (-22), 6, 0, 0, 0),
  (31, 2, .lload (4), 0, 0, 0, 0),
  (33, 1, .lreturn, 0, 0, 0, 0)]
def md_Mod_divisor : Md := (y_Mod_divisor, prog_8_method_95_code, 10, (some .long), pm_Mod_divisor)
theorem tk_Mod_divisor : Tm md_Mod_divisor := tab_of (o := 6) (by decide +kernel)
set_option maxRecDepth 100000 in
theorem ok_Mod_divisor : MdOk md_Mod_divisor 2 ∧ Cond.static md_Mod_divisor.1 ∈ T1 := ⟨⟨T1_in6 (i := 109) rfl rfl, T1_in1 (i := 8) rfl rfl, by decide +kernel, ⟨by decide +kernel, by decide +kernel⟩, by decide +kernel, by decide⟩, T1_in6 (i := 108) rfl rfl⟩
def pm_Mod_lots : List PE := [(0, 1, .iload_n (1), 0, 0, 0, 0),
  (1, 1, .i2l, 0, 0, 0, 0),
  (2, 1, .lconst (1), 0, 0, 0, 1),
  (3, 3, .ldc2_w (285), 0, 0, 0, 2147483646),
  (6, 3, .invokestatic (74), 0, 0, 0, 0),
  (9, 3, .ifCond .ne (5), 14, 0, 0, 0),
  (12, 1, .iconst (-1), 0, 0, (-1), 0),
  (13, 1, .ireturn, 0, 0, 0, 0),
  (14, 1, .aload_n (0), 0, 0, 0, 0),
  (15, 3, .getfield (143), 6, 1, 0, 0),
  (18, 3, .ifCond .ne (6), 24, 0, 0, 0),
  (21, 2, .bipush (-4), 0, 0, (-4), 0),
  (23, 1, .ireturn, 0, 0, 0, 0),
  (24, 1, .iload_n (1), 0, 0, 0, 0),
  (25, 1, .i2l, 0, 0, 0, 0),
  (26, 1, .lstore_n (2), 0, 0, 0, 0),
  (27, 1, .iconst (1), 0, 0, 1, 0),
  (28, 1, .aload_n (0), 0, 0, 0, 0),
  (29, 3, .getfield (143), 6, 1, 0, 0),
  (32, 1, .ishl, 0, 0, 0, 0),
  (33, 1, .iconst (1), 0, 0, 1, 0),
  (34, 1, .isub, 0, 0, 0, 0),
  (35, 2, .istore (4), 0, 0, 0, 0),
  (37, 1, .iconst (0), 0, 0, 0, 0),
  (38, 2, .istore (5), 0, 0, 0, 0),
  (40, 2, .iload (5), 0, 0, 0, 0),
  (42, 1, .aload_n (0), 0, 0, 0, 0),
  (43, 3, .getfield (143), 6, 1, 0, 0),
  (46, 3, .if_icmp .ge (90), 136, 0, 0, 0),
  (49, 1, .lload_n (2), 0, 0, 0, 0),
  (50, 3, .ldc2_w (287), 0, 0, 0, 48271),
  (53, 1, .lmul, 0, 0, 0, 0),
  (54, 3, .ldc2_w (289), 0, 0, 0, 2147483647),
  (57, 1, .lrem, 0, 0, 0, 0),
  (58, 1, .lstore_n (2), 0, 0, 0, 0),
  (59, 1, .lload_n (2), 0, 0, 0, 0),
  (60, 1, .aload_n (0), 0, 0, 0, 0),
  (61, 3, .getfield (143), 6, 1, 0, 0),
  (64, 2, .iload (5), 0, 0, 0, 0),
  (66, 1, .isub, 0, 0, 0, 0),
  (67, 1, .i2l, 0, 0, 0, 0),
  (68, 1, .lrem, 0, 0, 0, 0),
  (69, 1, .l2i, 0, 0, 0, 0),
  (70, 2, .istore (6), 0, 0, 0, 0),
  (72, 1, .iconst (0), 0, 0, 0, 0),
  (73, 2, .istore (7), 0, 0, 0, 0),
  (75, 2, .iload (4), 0, 0, 0, 0),
  (77, 2, .iload (7), 0, 0, 0, 0),
  (79, 3, .invokestatic (180), 0, 0, 0, 0),
  (82, 3, .ifCond .eq (8), 90, 0, 0, 0),
  (85, 2, .iload (6), 0, 0, 0, 0),
  (87, 3, .ifCond .le (21), 108, 0, 0, 0),
  (90, 2, .iload (6), 0, 0, 0, 0),
  (92, 2, .iload (4), 0, 0, 0, 0),
  (94, 2, .iload (7), 0, 0, 0, 0),
  (96, 1, .ishr, 0, 0, 0, 0),
  (97, 1, .iconst (1), 0, 0, 1, 0),
  (98, 1, .iand, 0, 0, 0, 0),
  (99, 1, .isub, 0, 0, 0, 0),
  (100, 2, .istore (6), 0, 0, 0, 0),
  (102, 3, .iinc (7) (1), 0, 0, 1, 0),
  (105, 3, .goto (-30), 75, 0, 0, 0),
  (108, 1, .aload_n (0), 0, 0, 0, 0),
  (109, 3, .getfield (7), 6, 0, 0, 0),
  (112, 1, .iconst (1), 0, 0, 1, 0),
  (113, 2, .iload (5), 0, 0, 0, 0),
  (115, 1, .iadd, 0, 0, 0, 0),
  (116, 2, .iload (7), 0, 0, 0, 0),
  (118, 1, .iastore, 0, 0, 0, 0),
  (119, 2, .iload (4), 0, 0, 0, 0),
  (121, 1, .iconst (1), 0, 0, 1, 0),
  (122, 2, .iload (7), 0, 0, 0, 0),
  (124, 1, .ishl, 0, 0, 0, 0),
  (125, 1, .iconst (-1), 0, 0, (-1), 0),
  (126, 1, .ixor, 0, 0, 0, 0),
  (127, 1, .iand, 0, 0, 0, 0),
  (128, 2, .istore (4), 0, 0, 0, 0),
  (130, 3, .iinc (5) (1), 0, 0, 1, 0),
  (133, 3, .goto (-93), 40, 0, 0, 0),
  (136, 1, .aload_n (0), 0, 0, 0, 0),
  (137, 3, .invokevirtual (204), 0, 0, 0, 0),
  (140, 1, .aload_n (0), 0, 0, 0, 0),
  (141, 3, .invokevirtual (243), 0, 0, 0, 0),
  (144, 1, .ireturn, 0, 0, 0, 0)]
def md_Mod_lots : Md := (y_Mod_lots, prog_8_method_97_code, 8, (some .int), pm_Mod_lots)
theorem tk_Mod_lots : Tm md_Mod_lots := tab_of (o := 6) (by decide +kernel)
set_option maxRecDepth 100000 in
theorem ok_Mod_lots : MdOk md_Mod_lots 1 ∧ Cond.instanceMethod md_Mod_lots.1 ∈ T1 ∧ Cond.selects md_Mod_lots.1.cls md_Mod_lots.1 md_Mod_lots.1 ∈ T1 := ⟨⟨T1_in6 (i := 113) rfl rfl, T1_in1 (i := 8) rfl rfl, by decide +kernel, ⟨by decide +kernel, by decide +kernel⟩, by decide +kernel, by decide⟩, T1_in6 (i := 111) rfl rfl, T1_in6 (i := 112) rfl rfl⟩
def pm_Mod_asked : List PE := [(0, 1, .aload_n (0), 0, 0, 0, 0),
  (1, 3, .getfield (69), 6, 9, 0, 0),
  (4, 1, .ireturn, 0, 0, 0, 0)]
def md_Mod_asked : Md := (y_Mod_asked, prog_8_method_98_code, 1, (some .int), pm_Mod_asked)
theorem tk_Mod_asked : Tm md_Mod_asked := tab_of (o := 6) (by decide +kernel)
set_option maxRecDepth 100000 in
theorem ok_Mod_asked : MdOk md_Mod_asked 0 ∧ Cond.instanceMethod md_Mod_asked.1 ∈ T1 ∧ Cond.selects md_Mod_asked.1.cls md_Mod_asked.1 md_Mod_asked.1 ∈ T1 := ⟨⟨T1_in6 (i := 120) rfl rfl, T1_in1 (i := 8) rfl rfl, by decide +kernel, ⟨by decide +kernel, by decide +kernel⟩, by decide +kernel, by decide⟩, T1_in6 (i := 118) rfl rfl, T1_in6 (i := 119) rfl rfl⟩
def pm_Mod_upper : List PE := [(0, 1, .aload_n (0), 0, 0, 0, 0),
  (1, 3, .getfield (282), 6, 10, 0, 0),
  (4, 1, .lreturn, 0, 0, 0, 0)]
def md_Mod_upper : Md := (y_Mod_upper, prog_8_method_99_code, 1, (some .long), pm_Mod_upper)
theorem tk_Mod_upper : Tm md_Mod_upper := tab_of (o := 6) (by decide +kernel)
set_option maxRecDepth 100000 in
theorem ok_Mod_upper : MdOk md_Mod_upper 0 ∧ Cond.instanceMethod md_Mod_upper.1 ∈ T1 ∧ Cond.selects md_Mod_upper.1.cls md_Mod_upper.1 md_Mod_upper.1 ∈ T1 := ⟨⟨T1_in6 (i := 124) rfl rfl, T1_in1 (i := 8) rfl rfl, by decide +kernel, ⟨by decide +kernel, by decide +kernel⟩, by decide +kernel, by decide⟩, T1_in6 (i := 122) rfl rfl, T1_in6 (i := 123) rfl rfl⟩
def pm_Mod_lower : List PE := [(0, 1, .aload_n (0), 0, 0, 0, 0),
  (1, 3, .getfield (34), 6, 11, 0, 0),
  (4, 1, .lreturn, 0, 0, 0, 0)]
def md_Mod_lower : Md := (y_Mod_lower, prog_8_method_100_code, 1, (some .long), pm_Mod_lower)
theorem tk_Mod_lower : Tm md_Mod_lower := tab_of (o := 6) (by decide +kernel)
set_option maxRecDepth 100000 in
theorem ok_Mod_lower : MdOk md_Mod_lower 0 ∧ Cond.instanceMethod md_Mod_lower.1 ∈ T1 ∧ Cond.selects md_Mod_lower.1.cls md_Mod_lower.1 md_Mod_lower.1 ∈ T1 := ⟨⟨T1_in6 (i := 128) rfl rfl, T1_in1 (i := 8) rfl rfl, by decide +kernel, ⟨by decide +kernel, by decide +kernel⟩, by decide +kernel, by decide⟩, T1_in6 (i := 126) rfl rfl, T1_in6 (i := 127) rfl rfl⟩
def pm_Mod_count : List PE := [(0, 1, .iload_n (1), 0, 0, 0, 0),
  (1, 1, .i2l, 0, 0, 0, 0),
  (2, 1, .lconst (0), 0, 0, 0, 0),
  (3, 3, .ldc2_w (294), 0, 0, 0, 8),
  (6, 3, .invokestatic (74), 0, 0, 0, 0),
  (9, 3, .ifCond .eq (11), 20, 0, 0, 0),
  (12, 1, .aload_n (0), 0, 0, 0, 0),
  (13, 1, .iload_n (1), 0, 0, 0, 0),
  (14, 3, .invokevirtual (296), 0, 0, 0, 0),
  (17, 3, .goto (4), 21, 0, 0, 0),
  (20, 1, .iconst (-1), 0, 0, (-1), 0),
  (21, 1, .ireturn, 0, 0, 0, 0)]
def md_Mod_count : Md := (y_Mod_count, prog_8_method_103_code, 2, (some .int), pm_Mod_count)
theorem tk_Mod_count : Tm md_Mod_count := tab_of (o := 6) (by decide +kernel)
set_option maxRecDepth 100000 in
theorem ok_Mod_count : MdOk md_Mod_count 1 ∧ Cond.instanceMethod md_Mod_count.1 ∈ T1 ∧ Cond.selects md_Mod_count.1.cls md_Mod_count.1 md_Mod_count.1 ∈ T1 := ⟨⟨T1_in6 (i := 132) rfl rfl, T1_in1 (i := 8) rfl rfl, by decide +kernel, ⟨by decide +kernel, by decide +kernel⟩, by decide +kernel, by decide⟩, T1_in6 (i := 130) rfl rfl, T1_in6 (i := 131) rfl rfl⟩
def pm_Mod_countOf : List PE := [(0, 1, .iload_n (1), 0, 0, 0, 0),
  (1, 39, .tableswitch (80) (0) (5) #[(39), (44), (51), (59), (67), (75)], 0, 0, 0, 0),
  (40, 1, .aload_n (0), 0, 0, 0, 0),
  (41, 3, .getfield (143), 6, 1, 0, 0),
  (44, 1, .ireturn, 0, 0, 0, 0),
  (45, 1, .aload_n (0), 0, 0, 0, 0),
  (46, 3, .getfield (7), 6, 0, 0, 0),
  (49, 1, .iconst (0), 0, 0, 0, 0),
  (50, 1, .iaload, 0, 0, 0, 0),
  (51, 1, .ireturn, 0, 0, 0, 0),
  (52, 1, .aload_n (0), 0, 0, 0, 0),
  (53, 3, .getfield (7), 6, 0, 0, 0),
  (56, 2, .bipush (14), 0, 0, 14, 0),
  (58, 1, .iaload, 0, 0, 0, 0),
  (59, 1, .ireturn, 0, 0, 0, 0),
  (60, 1, .aload_n (0), 0, 0, 0, 0),
  (61, 3, .getfield (7), 6, 0, 0, 0),
  (64, 2, .bipush (13), 0, 0, 13, 0),
  (66, 1, .iaload, 0, 0, 0, 0),
  (67, 1, .ireturn, 0, 0, 0, 0),
  (68, 1, .aload_n (0), 0, 0, 0, 0),
  (69, 3, .getfield (7), 6, 0, 0, 0),
  (72, 2, .bipush (11), 0, 0, 11, 0),
  (74, 1, .iaload, 0, 0, 0, 0),
  (75, 1, .ireturn, 0, 0, 0, 0),
  (76, 1, .aload_n (0), 0, 0, 0, 0),
  (77, 3, .invokevirtual (216), 0, 0, 0, 0),
  (80, 1, .ireturn, 0, 0, 0, 0),
  (81, 1, .aload_n (0), 0, 0, 0, 0),
  (82, 1, .iload_n (1), 0, 0, 0, 0),
  (83, 3, .invokevirtual (291), 0, 0, 0, 0),
  (86, 1, .ireturn, 0, 0, 0, 0)]
def md_Mod_countOf : Md := (y_Mod_countOf, prog_8_method_102_code, 2, (some .int), pm_Mod_countOf)
theorem tk_Mod_countOf : Tm md_Mod_countOf := tab_of (o := 6) (by decide +kernel)
set_option maxRecDepth 100000 in
theorem ok_Mod_countOf : MdOk md_Mod_countOf 1 ∧ Cond.instanceMethod md_Mod_countOf.1 ∈ T1 ∧ Cond.selects md_Mod_countOf.1.cls md_Mod_countOf.1 md_Mod_countOf.1 ∈ T1 := ⟨⟨T1_in6 (i := 137) rfl rfl, T1_in1 (i := 8) rfl rfl, by decide +kernel, ⟨by decide +kernel, by decide +kernel⟩, by decide +kernel, by decide⟩, T1_in6 (i := 136) rfl rfl, T1_inP (i := 75) rfl⟩
def pm_Mod_thereOf : List PE := [(0, 1, .iconst (0), 0, 0, 0, 0),
  (1, 1, .istore_n (2), 0, 0, 0, 0),
  (2, 1, .iconst (0), 0, 0, 0, 0),
  (3, 1, .istore_n (3), 0, 0, 0, 0),
  (4, 1, .iload_n (3), 0, 0, 0, 0),
  (5, 2, .bipush (6), 0, 0, 6, 0),
  (7, 3, .if_icmp .ge (90), 97, 0, 0, 0),
  (10, 1, .iload_n (2), 0, 0, 0, 0),
  (11, 1, .iload_n (1), 0, 0, 0, 0),
  (12, 2, .bipush (6), 0, 0, 6, 0),
  (14, 3, .if_icmp .ne (20), 34, 0, 0, 0),
  (17, 1, .aload_n (0), 0, 0, 0, 0),
  (18, 3, .getfield (22), 6, 5, 0, 0),
  (21, 1, .iload_n (3), 0, 0, 0, 0),
  (22, 1, .iaload, 0, 0, 0, 0),
  (23, 3, .ifCond .ge (7), 30, 0, 0, 0),
  (26, 1, .iconst (0), 0, 0, 0, 0),
  (27, 3, .goto (62), 89, 0, 0, 0),
  (30, 1, .iconst (1), 0, 0, 1, 0),
  (31, 3, .goto (58), 89, 0, 0, 0),
  (34, 1, .iload_n (1), 0, 0, 0, 0),
  (35, 2, .bipush (7), 0, 0, 7, 0),
  (37, 3, .if_icmp .ne (25), 62, 0, 0, 0),
  (40, 1, .iload_n (3), 0, 0, 0, 0),
  (41, 1, .iconst (4), 0, 0, 4, 0),
  (42, 3, .if_icmp .ge (16), 58, 0, 0, 0),
  (45, 1, .aload_n (0), 0, 0, 0, 0),
  (46, 3, .getfield (28), 6, 7, 0, 0),
  (49, 1, .iload_n (3), 0, 0, 0, 0),
  (50, 1, .iaload, 0, 0, 0, 0),
  (51, 3, .ifCond .lt (7), 58, 0, 0, 0),
  (54, 1, .iconst (1), 0, 0, 1, 0),
  (55, 3, .goto (34), 89, 0, 0, 0),
  (58, 1, .iconst (0), 0, 0, 0, 0),
  (59, 3, .goto (30), 89, 0, 0, 0),
  (62, 1, .iload_n (3), 0, 0, 0, 0),
  (63, 1, .iconst (3), 0, 0, 3, 0),
  (64, 3, .if_icmp .ge (24), 88, 0, 0, 0),
  (67, 1, .aload_n (0), 0, 0, 0, 0),
  (68, 3, .getfield (7), 6, 0, 0, 0),
  (71, 3, .sipush (1026), 0, 0, 1026, 0),
  (74, 1, .iconst (1), 0, 0, 1, 0),
  (75, 1, .iload_n (3), 0, 0, 0, 0),
  (76, 1, .iadd, 0, 0, 0, 0),
  (77, 1, .imul, 0, 0, 0, 0),
  (78, 1, .iconst (0), 0, 0, 0, 0),
  (79, 1, .iadd, 0, 0, 0, 0),
  (80, 1, .iaload, 0, 0, 0, 0),
  (81, 3, .ifCond .lt (7), 88, 0, 0, 0),
  (84, 1, .iconst (1), 0, 0, 1, 0),
  (85, 3, .goto (4), 89, 0, 0, 0),
  (88, 1, .iconst (0), 0, 0, 0, 0),
  (89, 1, .iadd, 0, 0, 0, 0),
  (90, 1, .istore_n (2), 0, 0, 0, 0),
  (91, 3, .iinc (3) (1), 0, 0, 1, 0),
  (94, 3, .goto (-90), 4, 0, 0, 0),
  (97, 1, .iload_n (2), 0, 0, 0, 0),
  (98, 1, .ireturn, 0, 0, 0, 0)]
def md_Mod_thereOf : Md := (y_Mod_thereOf, prog_8_method_101_code, 4, (some .int), pm_Mod_thereOf)
theorem tk_Mod_thereOf : Tm md_Mod_thereOf := tab_of (o := 6) (by decide +kernel)
set_option maxRecDepth 100000 in
theorem ok_Mod_thereOf : MdOk md_Mod_thereOf 1 ∧ Cond.instanceMethod md_Mod_thereOf.1 ∈ T1 ∧ Cond.selects md_Mod_thereOf.1.cls md_Mod_thereOf.1 md_Mod_thereOf.1 ∈ T1 := ⟨⟨T1_in6 (i := 141) rfl rfl, T1_in1 (i := 8) rfl rfl, by decide +kernel, ⟨by decide +kernel, by decide +kernel⟩, by decide +kernel, by decide⟩, T1_in6 (i := 140) rfl rfl, T1_inP (i := 76) rfl⟩
def pm_Mod_finding : List PE := [(0, 1, .aload_n (0), 0, 0, 0, 0),
  (1, 3, .getfield (66), 6, 12, 0, 0),
  (4, 1, .ireturn, 0, 0, 0, 0)]
def md_Mod_finding : Md := (y_Mod_finding, prog_8_method_104_code, 1, (some .int), pm_Mod_finding)
theorem tk_Mod_finding : Tm md_Mod_finding := tab_of (o := 6) (by decide +kernel)
set_option maxRecDepth 100000 in
theorem ok_Mod_finding : MdOk md_Mod_finding 0 ∧ Cond.instanceMethod md_Mod_finding.1 ∈ T1 ∧ Cond.selects md_Mod_finding.1.cls md_Mod_finding.1 md_Mod_finding.1 ∈ T1 := ⟨⟨T1_in6 (i := 145) rfl rfl, T1_in1 (i := 8) rfl rfl, by decide +kernel, ⟨by decide +kernel, by decide +kernel⟩, by decide +kernel, by decide⟩, T1_in6 (i := 143) rfl rfl, T1_in6 (i := 144) rfl rfl⟩
def pm_Mod_findings : List PE := [(0, 1, .iload_n (1), 0, 0, 0, 0),
  (1, 1, .i2l, 0, 0, 0, 0),
  (2, 1, .lconst (1), 0, 0, 0, 1),
  (3, 3, .ldc2_w (72), 0, 0, 0, 5),
  (6, 3, .invokestatic (74), 0, 0, 0, 0),
  (9, 3, .ifCond .eq (12), 21, 0, 0, 0),
  (12, 1, .aload_n (0), 0, 0, 0, 0),
  (13, 3, .getfield (38), 6, 13, 0, 0),
  (16, 1, .iload_n (1), 0, 0, 0, 0),
  (17, 1, .iaload, 0, 0, 0, 0),
  (18, 3, .goto (4), 22, 0, 0, 0),
  (21, 1, .iconst (-1), 0, 0, (-1), 0),
  (22, 1, .ireturn, 0, 0, 0, 0)]
def md_Mod_findings : Md := (y_Mod_findings, prog_8_method_105_code, 2, (some .int), pm_Mod_findings)
theorem tk_Mod_findings : Tm md_Mod_findings := tab_of (o := 6) (by decide +kernel)
set_option maxRecDepth 100000 in
theorem ok_Mod_findings : MdOk md_Mod_findings 1 ∧ Cond.instanceMethod md_Mod_findings.1 ∈ T1 ∧ Cond.selects md_Mod_findings.1.cls md_Mod_findings.1 md_Mod_findings.1 ∈ T1 := ⟨⟨T1_in6 (i := 149) rfl rfl, T1_in1 (i := 8) rfl rfl, by decide +kernel, ⟨by decide +kernel, by decide +kernel⟩, by decide +kernel, by decide⟩, T1_in6 (i := 147) rfl rfl, T1_in6 (i := 148) rfl rfl⟩
def pm_Mod_digest : List PE := [(0, 3, .ldc2_w (299), 0, 0, 0, 17),
  (3, 1, .lstore_n (1), 0, 0, 0, 0),
  (4, 1, .iconst (0), 0, 0, 0, 0),
  (5, 1, .istore_n (3), 0, 0, 0, 0),
  (6, 1, .iload_n (3), 0, 0, 0, 0),
  (7, 2, .bipush (9), 0, 0, 9, 0),
  (9, 3, .if_icmp .ge (22), 31, 0, 0, 0),
  (12, 3, .ldc2_w (301), 0, 0, 0, 31),
  (15, 1, .lload_n (1), 0, 0, 0, 0),
  (16, 1, .lmul, 0, 0, 0, 0),
  (17, 1, .aload_n (0), 0, 0, 0, 0),
  (18, 1, .iload_n (3), 0, 0, 0, 0),
  (19, 3, .invokevirtual (296), 0, 0, 0, 0),
  (22, 1, .i2l, 0, 0, 0, 0),
  (23, 1, .ladd, 0, 0, 0, 0),
  (24, 1, .lstore_n (1), 0, 0, 0, 0),
  (25, 3, .iinc (3) (1), 0, 0, 1, 0),
  (28, 3, .goto (-22), 6, 0, 0, 0),
  (31, 3, .ldc2_w (301), 0, 0, 0, 31),
  (34, 1, .lload_n (1), 0, 0, 0, 0),
  (35, 1, .lmul, 0, 0, 0, 0),
  (36, 1, .aload_n (0), 0, 0, 0, 0),
  (37, 3, .getfield (7), 6, 0, 0, 0),
  (40, 2, .bipush (12), 0, 0, 12, 0),
  (42, 1, .iaload, 0, 0, 0, 0),
  (43, 1, .i2l, 0, 0, 0, 0),
  (44, 1, .ladd, 0, 0, 0, 0),
  (45, 1, .lstore_n (1), 0, 0, 0, 0),
  (46, 1, .iconst (0), 0, 0, 0, 0),
  (47, 1, .istore_n (3), 0, 0, 0, 0),
  (48, 1, .iload_n (3), 0, 0, 0, 0),
  (49, 2, .bipush (6), 0, 0, 6, 0),
  (51, 1, .aload_n (0), 0, 0, 0, 0),
  (52, 3, .getfield (143), 6, 1, 0, 0),
  (55, 1, .imul, 0, 0, 0, 0),
  (56, 3, .if_icmp .ge (29), 85, 0, 0, 0),
  (59, 3, .ldc2_w (301), 0, 0, 0, 31),
  (62, 1, .lload_n (1), 0, 0, 0, 0),
  (63, 1, .lmul, 0, 0, 0, 0),
  (64, 1, .aload_n (0), 0, 0, 0, 0),
  (65, 1, .iload_n (3), 0, 0, 0, 0),
  (66, 2, .bipush (6), 0, 0, 6, 0),
  (68, 1, .idiv, 0, 0, 0, 0),
  (69, 1, .iload_n (3), 0, 0, 0, 0),
  (70, 2, .bipush (6), 0, 0, 6, 0),
  (72, 1, .irem, 0, 0, 0, 0),
  (73, 3, .invokevirtual (201), 0, 0, 0, 0),
  (76, 1, .i2l, 0, 0, 0, 0),
  (77, 1, .ladd, 0, 0, 0, 0),
  (78, 1, .lstore_n (1), 0, 0, 0, 0),
  (79, 3, .iinc (3) (1), 0, 0, 1, 0),
  (82, 3, .goto (-34), 48, 0, 0, 0),
  (85, 1, .iconst (1), 0, 0, 1, 0),
  (86, 1, .istore_n (3), 0, 0, 0, 0),
  (87, 1, .iload_n (3), 0, 0, 0, 0),
  (88, 1, .iconst (4), 0, 0, 4, 0),
  (89, 3, .if_icmp .ge (29), 118, 0, 0, 0),
  (92, 3, .ldc2_w (301), 0, 0, 0, 31),
  (95, 1, .lload_n (1), 0, 0, 0, 0),
  (96, 1, .lmul, 0, 0, 0, 0),
  (97, 1, .aload_n (0), 0, 0, 0, 0),
  (98, 3, .getfield (7), 6, 0, 0, 0),
  (101, 3, .sipush (1026), 0, 0, 1026, 0),
  (104, 1, .iload_n (3), 0, 0, 0, 0),
  (105, 1, .imul, 0, 0, 0, 0),
  (106, 1, .iconst (0), 0, 0, 0, 0),
  (107, 1, .iadd, 0, 0, 0, 0),
  (108, 1, .iaload, 0, 0, 0, 0),
  (109, 1, .i2l, 0, 0, 0, 0),
  (110, 1, .ladd, 0, 0, 0, 0),
  (111, 1, .lstore_n (1), 0, 0, 0, 0),
  (112, 3, .iinc (3) (1), 0, 0, 1, 0),
  (115, 3, .goto (-28), 87, 0, 0, 0),
  (118, 1, .iconst (0), 0, 0, 0, 0),
  (119, 1, .istore_n (3), 0, 0, 0, 0),
  (120, 1, .iload_n (3), 0, 0, 0, 0),
  (121, 2, .bipush (6), 0, 0, 6, 0),
  (123, 3, .if_icmp .ge (63), 186, 0, 0, 0),
  (126, 3, .ldc2_w (301), 0, 0, 0, 31),
  (129, 1, .lload_n (1), 0, 0, 0, 0),
  (130, 1, .lmul, 0, 0, 0, 0),
  (131, 1, .aload_n (0), 0, 0, 0, 0),
  (132, 3, .getfield (22), 6, 5, 0, 0),
  (135, 1, .iload_n (3), 0, 0, 0, 0),
  (136, 1, .iaload, 0, 0, 0, 0),
  (137, 1, .i2l, 0, 0, 0, 0),
  (138, 1, .ladd, 0, 0, 0, 0),
  (139, 1, .lstore_n (1), 0, 0, 0, 0),
  (140, 1, .iconst (0), 0, 0, 0, 0),
  (141, 2, .istore (4), 0, 0, 0, 0),
  (143, 2, .iload (4), 0, 0, 0, 0),
  (145, 1, .aload_n (0), 0, 0, 0, 0),
  (146, 3, .getfield (22), 6, 5, 0, 0),
  (149, 1, .iload_n (3), 0, 0, 0, 0),
  (150, 1, .iaload, 0, 0, 0, 0),
  (151, 3, .if_icmp .ge (29), 180, 0, 0, 0),
  (154, 3, .ldc2_w (301), 0, 0, 0, 31),
  (157, 1, .lload_n (1), 0, 0, 0, 0),
  (158, 1, .lmul, 0, 0, 0, 0),
  (159, 1, .aload_n (0), 0, 0, 0, 0),
  (160, 3, .getfield (25), 6, 6, 0, 0),
  (163, 2, .bipush (40), 0, 0, 40, 0),
  (165, 1, .iload_n (3), 0, 0, 0, 0),
  (166, 1, .imul, 0, 0, 0, 0),
  (167, 2, .iload (4), 0, 0, 0, 0),
  (169, 1, .iadd, 0, 0, 0, 0),
  (170, 1, .iaload, 0, 0, 0, 0),
  (171, 1, .i2l, 0, 0, 0, 0),
  (172, 1, .ladd, 0, 0, 0, 0),
  (173, 1, .lstore_n (1), 0, 0, 0, 0),
  (174, 3, .iinc (4) (1), 0, 0, 1, 0),
  (177, 3, .goto (-34), 143, 0, 0, 0),
  (180, 3, .iinc (3) (1), 0, 0, 1, 0),
  (183, 3, .goto (-63), 120, 0, 0, 0),
  (186, 1, .iconst (0), 0, 0, 0, 0),
  (187, 1, .istore_n (3), 0, 0, 0, 0),
  (188, 1, .iload_n (3), 0, 0, 0, 0),
  (189, 1, .iconst (4), 0, 0, 4, 0),
  (190, 3, .if_icmp .ge (63), 253, 0, 0, 0),
  (193, 3, .ldc2_w (301), 0, 0, 0, 31),
  (196, 1, .lload_n (1), 0, 0, 0, 0),
  (197, 1, .lmul, 0, 0, 0, 0),
  (198, 1, .aload_n (0), 0, 0, 0, 0),
  (199, 3, .getfield (28), 6, 7, 0, 0),
  (202, 1, .iload_n (3), 0, 0, 0, 0),
  (203, 1, .iaload, 0, 0, 0, 0),
  (204, 1, .i2l, 0, 0, 0, 0),
  (205, 1, .ladd, 0, 0, 0, 0),
  (206, 1, .lstore_n (1), 0, 0, 0, 0),
  (207, 1, .iconst (0), 0, 0, 0, 0),
  (208, 2, .istore (4), 0, 0, 0, 0),
  (210, 2, .iload (4), 0, 0, 0, 0),
  (212, 1, .aload_n (0), 0, 0, 0, 0),
  (213, 3, .getfield (28), 6, 7, 0, 0),
  (216, 1, .iload_n (3), 0, 0, 0, 0),
  (217, 1, .iaload, 0, 0, 0, 0),
  (218, 3, .if_icmp .ge (29), 247, 0, 0, 0),
  (221, 3, .ldc2_w (301), 0, 0, 0, 31),
  (224, 1, .lload_n (1), 0, 0, 0, 0),
  (225, 1, .lmul, 0, 0, 0, 0),
  (226, 1, .aload_n (0), 0, 0, 0, 0),
  (227, 3, .getfield (31), 6, 8, 0, 0),
  (230, 2, .bipush (60), 0, 0, 60, 0),
  (232, 1, .iload_n (3), 0, 0, 0, 0),
  (233, 1, .imul, 0, 0, 0, 0),
  (234, 2, .iload (4), 0, 0, 0, 0),
  (236, 1, .iadd, 0, 0, 0, 0),
  (237, 1, .iaload, 0, 0, 0, 0),
  (238, 1, .i2l, 0, 0, 0, 0),
  (239, 1, .ladd, 0, 0, 0, 0),
  (240, 1, .lstore_n (1), 0, 0, 0, 0),
  (241, 3, .iinc (4) (1), 0, 0, 1, 0),
  (244, 3, .goto (-34), 210, 0, 0, 0),
  (247, 3, .iinc (3) (1), 0, 0, 1, 0),
  (250, 3, .goto (-62), 188, 0, 0, 0),
  (253, 1, .lload_n (1), 0, 0, 0, 0),
  (254, 1, .lreturn, 0, 0, 0, 0)]
def md_Mod_digest : Md := (y_Mod_digest, prog_8_method_106_code, 5, (some .long), pm_Mod_digest)
theorem tk_Mod_digest : Tm md_Mod_digest := tab_of (o := 6) (by decide +kernel)
set_option maxRecDepth 100000 in
theorem ok_Mod_digest : MdOk md_Mod_digest 0 ∧ Cond.instanceMethod md_Mod_digest.1 ∈ T1 ∧ Cond.selects md_Mod_digest.1.cls md_Mod_digest.1 md_Mod_digest.1 ∈ T1 := ⟨⟨T1_in6 (i := 153) rfl rfl, T1_in1 (i := 8) rfl rfl, by decide +kernel, ⟨by decide +kernel, by decide +kernel⟩, by decide +kernel, by decide⟩, T1_in6 (i := 151) rfl rfl, T1_in6 (i := 152) rfl rfl⟩
set_option maxRecDepth 100000 in
theorem lk_4_20 : Cond.methodLink "TentMiddle$Shelf" 20 y_Arrays_fill2 ∈ T1 := T1_in1 (i := 26) rfl rfl
set_option maxRecDepth 100000 in
theorem lk_7_13 : Cond.methodLink "TentMiddleLaw" 13 y_Tent_row ∈ T1 := T1_in1 (i := 223) rfl rfl
set_option maxRecDepth 100000 in
theorem lk_5_66 : Cond.methodLink "TentMiddle" 66 y_Tent_makeIn ∈ T1 := T1_in1 (i := 227) rfl rfl
set_option maxRecDepth 100000 in
theorem lk_5_93 : Cond.methodLink "TentMiddle" 93 y_Shelf_isNumber ∈ T1 := T1_in1 (i := 231) rfl rfl
set_option maxRecDepth 100000 in
theorem lk_5_97 : Cond.methodLink "TentMiddle" 97 y_Tent_found ∈ T1 := T1_in1 (i := 235) rfl rfl
set_option maxRecDepth 100000 in
theorem lk_5_337 : Cond.methodLink "TentMiddle" 337 y_Shelf_make ∈ T1 := T1_in1 (i := 239) rfl rfl
set_option maxRecDepth 100000 in
theorem lk_4_30 : Cond.methodLink "TentMiddle$Shelf" 30 y_Shelf_isNumber ∈ T1 := T1_in2 (i := 3) rfl rfl
set_option maxRecDepth 100000 in
theorem lk_4_34 : Cond.methodLink "TentMiddle$Shelf" 34 y_Arrays_fill4 ∈ T1 := T1_in2 (i := 4) rfl rfl
set_option maxRecDepth 100000 in
theorem lk_10_13 : Cond.methodLink "java/util/Arrays" 13 y_Arrays_rangeCheck ∈ T1 := T1_in2 (i := 7) rfl rfl
set_option maxRecDepth 100000 in
theorem lk_7_18 : Cond.methodLink "TentMiddleLaw" 18 y_Tent_lay ∈ T1 := T1_in2 (i := 10) rfl rfl
set_option maxRecDepth 100000 in
theorem lk_5_70 : Cond.methodLink "TentMiddle" 70 y_Tent_refusePlace ∈ T1 := T1_in2 (i := 14) rfl rfl
set_option maxRecDepth 100000 in
theorem lk_5_86 : Cond.methodLink "TentMiddle" 86 y_Tent_refuseMissing ∈ T1 := T1_in2 (i := 18) rfl rfl
set_option maxRecDepth 100000 in
theorem lk_5_101 : Cond.methodLink "TentMiddle" 101 y_Shelf_isThere ∈ T1 := T1_in2 (i := 22) rfl rfl
set_option maxRecDepth 100000 in
theorem lk_4_26 : Cond.methodLink "TentMiddle$Shelf" 26 y_Shelf_sizeOf ∈ T1 := T1_in2 (i := 26) rfl rfl
set_option maxRecDepth 100000 in
theorem lk_5_340 : Cond.methodLink "TentMiddle" 340 y_Shelf_hasPlace ∈ T1 := T1_in2 (i := 30) rfl rfl
set_option maxRecDepth 100000 in
theorem lk_5_74 : Cond.methodLink "TentMiddle" 74 y_Shelf_get ∈ T1 := T1_in2 (i := 34) rfl rfl
set_option maxRecDepth 100000 in
theorem lk_4_37 : Cond.methodLink "TentMiddle$Shelf" 37 y_Shelf_hasPlace ∈ T1 := T1_in2 (i := 38) rfl rfl
set_option maxRecDepth 100000 in
theorem lk_5_82 : Cond.methodLink "TentMiddle" 82 y_Shelf_set ∈ T1 := T1_in2 (i := 39) rfl rfl
set_option maxRecDepth 100000 in
theorem lk_7_23 : Cond.methodLink "TentMiddleLaw" 23 y_Tent_at ∈ T1 := T1_in2 (i := 43) rfl rfl
set_option maxRecDepth 100000 in
theorem lk_7_27 : Cond.methodLink "TentMiddleLaw" 27 y_Tent_tear ∈ T1 := T1_in2 (i := 47) rfl rfl
set_option maxRecDepth 100000 in
theorem lk_5_90 : Cond.methodLink "TentMiddle" 90 y_Shelf_remove ∈ T1 := T1_in2 (i := 51) rfl rfl
set_option maxRecDepth 100000 in
theorem lk_7_32 : Cond.methodLink "TentMiddleLaw" 32 y_Tent_copy ∈ T1 := T1_in2 (i := 55) rfl rfl
set_option maxRecDepth 100000 in
theorem lk_5_104 : Cond.methodLink "TentMiddle" 104 y_Shelf_hasSpan ∈ T1 := T1_in2 (i := 59) rfl rfl
set_option maxRecDepth 100000 in
theorem lk_5_108 : Cond.methodLink "TentMiddle" 108 y_Shelf_move ∈ T1 := T1_in2 (i := 63) rfl rfl
set_option maxRecDepth 100000 in
theorem lk_4_41 : Cond.methodLink "TentMiddle$Shelf" 41 y_Shelf_hasSpan ∈ T1 := T1_in2 (i := 67) rfl rfl
set_option maxRecDepth 100000 in
theorem lk_4_45 : Cond.methodLink "TentMiddle$Shelf" 45 arraycopyName ∈ T1 := T1_in2 (i := 68) rfl rfl
set_option maxRecDepth 100000 in
theorem lk_7_37 : Cond.methodLink "TentMiddleLaw" 37 y_Tent_mean ∈ T1 := T1_in2 (i := 71) rfl rfl
set_option maxRecDepth 100000 in
theorem lk_5_112 : Cond.methodLink "TentMiddle" 112 y_Shelf_sizeOf ∈ T1 := T1_in2 (i := 75) rfl rfl
set_option maxRecDepth 100000 in
theorem lk_5_115 : Cond.methodLink "TentMiddle" 115 y_Shelf_sum ∈ T1 := T1_in2 (i := 76) rfl rfl
set_option maxRecDepth 100000 in
theorem lk_4_51 : Cond.methodLink "TentMiddle$Shelf" 51 y_Shelf_get ∈ T1 := T1_in2 (i := 80) rfl rfl
set_option maxRecDepth 100000 in
theorem lk_7_41 : Cond.methodLink "TentMiddleLaw" 41 y_Tent_text ∈ T1 := T1_in2 (i := 81) rfl rfl
set_option maxRecDepth 100000 in
theorem lk_7_45 : Cond.methodLink "TentMiddleLaw" 45 y_Tent_put ∈ T1 := T1_in2 (i := 85) rfl rfl
set_option maxRecDepth 100000 in
theorem lk_7_49 : Cond.methodLink "TentMiddleLaw" 49 y_Tent_fault ∈ T1 := T1_in2 (i := 89) rfl rfl
set_option maxRecDepth 100000 in
theorem lk_5_119 : Cond.methodLink "TentMiddle" 119 y_Reader_read ∈ T1 := T1_in2 (i := 93) rfl rfl
set_option maxRecDepth 100000 in
theorem lk_3_24 : Cond.methodLink "TentMiddle$Reader" 24 y_Reader_take ∈ T1 := T1_in2 (i := 97) rfl rfl
set_option maxRecDepth 100000 in
theorem lk_3_49 : Cond.methodLink "TentMiddle$Reader" 49 y_Shelf_sizeOf ∈ T1 := T1_in2 (i := 101) rfl rfl
set_option maxRecDepth 100000 in
theorem lk_3_55 : Cond.methodLink "TentMiddle$Reader" 55 Lib.Math.min.name ∈ T1 := T1_in2 (i := 102) rfl rfl
set_option maxRecDepth 100000 in
theorem lk_3_64 : Cond.methodLink "TentMiddle$Reader" 64 y_Shelf_get ∈ T1 := T1_in2 (i := 105) rfl rfl
set_option maxRecDepth 100000 in
theorem lk_3_28 : Cond.methodLink "TentMiddle$Reader" 28 y_Camp_begin ∈ T1 := T1_in2 (i := 106) rfl rfl
set_option maxRecDepth 100000 in
theorem lk_3_31 : Cond.methodLink "TentMiddle$Reader" 31 y_Reader_readCold ∈ T1 := T1_in2 (i := 110) rfl rfl
set_option maxRecDepth 100000 in
theorem lk_3_39 : Cond.methodLink "TentMiddle$Reader" 39 y_Reader_skipBlanks ∈ T1 := T1_in2 (i := 114) rfl rfl
set_option maxRecDepth 100000 in
theorem lk_3_42 : Cond.methodLink "TentMiddle$Reader" 42 y_Reader_sign ∈ T1 := T1_in2 (i := 118) rfl rfl
set_option maxRecDepth 100000 in
theorem lk_3_67 : Cond.methodLink "TentMiddle$Reader" 67 y_Reader_readFigure ∈ T1 := T1_in2 (i := 122) rfl rfl
set_option maxRecDepth 100000 in
theorem lk_3_46 : Cond.methodLink "TentMiddle$Reader" 46 y_Reader_readSleeper ∈ T1 := T1_in2 (i := 126) rfl rfl
set_option maxRecDepth 100000 in
theorem lk_3_73 : Cond.methodLink "TentMiddle$Reader" 73 y_Reader_kindOf ∈ T1 := T1_in2 (i := 130) rfl rfl
set_option maxRecDepth 100000 in
theorem lk_3_76 : Cond.methodLink "TentMiddle$Reader" 76 y_Camp_add ∈ T1 := T1_in2 (i := 133) rfl rfl
set_option maxRecDepth 100000 in
theorem lk_7_53 : Cond.methodLink "TentMiddleLaw" 53 y_Tent_tent ∈ T1 := T1_in2 (i := 137) rfl rfl
set_option maxRecDepth 100000 in
theorem lk_5_123 : Cond.methodLink "TentMiddle" 123 y_Camp_takeWhole ∈ T1 := T1_in2 (i := 141) rfl rfl
set_option maxRecDepth 100000 in
theorem lk_0_70 : Cond.methodLink "TentMiddle$Camp" 70 y_Camp_takePresent ∈ T1 := T1_in2 (i := 145) rfl rfl
set_option maxRecDepth 100000 in
theorem lk_0_64 : Cond.methodLink "TentMiddle$Camp" 64 arraycopyName ∈ T1 := T1_in2 (i := 149) rfl rfl
set_option maxRecDepth 100000 in
theorem lk_0_74 : Cond.methodLink "TentMiddle$Camp" 74 Lib.Math.min.name ∈ T1 := T1_in2 (i := 150) rfl rfl
set_option maxRecDepth 100000 in
theorem lk_5_127 : Cond.methodLink "TentMiddle" 127 y_Camp_begin ∈ T1 := T1_in2 (i := 151) rfl rfl
set_option maxRecDepth 100000 in
theorem lk_7_57 : Cond.methodLink "TentMiddleLaw" 57 y_Tent_sleeper ∈ T1 := T1_in2 (i := 152) rfl rfl
set_option maxRecDepth 100000 in
theorem lk_5_133 : Cond.methodLink "TentMiddle" 133 y_Camp_isSleeper ∈ T1 := T1_in2 (i := 156) rfl rfl
set_option maxRecDepth 100000 in
theorem lk_5_136 : Cond.methodLink "TentMiddle" 136 y_Camp_trait ∈ T1 := T1_in2 (i := 160) rfl rfl
set_option maxRecDepth 100000 in
theorem lk_0_94 : Cond.methodLink "TentMiddle$Camp" 94 y_Camp_givenFrom ∈ T1 := T1_in2 (i := 164) rfl rfl
set_option maxRecDepth 100000 in
theorem lk_7_61 : Cond.methodLink "TentMiddleLaw" 61 y_Tent_mark ∈ T1 := T1_in2 (i := 168) rfl rfl
set_option maxRecDepth 100000 in
theorem lk_5_142 : Cond.methodLink "TentMiddle" 142 y_Camp_isOf ∈ T1 := T1_in2 (i := 172) rfl rfl
set_option maxRecDepth 100000 in
theorem lk_5_146 : Cond.methodLink "TentMiddle" 146 y_Camp_hearersOf ∈ T1 := T1_in2 (i := 175) rfl rfl
set_option maxRecDepth 100000 in
theorem lk_0_105 : Cond.methodLink "TentMiddle$Camp" 105 y_Camp_reach ∈ T1 := T1_in2 (i := 179) rfl rfl
set_option maxRecDepth 100000 in
theorem lk_0_108 : Cond.methodLink "TentMiddle$Camp" 108 y_Camp_hearsWithin ∈ T1 := T1_in2 (i := 182) rfl rfl
set_option maxRecDepth 100000 in
theorem lk_0_97 : Cond.methodLink "TentMiddle$Camp" 97 y_Camp_isOf ∈ T1 := T1_in2 (i := 186) rfl rfl
set_option maxRecDepth 100000 in
theorem lk_0_101 : Cond.methodLink "TentMiddle$Camp" 101 y_Camp_isWithin ∈ T1 := T1_in2 (i := 187) rfl rfl
set_option maxRecDepth 100000 in
theorem lk_5_149 : Cond.methodLink "TentMiddle" 149 y_Camp_snorersNear ∈ T1 := T1_in2 (i := 191) rfl rfl
set_option maxRecDepth 100000 in
theorem lk_5_152 : Cond.methodLink "TentMiddle" 152 y_Camp_givenAway ∈ T1 := T1_in2 (i := 195) rfl rfl
set_option maxRecDepth 100000 in
theorem lk_5_155 : Cond.methodLink "TentMiddle" 155 y_Camp_snorers ∈ T1 := T1_in2 (i := 199) rfl rfl
set_option maxRecDepth 100000 in
theorem lk_5_162 : Cond.methodLink "TentMiddle" 162 y_Integer_bitCount ∈ T1 := T1_in2 (i := 203) rfl rfl
set_option maxRecDepth 100000 in
theorem lk_7_65 : Cond.methodLink "TentMiddleLaw" 65 y_Tent_vent ∈ T1 := T1_in2 (i := 209) rfl rfl
set_option maxRecDepth 100000 in
theorem lk_7_69 : Cond.methodLink "TentMiddleLaw" 69 y_Tent_bottle ∈ T1 := T1_in2 (i := 213) rfl rfl
set_option maxRecDepth 100000 in
theorem lk_7_73 : Cond.methodLink "TentMiddleLaw" 73 y_Tent_turns ∈ T1 := T1_in2 (i := 217) rfl rfl
set_option maxRecDepth 100000 in
theorem lk_7_77 : Cond.methodLink "TentMiddleLaw" 77 y_Tent_change ∈ T1 := T1_in2 (i := 221) rfl rfl
set_option maxRecDepth 100000 in
theorem lk_5_176 : Cond.methodLink "TentMiddle" 176 y_Tent_swap ∈ T1 := T1_in2 (i := 225) rfl rfl
set_option maxRecDepth 100000 in
theorem lk_5_180 : Cond.methodLink "TentMiddle" 180 y_Camp_fillPlaces ∈ T1 := T1_in2 (i := 228) rfl rfl
set_option maxRecDepth 100000 in
theorem lk_7_81 : Cond.methodLink "TentMiddleLaw" 81 y_Tent_bags ∈ T1 := T1_in2 (i := 232) rfl rfl
set_option maxRecDepth 100000 in
theorem lk_7_85 : Cond.methodLink "TentMiddleLaw" 85 y_Tent_lie ∈ T1 := T1_in2 (i := 236) rfl rfl
set_option maxRecDepth 100000 in
theorem lk_5_186 : Cond.methodLink "TentMiddle" 186 y_Tent_refuseRowForPlaces ∈ T1 := T1_in3 (i := 0) rfl rfl
set_option maxRecDepth 100000 in
theorem lk_5_263 : Cond.methodLink "TentMiddle" 263 y_Tent_refuseRowToFill ∈ T1 := T1_in3 (i := 4) rfl rfl
set_option maxRecDepth 100000 in
theorem lk_5_189 : Cond.methodLink "TentMiddle" 189 y_Tent_holdsOrder ∈ T1 := T1_in3 (i := 8) rfl rfl
set_option maxRecDepth 100000 in
theorem lk_5_192 : Cond.methodLink "TentMiddle" 192 y_Orders_readFrom ∈ T1 := T1_in3 (i := 12) rfl rfl
set_option maxRecDepth 100000 in
theorem lk_1_15 : Cond.methodLink "TentMiddle$Orders" 15 Lib.Math.min.name ∈ T1 := T1_in3 (i := 16) rfl rfl
set_option maxRecDepth 100000 in
theorem lk_1_40 : Cond.methodLink "TentMiddle$Orders" 40 y_Shelf_get ∈ T1 := T1_in3 (i := 17) rfl rfl
set_option maxRecDepth 100000 in
theorem lk_5_199 : Cond.methodLink "TentMiddle" 199 y_Camp_layBy ∈ T1 := T1_in3 (i := 18) rfl rfl
set_option maxRecDepth 100000 in
theorem lk_7_89 : Cond.methodLink "TentMiddleLaw" 89 y_Tent_hour ∈ T1 := T1_in3 (i := 22) rfl rfl
set_option maxRecDepth 100000 in
theorem lk_5_209 : Cond.methodLink "TentMiddle" 209 y_Camp_passHour ∈ T1 := T1_in3 (i := 26) rfl rfl
set_option maxRecDepth 100000 in
theorem lk_0_80 : Cond.methodLink "TentMiddle$Camp" 80 y_Camp_sleepingOnes ∈ T1 := T1_in3 (i := 30) rfl rfl
set_option maxRecDepth 100000 in
theorem lk_0_130 : Cond.methodLink "TentMiddle$Camp" 130 y_Camp_reasons ∈ T1 := T1_in3 (i := 34) rfl rfl
set_option maxRecDepth 100000 in
theorem lk_0_117 : Cond.methodLink "TentMiddle$Camp" 117 y_Camp_feeling ∈ T1 := T1_in3 (i := 38) rfl rfl
set_option maxRecDepth 100000 in
theorem lk_0_111 : Cond.methodLink "TentMiddle$Camp" 111 y_Camp_steadyFeeling ∈ T1 := T1_in3 (i := 42) rfl rfl
set_option maxRecDepth 100000 in
theorem lk_0_87 : Cond.methodLink "TentMiddle$Camp" 87 y_Camp_isAtRim ∈ T1 := T1_in3 (i := 46) rfl rfl
set_option maxRecDepth 100000 in
theorem lk_0_114 : Cond.methodLink "TentMiddle$Camp" 114 y_Camp_hourlyFeeling ∈ T1 := T1_in3 (i := 50) rfl rfl
set_option maxRecDepth 100000 in
theorem lk_0_120 : Cond.methodLink "TentMiddle$Camp" 120 y_Camp_hearsAny ∈ T1 := T1_in3 (i := 54) rfl rfl
set_option maxRecDepth 100000 in
theorem lk_0_123 : Cond.methodLink "TentMiddle$Camp" 123 y_Camp_soreHours ∈ T1 := T1_in3 (i := 58) rfl rfl
set_option maxRecDepth 100000 in
theorem lk_0_127 : Cond.methodLink "TentMiddle$Camp" 127 y_Camp_wokenHours ∈ T1 := T1_in3 (i := 62) rfl rfl
set_option maxRecDepth 100000 in
theorem lk_0_84 : Cond.methodLink "TentMiddle$Camp" 84 y_Camp_remember ∈ T1 := T1_in3 (i := 66) rfl rfl
set_option maxRecDepth 100000 in
theorem lk_7_94 : Cond.methodLink "TentMiddleLaw" 94 y_Tent_night ∈ T1 := T1_in3 (i := 70) rfl rfl
set_option maxRecDepth 100000 in
theorem lk_7_98 : Cond.methodLink "TentMiddleLaw" 98 y_Tent_undo ∈ T1 := T1_in3 (i := 74) rfl rfl
set_option maxRecDepth 100000 in
theorem lk_5_215 : Cond.methodLink "TentMiddle" 215 y_Camp_recall ∈ T1 := T1_in3 (i := 78) rfl rfl
set_option maxRecDepth 100000 in
theorem lk_0_91 : Cond.methodLink "TentMiddle$Camp" 91 y_Camp_fillPlaces ∈ T1 := T1_in3 (i := 82) rfl rfl
set_option maxRecDepth 100000 in
theorem lk_7_102 : Cond.methodLink "TentMiddleLaw" 102 y_Tent_now ∈ T1 := T1_in3 (i := 83) rfl rfl
set_option maxRecDepth 100000 in
theorem lk_7_106 : Cond.methodLink "TentMiddleLaw" 106 y_Tent_keep ∈ T1 := T1_in3 (i := 87) rfl rfl
set_option maxRecDepth 100000 in
theorem lk_7_110 : Cond.methodLink "TentMiddleLaw" 110 y_Tent_on ∈ T1 := T1_in3 (i := 91) rfl rfl
set_option maxRecDepth 100000 in
theorem lk_5_218 : Cond.methodLink "TentMiddle" 218 y_Tent_isKept ∈ T1 := T1_in3 (i := 95) rfl rfl
set_option maxRecDepth 100000 in
theorem lk_7_114 : Cond.methodLink "TentMiddleLaw" 114 y_Tent_feels ∈ T1 := T1_in3 (i := 99) rfl rfl
set_option maxRecDepth 100000 in
theorem lk_5_221 : Cond.methodLink "TentMiddle" 221 y_Tent_isHour ∈ T1 := T1_in3 (i := 103) rfl rfl
set_option maxRecDepth 100000 in
theorem lk_5_224 : Cond.methodLink "TentMiddle" 224 y_Camp_feeling ∈ T1 := T1_in3 (i := 106) rfl rfl
set_option maxRecDepth 100000 in
theorem lk_7_118 : Cond.methodLink "TentMiddleLaw" 118 y_Tent_why ∈ T1 := T1_in3 (i := 107) rfl rfl
set_option maxRecDepth 100000 in
theorem lk_5_227 : Cond.methodLink "TentMiddle" 227 y_Camp_reasons ∈ T1 := T1_in3 (i := 111) rfl rfl
set_option maxRecDepth 100000 in
theorem lk_7_122 : Cond.methodLink "TentMiddleLaw" 122 y_Tent_sleeps ∈ T1 := T1_in3 (i := 112) rfl rfl
set_option maxRecDepth 100000 in
theorem lk_5_230 : Cond.methodLink "TentMiddle" 230 y_Camp_coldOnes ∈ T1 := T1_in3 (i := 116) rfl rfl
set_option maxRecDepth 100000 in
theorem lk_5_233 : Cond.methodLink "TentMiddle" 233 y_Camp_sleepingOnes ∈ T1 := T1_in3 (i := 120) rfl rfl
set_option maxRecDepth 100000 in
theorem lk_7_126 : Cond.methodLink "TentMiddleLaw" 126 y_Tent_slept ∈ T1 := T1_in3 (i := 121) rfl rfl
set_option maxRecDepth 100000 in
theorem lk_5_236 : Cond.methodLink "TentMiddle" 236 y_Camp_hoursSlept ∈ T1 := T1_in3 (i := 125) rfl rfl
set_option maxRecDepth 100000 in
theorem lk_0_133 : Cond.methodLink "TentMiddle$Camp" 133 y_Camp_calmHours ∈ T1 := T1_in3 (i := 129) rfl rfl
set_option maxRecDepth 100000 in
theorem lk_0_136 : Cond.methodLink "TentMiddle$Camp" 136 y_Integer_bitCount ∈ T1 := T1_in3 (i := 133) rfl rfl
set_option maxRecDepth 100000 in
theorem lk_7_130 : Cond.methodLink "TentMiddleLaw" 130 y_Tent_coldest ∈ T1 := T1_in3 (i := 134) rfl rfl
set_option maxRecDepth 100000 in
theorem lk_7_134 : Cond.methodLink "TentMiddleLaw" 134 y_Tent_good ∈ T1 := T1_in3 (i := 138) rfl rfl
set_option maxRecDepth 100000 in
theorem lk_5_239 : Cond.methodLink "TentMiddle" 239 y_Camp_takePresent ∈ T1 := T1_in3 (i := 142) rfl rfl
set_option maxRecDepth 100000 in
theorem lk_5_245 : Cond.methodLink "TentMiddle" 245 y_Camp_sleptByOthers ∈ T1 := T1_in3 (i := 143) rfl rfl
set_option maxRecDepth 100000 in
theorem lk_0_144 : Cond.methodLink "TentMiddle$Camp" 144 y_Camp_sleptByAll ∈ T1 := T1_in3 (i := 147) rfl rfl
set_option maxRecDepth 100000 in
theorem lk_0_141 : Cond.methodLink "TentMiddle$Camp" 141 y_Camp_hoursSlept ∈ T1 := T1_in3 (i := 151) rfl rfl
set_option maxRecDepth 100000 in
theorem lk_7_138 : Cond.methodLink "TentMiddleLaw" 138 y_Tent_worth ∈ T1 := T1_in3 (i := 152) rfl rfl
set_option maxRecDepth 100000 in
theorem lk_5_248 : Cond.methodLink "TentMiddle" 248 y_Camp_leastSlept ∈ T1 := T1_in3 (i := 156) rfl rfl
set_option maxRecDepth 100000 in
theorem lk_5_251 : Cond.methodLink "TentMiddle" 251 y_Camp_sleptByAll ∈ T1 := T1_in3 (i := 160) rfl rfl
set_option maxRecDepth 100000 in
theorem lk_7_142 : Cond.methodLink "TentMiddleLaw" 142 y_Tent_best ∈ T1 := T1_in3 (i := 161) rfl rfl
set_option maxRecDepth 100000 in
theorem lk_5_254 : Cond.methodLink "TentMiddle" 254 y_Tent_seekOrder ∈ T1 := T1_in3 (i := 165) rfl rfl
set_option maxRecDepth 100000 in
theorem lk_5_268 : Cond.methodLink "TentMiddle" 268 y_Orders_begin ∈ T1 := T1_in3 (i := 169) rfl rfl
set_option maxRecDepth 100000 in
theorem lk_5_343 : Cond.methodLink "TentMiddle" 343 y_Camp_takeBags ∈ T1 := T1_in3 (i := 173) rfl rfl
set_option maxRecDepth 100000 in
theorem lk_5_273 : Cond.methodLink "TentMiddle" 273 y_Orders_advance ∈ T1 := T1_in3 (i := 177) rfl rfl
set_option maxRecDepth 100000 in
theorem lk_5_286 : Cond.methodLink "TentMiddle" 286 y_Orders_goTo ∈ T1 := T1_in3 (i := 182) rfl rfl
set_option maxRecDepth 100000 in
theorem lk_1_29 : Cond.methodLink "TentMiddle$Orders" 29 y_Orders_howMany ∈ T1 := T1_in3 (i := 186) rfl rfl
set_option maxRecDepth 100000 in
theorem lk_1_33 : Cond.methodLink "TentMiddle$Orders" 33 y_Orders_pick ∈ T1 := T1_in3 (i := 189) rfl rfl
set_option maxRecDepth 100000 in
theorem lk_5_289 : Cond.methodLink "TentMiddle" 289 y_Orders_writeTo ∈ T1 := T1_in3 (i := 192) rfl rfl
set_option maxRecDepth 100000 in
theorem lk_1_45 : Cond.methodLink "TentMiddle$Orders" 45 y_Shelf_make ∈ T1 := T1_in3 (i := 196) rfl rfl
set_option maxRecDepth 100000 in
theorem lk_1_49 : Cond.methodLink "TentMiddle$Orders" 49 y_Shelf_set ∈ T1 := T1_in3 (i := 197) rfl rfl
set_option maxRecDepth 100000 in
theorem lk_7_146 : Cond.methodLink "TentMiddleLaw" 146 y_Tent_fair ∈ T1 := T1_in3 (i := 198) rfl rfl
set_option maxRecDepth 100000 in
theorem lk_7_150 : Cond.methodLink "TentMiddleLaw" 150 y_Tent_turning ∈ T1 := T1_in3 (i := 202) rfl rfl
set_option maxRecDepth 100000 in
theorem lk_5_257 : Cond.methodLink "TentMiddle" 257 y_Camp_noteCalm ∈ T1 := T1_in3 (i := 206) rfl rfl
set_option maxRecDepth 100000 in
theorem lk_5_260 : Cond.methodLink "TentMiddle" 260 y_Camp_sleptOfCalm ∈ T1 := T1_in3 (i := 210) rfl rfl
set_option maxRecDepth 100000 in
theorem lk_7_154 : Cond.methodLink "TentMiddleLaw" 154 y_Tent_warm ∈ T1 := T1_in3 (i := 214) rfl rfl
set_option maxRecDepth 100000 in
theorem lk_7_158 : Cond.methodLink "TentMiddleLaw" 158 y_Tent_thin ∈ T1 := T1_in3 (i := 218) rfl rfl
set_option maxRecDepth 100000 in
theorem lk_7_162 : Cond.methodLink "TentMiddleLaw" 162 y_Tent_nights ∈ T1 := T1_in3 (i := 222) rfl rfl
set_option maxRecDepth 100000 in
theorem lk_5_266 : Cond.methodLink "TentMiddle" 266 y_Plan_begin ∈ T1 := T1_in3 (i := 226) rfl rfl
set_option maxRecDepth 100000 in
theorem lk_2_30 : Cond.methodLink "TentMiddle$Plan" 30 Lib.Math.min.name ∈ T1 := T1_in3 (i := 230) rfl rfl
set_option maxRecDepth 100000 in
theorem lk_2_43 : Cond.methodLink "TentMiddle$Plan" 43 y_Arrays_fill2 ∈ T1 := T1_in3 (i := 231) rfl rfl
set_option maxRecDepth 100000 in
theorem lk_5_269 : Cond.methodLink "TentMiddle" 269 y_Plan_offer ∈ T1 := T1_in3 (i := 232) rfl rfl
set_option maxRecDepth 100000 in
theorem lk_2_49 : Cond.methodLink "TentMiddle$Plan" 49 y_Camp_hoursSlept ∈ T1 := T1_in3 (i := 236) rfl rfl
set_option maxRecDepth 100000 in
theorem lk_2_55 : Cond.methodLink "TentMiddle$Plan" 55 Lib.Math.max.name ∈ T1 := T1_in3 (i := 237) rfl rfl
set_option maxRecDepth 100000 in
theorem lk_2_58 : Cond.methodLink "TentMiddle$Plan" 58 y_Plan_isNeedless ∈ T1 := T1_in4 (i := 0) rfl rfl
set_option maxRecDepth 100000 in
theorem lk_5_277 : Cond.methodLink "TentMiddle" 277 y_Plan_choose ∈ T1 := T1_in4 (i := 4) rfl rfl
set_option maxRecDepth 100000 in
theorem lk_2_65 : Cond.methodLink "TentMiddle$Plan" 65 y_Plan_chooseFrom ∈ T1 := T1_in4 (i := 8) rfl rfl
set_option maxRecDepth 100000 in
theorem lk_2_69 : Cond.methodLink "TentMiddle$Plan" 69 y_Plan_bound ∈ T1 := T1_in4 (i := 12) rfl rfl
set_option maxRecDepth 100000 in
theorem lk_2_72 : Cond.methodLink "TentMiddle$Plan" 72 arraycopyName ∈ T1 := T1_in4 (i := 16) rfl rfl
set_option maxRecDepth 100000 in
theorem lk_5_280 : Cond.methodLink "TentMiddle" 280 y_Plan_writeTo ∈ T1 := T1_in4 (i := 17) rfl rfl
set_option maxRecDepth 100000 in
theorem lk_2_78 : Cond.methodLink "TentMiddle$Plan" 78 y_Shelf_make ∈ T1 := T1_in4 (i := 21) rfl rfl
set_option maxRecDepth 100000 in
theorem lk_2_83 : Cond.methodLink "TentMiddle$Plan" 83 y_Shelf_set ∈ T1 := T1_in4 (i := 22) rfl rfl
set_option maxRecDepth 100000 in
theorem lk_7_166 : Cond.methodLink "TentMiddleLaw" 166 y_Tent_nth ∈ T1 := T1_in4 (i := 23) rfl rfl
set_option maxRecDepth 100000 in
theorem lk_5_283 : Cond.methodLink "TentMiddle" 283 y_Orders_howMany ∈ T1 := T1_in4 (i := 27) rfl rfl
set_option maxRecDepth 100000 in
theorem lk_7_170 : Cond.methodLink "TentMiddleLaw" 170 y_Tent_out ∈ T1 := T1_in4 (i := 28) rfl rfl
set_option maxRecDepth 100000 in
theorem lk_7_174 : Cond.methodLink "TentMiddleLaw" 174 y_Tent_whose ∈ T1 := T1_in4 (i := 32) rfl rfl
set_option maxRecDepth 100000 in
theorem lk_5_295 : Cond.methodLink "TentMiddle" 295 y_Camp_reach ∈ T1 := T1_in4 (i := 36) rfl rfl
set_option maxRecDepth 100000 in
theorem lk_5_298 : Cond.methodLink "TentMiddle" 298 y_Tent_suspects ∈ T1 := T1_in4 (i := 37) rfl rfl
set_option maxRecDepth 100000 in
theorem lk_5_347 : Cond.methodLink "TentMiddle" 347 y_Tent_fitsWhatWasHeard ∈ T1 := T1_in4 (i := 41) rfl rfl
set_option maxRecDepth 100000 in
theorem lk_5_350 : Cond.methodLink "TentMiddle" 350 y_Camp_hearsWithin ∈ T1 := T1_in4 (i := 45) rfl rfl
set_option maxRecDepth 100000 in
theorem lk_7_178 : Cond.methodLink "TentMiddleLaw" 178 y_Tent_kinds ∈ T1 := T1_in4 (i := 46) rfl rfl
set_option maxRecDepth 100000 in
theorem lk_7_182 : Cond.methodLink "TentMiddleLaw" 182 y_Tent_odds ∈ T1 := T1_in4 (i := 50) rfl rfl
set_option maxRecDepth 100000 in
theorem lk_5_301 : Cond.methodLink "TentMiddle" 301 y_Tent_tellPower ∈ T1 := T1_in4 (i := 54) rfl rfl
set_option maxRecDepth 100000 in
theorem lk_5_304 : Cond.methodLink "TentMiddle" 304 y_Camp_mustStayIn ∈ T1 := T1_in4 (i := 58) rfl rfl
set_option maxRecDepth 100000 in
theorem lk_7_186 : Cond.methodLink "TentMiddleLaw" 186 y_Tent_lots ∈ T1 := T1_in4 (i := 62) rfl rfl
set_option maxRecDepth 100000 in
theorem lk_5_308 : Cond.methodLink "TentMiddle" 308 y_Orders_draw ∈ T1 := T1_in4 (i := 67) rfl rfl
set_option maxRecDepth 100000 in
theorem lk_7_190 : Cond.methodLink "TentMiddleLaw" 190 y_Tent_asked ∈ T1 := T1_in4 (i := 73) rfl rfl
set_option maxRecDepth 100000 in
theorem lk_7_194 : Cond.methodLink "TentMiddleLaw" 194 y_Tent_upper ∈ T1 := T1_in4 (i := 77) rfl rfl
set_option maxRecDepth 100000 in
theorem lk_7_199 : Cond.methodLink "TentMiddleLaw" 199 y_Tent_lower ∈ T1 := T1_in4 (i := 81) rfl rfl
set_option maxRecDepth 100000 in
theorem lk_7_203 : Cond.methodLink "TentMiddleLaw" 203 y_Tent_count ∈ T1 := T1_in4 (i := 85) rfl rfl
set_option maxRecDepth 100000 in
theorem lk_5_314 : Cond.methodLink "TentMiddle" 314 y_Shelf_howManyThere ∈ T1 := T1_in4 (i := 89) rfl rfl
set_option maxRecDepth 100000 in
theorem lk_4_55 : Cond.methodLink "TentMiddle$Shelf" 55 y_Shelf_isThere ∈ T1 := T1_in4 (i := 93) rfl rfl
set_option maxRecDepth 100000 in
theorem lk_5_317 : Cond.methodLink "TentMiddle" 317 y_Tent_keptTents ∈ T1 := T1_in4 (i := 94) rfl rfl
set_option maxRecDepth 100000 in
theorem lk_7_207 : Cond.methodLink "TentMiddleLaw" 207 y_Tent_finding ∈ T1 := T1_in4 (i := 98) rfl rfl
set_option maxRecDepth 100000 in
theorem lk_7_211 : Cond.methodLink "TentMiddleLaw" 211 y_Tent_findings ∈ T1 := T1_in4 (i := 102) rfl rfl
set_option maxRecDepth 100000 in
theorem lk_7_215 : Cond.methodLink "TentMiddleLaw" 215 y_Tent_digest ∈ T1 := T1_in4 (i := 106) rfl rfl
set_option maxRecDepth 100000 in
theorem lk_5_327 : Cond.methodLink "TentMiddle" 327 y_Tent_count ∈ T1 := T1_in4 (i := 112) rfl rfl
set_option maxRecDepth 100000 in
theorem lk_5_330 : Cond.methodLink "TentMiddle" 330 y_Shelf_digestOn ∈ T1 := T1_in4 (i := 113) rfl rfl
set_option maxRecDepth 100000 in
theorem lk_7_17 : Cond.methodLink "TentMiddleLaw" 17 y_Mod_row ∈ T1 := T1_in4 (i := 212) rfl rfl
set_option maxRecDepth 100000 in
theorem lk_6_80 : Cond.methodLink "TentMiddleModel" 80 y_Mod_isRow ∈ T1 := T1_in4 (i := 216) rfl rfl
set_option maxRecDepth 100000 in
theorem lk_6_74 : Cond.methodLink "TentMiddleModel" 74 y_Mod_in ∈ T1 := T1_in4 (i := 220) rfl rfl
set_option maxRecDepth 100000 in
theorem lk_6_84 : Cond.methodLink "TentMiddleModel" 84 y_Mod_find ∈ T1 := T1_in4 (i := 223) rfl rfl
set_option maxRecDepth 100000 in
theorem lk_6_88 : Cond.methodLink "TentMiddleModel" 88 y_Mod_makeRow ∈ T1 := T1_in4 (i := 227) rfl rfl
set_option maxRecDepth 100000 in
theorem lk_7_22 : Cond.methodLink "TentMiddleLaw" 22 y_Mod_lay ∈ T1 := T1_in4 (i := 231) rfl rfl
set_option maxRecDepth 100000 in
theorem lk_6_92 : Cond.methodLink "TentMiddleModel" 92 y_Mod_refused ∈ T1 := T1_in4 (i := 235) rfl rfl
set_option maxRecDepth 100000 in
theorem lk_6_96 : Cond.methodLink "TentMiddleModel" 96 y_Mod_tell ∈ T1 := T1_in4 (i := 239) rfl rfl
set_option maxRecDepth 100000 in
theorem lk_7_26 : Cond.methodLink "TentMiddleLaw" 26 y_Mod_at ∈ T1 := T1_in5 (i := 3) rfl rfl
set_option maxRecDepth 100000 in
theorem lk_7_31 : Cond.methodLink "TentMiddleLaw" 31 y_Mod_tear ∈ T1 := T1_in5 (i := 7) rfl rfl
set_option maxRecDepth 100000 in
theorem lk_7_36 : Cond.methodLink "TentMiddleLaw" 36 y_Mod_copy ∈ T1 := T1_in5 (i := 11) rfl rfl
set_option maxRecDepth 100000 in
theorem lk_6_99 : Cond.methodLink "TentMiddleModel" 99 y_Mod_isSpan ∈ T1 := T1_in5 (i := 15) rfl rfl
set_option maxRecDepth 100000 in
theorem lk_7_40 : Cond.methodLink "TentMiddleLaw" 40 y_Mod_mean ∈ T1 := T1_in5 (i := 19) rfl rfl
set_option maxRecDepth 100000 in
theorem lk_7_44 : Cond.methodLink "TentMiddleLaw" 44 y_Mod_text ∈ T1 := T1_in5 (i := 23) rfl rfl
set_option maxRecDepth 100000 in
theorem lk_6_103 : Cond.methodLink "TentMiddleModel" 103 y_Mod_isText ∈ T1 := T1_in5 (i := 27) rfl rfl
set_option maxRecDepth 100000 in
theorem lk_7_48 : Cond.methodLink "TentMiddleLaw" 48 y_Mod_put ∈ T1 := T1_in5 (i := 31) rfl rfl
set_option maxRecDepth 100000 in
theorem lk_7_52 : Cond.methodLink "TentMiddleLaw" 52 y_Mod_fault ∈ T1 := T1_in5 (i := 35) rfl rfl
set_option maxRecDepth 100000 in
theorem lk_6_140 : Cond.methodLink "TentMiddleModel" 140 y_Mod_faultOf ∈ T1 := T1_in5 (i := 39) rfl rfl
set_option maxRecDepth 100000 in
theorem lk_6_133 : Cond.methodLink "TentMiddleModel" 133 y_Mod_readsCold ∈ T1 := T1_in5 (i := 43) rfl rfl
set_option maxRecDepth 100000 in
theorem lk_6_121 : Cond.methodLink "TentMiddleModel" 121 y_Mod_skip ∈ T1 := T1_in5 (i := 47) rfl rfl
set_option maxRecDepth 100000 in
theorem lk_6_115 : Cond.methodLink "TentMiddleModel" 115 y_Mod_here ∈ T1 := T1_in5 (i := 51) rfl rfl
set_option maxRecDepth 100000 in
theorem lk_6_124 : Cond.methodLink "TentMiddleModel" 124 y_Mod_figure ∈ T1 := T1_in5 (i := 55) rfl rfl
set_option maxRecDepth 100000 in
theorem lk_6_137 : Cond.methodLink "TentMiddleModel" 137 y_Mod_readsSleeper ∈ T1 := T1_in5 (i := 60) rfl rfl
set_option maxRecDepth 100000 in
theorem lk_6_127 : Cond.methodLink "TentMiddleModel" 127 y_Mod_kindHere ∈ T1 := T1_in5 (i := 64) rfl rfl
set_option maxRecDepth 100000 in
theorem lk_7_56 : Cond.methodLink "TentMiddleLaw" 56 y_Mod_tent ∈ T1 := T1_in5 (i := 68) rfl rfl
set_option maxRecDepth 100000 in
theorem lk_7_60 : Cond.methodLink "TentMiddleLaw" 60 y_Mod_sleeper ∈ T1 := T1_in5 (i := 72) rfl rfl
set_option maxRecDepth 100000 in
theorem lk_6_198 : Cond.methodLink "TentMiddleModel" 198 y_Mod_isSleeper ∈ T1 := T1_in5 (i := 76) rfl rfl
set_option maxRecDepth 100000 in
theorem lk_6_201 : Cond.methodLink "TentMiddleModel" 201 y_Mod_toldOf ∈ T1 := T1_in5 (i := 80) rfl rfl
set_option maxRecDepth 100000 in
theorem lk_6_204 : Cond.methodLink "TentMiddleModel" 204 y_Mod_layNow ∈ T1 := T1_in5 (i := 84) rfl rfl
set_option maxRecDepth 100000 in
theorem lk_6_161 : Cond.methodLink "TentMiddleModel" 161 y_Mod_givesOf ∈ T1 := T1_in5 (i := 88) rfl rfl
set_option maxRecDepth 100000 in
theorem lk_6_155 : Cond.methodLink "TentMiddleModel" 155 y_Mod_kindOf ∈ T1 := T1_in5 (i := 92) rfl rfl
set_option maxRecDepth 100000 in
theorem lk_6_158 : Cond.methodLink "TentMiddleModel" 158 y_Mod_placeOf ∈ T1 := T1_in5 (i := 96) rfl rfl
set_option maxRecDepth 100000 in
theorem lk_7_64 : Cond.methodLink "TentMiddleLaw" 64 y_Mod_mark ∈ T1 := T1_in5 (i := 100) rfl rfl
set_option maxRecDepth 100000 in
theorem lk_6_207 : Cond.methodLink "TentMiddleModel" 207 y_Mod_isOf ∈ T1 := T1_in5 (i := 104) rfl rfl
set_option maxRecDepth 100000 in
theorem lk_6_210 : Cond.methodLink "TentMiddleModel" 210 y_Mod_heardBy ∈ T1 := T1_in5 (i := 108) rfl rfl
set_option maxRecDepth 100000 in
theorem lk_6_174 : Cond.methodLink "TentMiddleModel" 174 y_Mod_hearsNone ∈ T1 := T1_in5 (i := 112) rfl rfl
set_option maxRecDepth 100000 in
theorem lk_6_170 : Cond.methodLink "TentMiddleModel" 170 y_Mod_reaches ∈ T1 := T1_in5 (i := 115) rfl rfl
set_option maxRecDepth 100000 in
theorem lk_6_167 : Cond.methodLink "TentMiddleModel" 167 y_Mod_isSnoring ∈ T1 := T1_in5 (i := 119) rfl rfl
set_option maxRecDepth 100000 in
theorem lk_6_177 : Cond.methodLink "TentMiddleModel" 177 y_Mod_snorersNear ∈ T1 := T1_in5 (i := 122) rfl rfl
set_option maxRecDepth 100000 in
theorem lk_6_213 : Cond.methodLink "TentMiddleModel" 213 y_Mod_beside ∈ T1 := T1_in5 (i := 126) rfl rfl
set_option maxRecDepth 100000 in
theorem lk_6_216 : Cond.methodLink "TentMiddleModel" 216 y_Mod_snorers ∈ T1 := T1_in5 (i := 130) rfl rfl
set_option maxRecDepth 100000 in
theorem lk_6_219 : Cond.methodLink "TentMiddleModel" 219 y_Mod_bits ∈ T1 := T1_in5 (i := 134) rfl rfl
set_option maxRecDepth 100000 in
theorem lk_7_68 : Cond.methodLink "TentMiddleLaw" 68 y_Mod_vent ∈ T1 := T1_in5 (i := 137) rfl rfl
set_option maxRecDepth 100000 in
theorem lk_7_72 : Cond.methodLink "TentMiddleLaw" 72 y_Mod_bottle ∈ T1 := T1_in5 (i := 141) rfl rfl
set_option maxRecDepth 100000 in
theorem lk_7_76 : Cond.methodLink "TentMiddleLaw" 76 y_Mod_turns ∈ T1 := T1_in5 (i := 145) rfl rfl
set_option maxRecDepth 100000 in
theorem lk_7_80 : Cond.methodLink "TentMiddleLaw" 80 y_Mod_change ∈ T1 := T1_in5 (i := 150) rfl rfl
set_option maxRecDepth 100000 in
theorem lk_6_224 : Cond.methodLink "TentMiddleModel" 224 y_Mod_swap ∈ T1 := T1_in5 (i := 154) rfl rfl
set_option maxRecDepth 100000 in
theorem lk_7_84 : Cond.methodLink "TentMiddleLaw" 84 y_Mod_bags ∈ T1 := T1_in5 (i := 158) rfl rfl
set_option maxRecDepth 100000 in
theorem lk_7_88 : Cond.methodLink "TentMiddleLaw" 88 y_Mod_lie ∈ T1 := T1_in5 (i := 162) rfl rfl
set_option maxRecDepth 100000 in
theorem lk_6_227 : Cond.methodLink "TentMiddleModel" 227 y_Mod_isOrder ∈ T1 := T1_in5 (i := 166) rfl rfl
set_option maxRecDepth 100000 in
theorem lk_7_93 : Cond.methodLink "TentMiddleLaw" 93 y_Mod_hour ∈ T1 := T1_in5 (i := 170) rfl rfl
set_option maxRecDepth 100000 in
theorem lk_6_230 : Cond.methodLink "TentMiddleModel" 230 y_Mod_sleepsIn ∈ T1 := T1_in5 (i := 174) rfl rfl
set_option maxRecDepth 100000 in
theorem lk_6_192 : Cond.methodLink "TentMiddleModel" 192 y_Mod_whyNot ∈ T1 := T1_in5 (i := 178) rfl rfl
set_option maxRecDepth 100000 in
theorem lk_6_183 : Cond.methodLink "TentMiddleModel" 183 y_Mod_feelsIn ∈ T1 := T1_in5 (i := 182) rfl rfl
set_option maxRecDepth 100000 in
theorem lk_6_164 : Cond.methodLink "TentMiddleModel" 164 y_Mod_isRim ∈ T1 := T1_in5 (i := 186) rfl rfl
set_option maxRecDepth 100000 in
theorem lk_6_186 : Cond.methodLink "TentMiddleModel" 186 y_Mod_hears ∈ T1 := T1_in5 (i := 190) rfl rfl
set_option maxRecDepth 100000 in
theorem lk_6_189 : Cond.methodLink "TentMiddleModel" 189 y_Mod_isSore ∈ T1 := T1_in5 (i := 194) rfl rfl
set_option maxRecDepth 100000 in
theorem lk_6_180 : Cond.methodLink "TentMiddleModel" 180 y_Mod_has ∈ T1 := T1_in5 (i := 198) rfl rfl
set_option maxRecDepth 100000 in
theorem lk_7_97 : Cond.methodLink "TentMiddleLaw" 97 y_Mod_night ∈ T1 := T1_in5 (i := 201) rfl rfl
set_option maxRecDepth 100000 in
theorem lk_7_101 : Cond.methodLink "TentMiddleLaw" 101 y_Mod_undo ∈ T1 := T1_in5 (i := 205) rfl rfl
set_option maxRecDepth 100000 in
theorem lk_7_105 : Cond.methodLink "TentMiddleLaw" 105 y_Mod_now ∈ T1 := T1_in5 (i := 209) rfl rfl
set_option maxRecDepth 100000 in
theorem lk_7_109 : Cond.methodLink "TentMiddleLaw" 109 y_Mod_keep ∈ T1 := T1_in5 (i := 213) rfl rfl
set_option maxRecDepth 100000 in
theorem lk_6_235 : Cond.methodLink "TentMiddleModel" 235 y_Mod_copyTent ∈ T1 := T1_in5 (i := 218) rfl rfl
set_option maxRecDepth 100000 in
theorem lk_7_113 : Cond.methodLink "TentMiddleLaw" 113 y_Mod_on ∈ T1 := T1_in5 (i := 222) rfl rfl
set_option maxRecDepth 100000 in
theorem lk_7_117 : Cond.methodLink "TentMiddleLaw" 117 y_Mod_feels ∈ T1 := T1_in5 (i := 226) rfl rfl
set_option maxRecDepth 100000 in
theorem lk_6_240 : Cond.methodLink "TentMiddleModel" 240 y_Mod_isHour ∈ T1 := T1_in5 (i := 230) rfl rfl
set_option maxRecDepth 100000 in
theorem lk_7_121 : Cond.methodLink "TentMiddleLaw" 121 y_Mod_why ∈ T1 := T1_in5 (i := 234) rfl rfl
set_option maxRecDepth 100000 in
theorem lk_7_125 : Cond.methodLink "TentMiddleLaw" 125 y_Mod_sleeps ∈ T1 := T1_in5 (i := 238) rfl rfl
set_option maxRecDepth 100000 in
theorem lk_7_129 : Cond.methodLink "TentMiddleLaw" 129 y_Mod_slept ∈ T1 := T1_in6 (i := 2) rfl rfl
set_option maxRecDepth 100000 in
theorem lk_6_195 : Cond.methodLink "TentMiddleModel" 195 y_Mod_sleptBy ∈ T1 := T1_in6 (i := 6) rfl rfl
set_option maxRecDepth 100000 in
theorem lk_7_133 : Cond.methodLink "TentMiddleLaw" 133 y_Mod_coldest ∈ T1 := T1_in6 (i := 10) rfl rfl
set_option maxRecDepth 100000 in
theorem lk_7_137 : Cond.methodLink "TentMiddleLaw" 137 y_Mod_good ∈ T1 := T1_in6 (i := 14) rfl rfl
set_option maxRecDepth 100000 in
theorem lk_6_243 : Cond.methodLink "TentMiddleModel" 243 y_Mod_worthNow ∈ T1 := T1_in6 (i := 18) rfl rfl
set_option maxRecDepth 100000 in
theorem lk_7_141 : Cond.methodLink "TentMiddleLaw" 141 y_Mod_worth ∈ T1 := T1_in6 (i := 22) rfl rfl
set_option maxRecDepth 100000 in
theorem lk_6_246 : Cond.methodLink "TentMiddleModel" 246 y_Mod_leastNow ∈ T1 := T1_in6 (i := 26) rfl rfl
set_option maxRecDepth 100000 in
theorem lk_7_145 : Cond.methodLink "TentMiddleLaw" 145 y_Mod_best ∈ T1 := T1_in6 (i := 30) rfl rfl
set_option maxRecDepth 100000 in
theorem lk_6_262 : Cond.methodLink "TentMiddleModel" 262 y_Mod_toBest ∈ T1 := T1_in6 (i := 34) rfl rfl
set_option maxRecDepth 100000 in
theorem lk_6_249 : Cond.methodLink "TentMiddleModel" 249 y_Mod_orderMany ∈ T1 := T1_in6 (i := 38) rfl rfl
set_option maxRecDepth 100000 in
theorem lk_6_256 : Cond.methodLink "TentMiddleModel" 256 y_Mod_lieBy ∈ T1 := T1_in6 (i := 42) rfl rfl
set_option maxRecDepth 100000 in
theorem lk_6_252 : Cond.methodLink "TentMiddleModel" 252 y_Mod_layOrder ∈ T1 := T1_in6 (i := 46) rfl rfl
set_option maxRecDepth 100000 in
theorem lk_6_259 : Cond.methodLink "TentMiddleModel" 259 y_Mod_orderTo ∈ T1 := T1_in6 (i := 50) rfl rfl
set_option maxRecDepth 100000 in
theorem lk_7_149 : Cond.methodLink "TentMiddleLaw" 149 y_Mod_fair ∈ T1 := T1_in6 (i := 54) rfl rfl
set_option maxRecDepth 100000 in
theorem lk_7_153 : Cond.methodLink "TentMiddleLaw" 153 y_Mod_turning ∈ T1 := T1_in6 (i := 58) rfl rfl
set_option maxRecDepth 100000 in
theorem lk_7_157 : Cond.methodLink "TentMiddleLaw" 157 y_Mod_warm ∈ T1 := T1_in6 (i := 62) rfl rfl
set_option maxRecDepth 100000 in
theorem lk_7_161 : Cond.methodLink "TentMiddleLaw" 161 y_Mod_thin ∈ T1 := T1_in6 (i := 66) rfl rfl
set_option maxRecDepth 100000 in
theorem lk_7_165 : Cond.methodLink "TentMiddleLaw" 165 y_Mod_nights ∈ T1 := T1_in6 (i := 70) rfl rfl
set_option maxRecDepth 100000 in
theorem lk_6_266 : Cond.methodLink "TentMiddleModel" 266 y_Mod_leastIn ∈ T1 := T1_in6 (i := 74) rfl rfl
set_option maxRecDepth 100000 in
theorem lk_7_169 : Cond.methodLink "TentMiddleLaw" 169 y_Mod_nth ∈ T1 := T1_in6 (i := 78) rfl rfl
set_option maxRecDepth 100000 in
theorem lk_7_173 : Cond.methodLink "TentMiddleLaw" 173 y_Mod_out ∈ T1 := T1_in6 (i := 82) rfl rfl
set_option maxRecDepth 100000 in
theorem lk_7_177 : Cond.methodLink "TentMiddleLaw" 177 y_Mod_whose ∈ T1 := T1_in6 (i := 86) rfl rfl
set_option maxRecDepth 100000 in
theorem lk_6_270 : Cond.methodLink "TentMiddleModel" 270 y_Mod_areHeard ∈ T1 := T1_in6 (i := 90) rfl rfl
set_option maxRecDepth 100000 in
theorem lk_6_273 : Cond.methodLink "TentMiddleModel" 273 y_Mod_fits ∈ T1 := T1_in6 (i := 94) rfl rfl
set_option maxRecDepth 100000 in
theorem lk_7_181 : Cond.methodLink "TentMiddleLaw" 181 y_Mod_kinds ∈ T1 := T1_in6 (i := 98) rfl rfl
set_option maxRecDepth 100000 in
theorem lk_7_185 : Cond.methodLink "TentMiddleLaw" 185 y_Mod_odds ∈ T1 := T1_in6 (i := 102) rfl rfl
set_option maxRecDepth 100000 in
theorem lk_6_278 : Cond.methodLink "TentMiddleModel" 278 y_Mod_divisor ∈ T1 := T1_in6 (i := 107) rfl rfl
set_option maxRecDepth 100000 in
theorem lk_7_189 : Cond.methodLink "TentMiddleLaw" 189 y_Mod_lots ∈ T1 := T1_in6 (i := 110) rfl rfl
set_option maxRecDepth 100000 in
theorem lk_7_193 : Cond.methodLink "TentMiddleLaw" 193 y_Mod_asked ∈ T1 := T1_in6 (i := 117) rfl rfl
set_option maxRecDepth 100000 in
theorem lk_7_198 : Cond.methodLink "TentMiddleLaw" 198 y_Mod_upper ∈ T1 := T1_in6 (i := 121) rfl rfl
set_option maxRecDepth 100000 in
theorem lk_7_202 : Cond.methodLink "TentMiddleLaw" 202 y_Mod_lower ∈ T1 := T1_in6 (i := 125) rfl rfl
set_option maxRecDepth 100000 in
theorem lk_7_206 : Cond.methodLink "TentMiddleLaw" 206 y_Mod_count ∈ T1 := T1_in6 (i := 129) rfl rfl
set_option maxRecDepth 100000 in
theorem lk_6_296 : Cond.methodLink "TentMiddleModel" 296 y_Mod_countOf ∈ T1 := T1_in6 (i := 134) rfl rfl
set_option maxRecDepth 100000 in
theorem lk_6_291 : Cond.methodLink "TentMiddleModel" 291 y_Mod_thereOf ∈ T1 := T1_in6 (i := 138) rfl rfl
set_option maxRecDepth 100000 in
theorem lk_7_210 : Cond.methodLink "TentMiddleLaw" 210 y_Mod_finding ∈ T1 := T1_in6 (i := 142) rfl rfl
set_option maxRecDepth 100000 in
theorem lk_7_214 : Cond.methodLink "TentMiddleLaw" 214 y_Mod_findings ∈ T1 := T1_in6 (i := 146) rfl rfl
set_option maxRecDepth 100000 in
theorem lk_7_218 : Cond.methodLink "TentMiddleLaw" 218 y_Mod_digest ∈ T1 := T1_in6 (i := 150) rfl rfl
end
