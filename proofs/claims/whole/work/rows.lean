section
-- ===== PART A: goes FIRST, ahead of the names: the tables' words, and 'selects' of the private methods out of them =====
/-- a private method of a class that the tables say can be made, by its rows of tables_1 -/
def lw_okq (q : MethodName × Nat) : Prop := (q.1.cls ≠ "java/lang/invoke/MethodHandle" ∧ q.1.cls ≠ "java/lang/invoke/VarHandle") ∧ Cond.instantiable q.1.cls q.2 ∈ tables_1 ∧ Cond.privateMethod q.1 ∈ tables_1 ∧ Cond.instanceMethod q.1 ∈ tables_1
theorem lw_p0 : lw_okq (⟨"TentMiddle", "makeIn", "(LTentMiddle$Shelf;III)I"⟩, 13) := ⟨⟨by decide +kernel, by decide +kernel⟩, List.mem_of_getElem? (i := 13) (by decide +kernel), List.mem_of_getElem? (i := 228) (by decide +kernel), List.mem_of_getElem? (i := 229) (by decide +kernel)⟩
theorem lw_p1 : lw_okq (⟨"TentMiddle", "found", "(I)I"⟩, 13) := ⟨⟨by decide +kernel, by decide +kernel⟩, List.mem_of_getElem? (i := 13) (by decide +kernel), List.mem_of_getElem? (i := 236) (by decide +kernel), List.mem_of_getElem? (i := 237) (by decide +kernel)⟩
theorem lw_p2 : lw_okq (⟨"TentMiddle", "refusePlace", "(LTentMiddle$Shelf;II)I"⟩, 13) := ⟨⟨by decide +kernel, by decide +kernel⟩, List.mem_of_getElem? (i := 13) (by decide +kernel), List.mem_of_getElem? (i := 255) (by decide +kernel), List.mem_of_getElem? (i := 256) (by decide +kernel)⟩
theorem lw_p3 : lw_okq (⟨"TentMiddle", "refuseMissing", "(LTentMiddle$Shelf;I)I"⟩, 13) := ⟨⟨by decide +kernel, by decide +kernel⟩, List.mem_of_getElem? (i := 13) (by decide +kernel), List.mem_of_getElem? (i := 259) (by decide +kernel), List.mem_of_getElem? (i := 260) (by decide +kernel)⟩
theorem lw_p4 : lw_okq (⟨"TentMiddle$Reader", "take", "(LTentMiddle$Shelf;I)V"⟩, 4) := ⟨⟨by decide +kernel, by decide +kernel⟩, List.mem_of_getElem? (i := 114) (by decide +kernel), List.mem_of_getElem? (i := 338) (by decide +kernel), List.mem_of_getElem? (i := 339) (by decide +kernel)⟩
theorem lw_p5 : lw_okq (⟨"TentMiddle$Reader", "readCold", "()Z"⟩, 4) := ⟨⟨by decide +kernel, by decide +kernel⟩, List.mem_of_getElem? (i := 114) (by decide +kernel), List.mem_of_getElem? (i := 351) (by decide +kernel), List.mem_of_getElem? (i := 352) (by decide +kernel)⟩
theorem lw_p6 : lw_okq (⟨"TentMiddle$Reader", "skipBlanks", "()V"⟩, 4) := ⟨⟨by decide +kernel, by decide +kernel⟩, List.mem_of_getElem? (i := 114) (by decide +kernel), List.mem_of_getElem? (i := 355) (by decide +kernel), List.mem_of_getElem? (i := 356) (by decide +kernel)⟩
theorem lw_p7 : lw_okq (⟨"TentMiddle$Reader", "sign", "()I"⟩, 4) := ⟨⟨by decide +kernel, by decide +kernel⟩, List.mem_of_getElem? (i := 114) (by decide +kernel), List.mem_of_getElem? (i := 359) (by decide +kernel), List.mem_of_getElem? (i := 360) (by decide +kernel)⟩
theorem lw_p8 : lw_okq (⟨"TentMiddle$Reader", "readFigure", "(I)I"⟩, 4) := ⟨⟨by decide +kernel, by decide +kernel⟩, List.mem_of_getElem? (i := 114) (by decide +kernel), List.mem_of_getElem? (i := 363) (by decide +kernel), List.mem_of_getElem? (i := 364) (by decide +kernel)⟩
theorem lw_p9 : lw_okq (⟨"TentMiddle$Reader", "readSleeper", "()Z"⟩, 4) := ⟨⟨by decide +kernel, by decide +kernel⟩, List.mem_of_getElem? (i := 114) (by decide +kernel), List.mem_of_getElem? (i := 367) (by decide +kernel), List.mem_of_getElem? (i := 368) (by decide +kernel)⟩
theorem lw_p10 : lw_okq (⟨"TentMiddle$Camp", "givenFrom", "(I)I"⟩, 17) := ⟨⟨by decide +kernel, by decide +kernel⟩, List.mem_of_getElem? (i := 42) (by decide +kernel), List.mem_of_getElem? (i := 405) (by decide +kernel), List.mem_of_getElem? (i := 406) (by decide +kernel)⟩
theorem lw_p11 : lw_okq (⟨"TentMiddle$Camp", "isWithin", "(III)Z"⟩, 17) := ⟨⟨by decide +kernel, by decide +kernel⟩, List.mem_of_getElem? (i := 42) (by decide +kernel), List.mem_of_getElem? (i := 428) (by decide +kernel), List.mem_of_getElem? (i := 429) (by decide +kernel)⟩
theorem lw_p12 : lw_okq (⟨"TentMiddle", "refuseRowForPlaces", "(I)I"⟩, 13) := ⟨⟨by decide +kernel, by decide +kernel⟩, List.mem_of_getElem? (i := 13) (by decide +kernel), List.mem_of_getElem? (i := 481) (by decide +kernel), List.mem_of_getElem? (i := 482) (by decide +kernel)⟩
theorem lw_p13 : lw_okq (⟨"TentMiddle", "refuseRowToFill", "(I)I"⟩, 13) := ⟨⟨by decide +kernel, by decide +kernel⟩, List.mem_of_getElem? (i := 13) (by decide +kernel), List.mem_of_getElem? (i := 485) (by decide +kernel), List.mem_of_getElem? (i := 486) (by decide +kernel)⟩
theorem lw_p14 : lw_okq (⟨"TentMiddle", "holdsOrder", "(I)Z"⟩, 13) := ⟨⟨by decide +kernel, by decide +kernel⟩, List.mem_of_getElem? (i := 13) (by decide +kernel), List.mem_of_getElem? (i := 489) (by decide +kernel), List.mem_of_getElem? (i := 490) (by decide +kernel)⟩
theorem lw_p15 : lw_okq (⟨"TentMiddle$Camp", "steadyFeeling", "(I)I"⟩, 17) := ⟨⟨by decide +kernel, by decide +kernel⟩, List.mem_of_getElem? (i := 42) (by decide +kernel), List.mem_of_getElem? (i := 523) (by decide +kernel), List.mem_of_getElem? (i := 524) (by decide +kernel)⟩
def lw_privs_1 : List (MethodName × Nat) := [(⟨"TentMiddle", "makeIn", "(LTentMiddle$Shelf;III)I"⟩, 13), (⟨"TentMiddle", "found", "(I)I"⟩, 13), (⟨"TentMiddle", "refusePlace", "(LTentMiddle$Shelf;II)I"⟩, 13), (⟨"TentMiddle", "refuseMissing", "(LTentMiddle$Shelf;I)I"⟩, 13), (⟨"TentMiddle$Reader", "take", "(LTentMiddle$Shelf;I)V"⟩, 4), (⟨"TentMiddle$Reader", "readCold", "()Z"⟩, 4), (⟨"TentMiddle$Reader", "skipBlanks", "()V"⟩, 4), (⟨"TentMiddle$Reader", "sign", "()I"⟩, 4), (⟨"TentMiddle$Reader", "readFigure", "(I)I"⟩, 4), (⟨"TentMiddle$Reader", "readSleeper", "()Z"⟩, 4), (⟨"TentMiddle$Camp", "givenFrom", "(I)I"⟩, 17), (⟨"TentMiddle$Camp", "isWithin", "(III)Z"⟩, 17), (⟨"TentMiddle", "refuseRowForPlaces", "(I)I"⟩, 13), (⟨"TentMiddle", "refuseRowToFill", "(I)I"⟩, 13), (⟨"TentMiddle", "holdsOrder", "(I)Z"⟩, 13), (⟨"TentMiddle$Camp", "steadyFeeling", "(I)I"⟩, 17)]
theorem lw_r1 : ∀ q ∈ lw_privs_1, lw_okq q := List.forall_mem_cons.mpr ⟨lw_p0, List.forall_mem_cons.mpr ⟨lw_p1, List.forall_mem_cons.mpr ⟨lw_p2, List.forall_mem_cons.mpr ⟨lw_p3, List.forall_mem_cons.mpr ⟨lw_p4, List.forall_mem_cons.mpr ⟨lw_p5, List.forall_mem_cons.mpr ⟨lw_p6, List.forall_mem_cons.mpr ⟨lw_p7, List.forall_mem_cons.mpr ⟨lw_p8, List.forall_mem_cons.mpr ⟨lw_p9, List.forall_mem_cons.mpr ⟨lw_p10, List.forall_mem_cons.mpr ⟨lw_p11, List.forall_mem_cons.mpr ⟨lw_p12, List.forall_mem_cons.mpr ⟨lw_p13, List.forall_mem_cons.mpr ⟨lw_p14, List.forall_mem_cons.mpr ⟨lw_p15, fun _ h => absurd h List.not_mem_nil⟩⟩⟩⟩⟩⟩⟩⟩⟩⟩⟩⟩⟩⟩⟩⟩
theorem lw_p16 : lw_okq (⟨"TentMiddle$Camp", "hourlyFeeling", "(II)I"⟩, 17) := ⟨⟨by decide +kernel, by decide +kernel⟩, List.mem_of_getElem? (i := 42) (by decide +kernel), List.mem_of_getElem? (i := 531) (by decide +kernel), List.mem_of_getElem? (i := 532) (by decide +kernel)⟩
theorem lw_p17 : lw_okq (⟨"TentMiddle$Camp", "hearsAny", "(I)Z"⟩, 17) := ⟨⟨by decide +kernel, by decide +kernel⟩, List.mem_of_getElem? (i := 42) (by decide +kernel), List.mem_of_getElem? (i := 535) (by decide +kernel), List.mem_of_getElem? (i := 536) (by decide +kernel)⟩
theorem lw_p18 : lw_okq (⟨"TentMiddle$Camp", "soreHours", "()I"⟩, 17) := ⟨⟨by decide +kernel, by decide +kernel⟩, List.mem_of_getElem? (i := 42) (by decide +kernel), List.mem_of_getElem? (i := 539) (by decide +kernel), List.mem_of_getElem? (i := 540) (by decide +kernel)⟩
theorem lw_p19 : lw_okq (⟨"TentMiddle$Camp", "wokenHours", "(I)I"⟩, 17) := ⟨⟨by decide +kernel, by decide +kernel⟩, List.mem_of_getElem? (i := 42) (by decide +kernel), List.mem_of_getElem? (i := 543) (by decide +kernel), List.mem_of_getElem? (i := 544) (by decide +kernel)⟩
theorem lw_p20 : lw_okq (⟨"TentMiddle$Camp", "remember", "()V"⟩, 17) := ⟨⟨by decide +kernel, by decide +kernel⟩, List.mem_of_getElem? (i := 42) (by decide +kernel), List.mem_of_getElem? (i := 547) (by decide +kernel), List.mem_of_getElem? (i := 548) (by decide +kernel)⟩
theorem lw_p21 : lw_okq (⟨"TentMiddle", "isKept", "(I)Z"⟩, 13) := ⟨⟨by decide +kernel, by decide +kernel⟩, List.mem_of_getElem? (i := 13) (by decide +kernel), List.mem_of_getElem? (i := 576) (by decide +kernel), List.mem_of_getElem? (i := 577) (by decide +kernel)⟩
theorem lw_p22 : lw_okq (⟨"TentMiddle$Camp", "calmHours", "(I)I"⟩, 17) := ⟨⟨by decide +kernel, by decide +kernel⟩, List.mem_of_getElem? (i := 42) (by decide +kernel), List.mem_of_getElem? (i := 610) (by decide +kernel), List.mem_of_getElem? (i := 611) (by decide +kernel)⟩
theorem lw_p23 : lw_okq (⟨"TentMiddle", "seekOrder", "(II)I"⟩, 13) := ⟨⟨by decide +kernel, by decide +kernel⟩, List.mem_of_getElem? (i := 13) (by decide +kernel), List.mem_of_getElem? (i := 646) (by decide +kernel), List.mem_of_getElem? (i := 647) (by decide +kernel)⟩
theorem lw_p24 : lw_okq (⟨"TentMiddle$Plan", "isNeedless", "()Z"⟩, 9) := ⟨⟨by decide +kernel, by decide +kernel⟩, List.mem_of_getElem? (i := 150) (by decide +kernel), List.mem_of_getElem? (i := 721) (by decide +kernel), List.mem_of_getElem? (i := 722) (by decide +kernel)⟩
theorem lw_p25 : lw_okq (⟨"TentMiddle$Plan", "chooseFrom", "(III)V"⟩, 9) := ⟨⟨by decide +kernel, by decide +kernel⟩, List.mem_of_getElem? (i := 150) (by decide +kernel), List.mem_of_getElem? (i := 729) (by decide +kernel), List.mem_of_getElem? (i := 730) (by decide +kernel)⟩
theorem lw_p26 : lw_okq (⟨"TentMiddle$Plan", "bound", "(II)I"⟩, 9) := ⟨⟨by decide +kernel, by decide +kernel⟩, List.mem_of_getElem? (i := 150) (by decide +kernel), List.mem_of_getElem? (i := 733) (by decide +kernel), List.mem_of_getElem? (i := 734) (by decide +kernel)⟩
theorem lw_p27 : lw_okq (⟨"TentMiddle", "suspects", "(II)I"⟩, 13) := ⟨⟨by decide +kernel, by decide +kernel⟩, List.mem_of_getElem? (i := 13) (by decide +kernel), List.mem_of_getElem? (i := 758) (by decide +kernel), List.mem_of_getElem? (i := 759) (by decide +kernel)⟩
theorem lw_p28 : lw_okq (⟨"TentMiddle", "fitsWhatWasHeard", "(III)Z"⟩, 13) := ⟨⟨by decide +kernel, by decide +kernel⟩, List.mem_of_getElem? (i := 13) (by decide +kernel), List.mem_of_getElem? (i := 762) (by decide +kernel), List.mem_of_getElem? (i := 763) (by decide +kernel)⟩
theorem lw_p29 : lw_okq (⟨"TentMiddle", "tellPower", "(II)V"⟩, 13) := ⟨⟨by decide +kernel, by decide +kernel⟩, List.mem_of_getElem? (i := 13) (by decide +kernel), List.mem_of_getElem? (i := 775) (by decide +kernel), List.mem_of_getElem? (i := 776) (by decide +kernel)⟩
theorem lw_p30 : lw_okq (⟨"TentMiddle", "keptTents", "()I"⟩, 13) := ⟨⟨by decide +kernel, by decide +kernel⟩, List.mem_of_getElem? (i := 13) (by decide +kernel), List.mem_of_getElem? (i := 815) (by decide +kernel), List.mem_of_getElem? (i := 816) (by decide +kernel)⟩
theorem lw_p31 : lw_okq (⟨"TentMiddleModel", "find", "(I)I"⟩, 29) := ⟨⟨by decide +kernel, by decide +kernel⟩, List.mem_of_getElem? (i := 839) (by decide +kernel), List.mem_of_getElem? (i := 944) (by decide +kernel), List.mem_of_getElem? (i := 945) (by decide +kernel)⟩
def lw_privs_2 : List (MethodName × Nat) := [(⟨"TentMiddle$Camp", "hourlyFeeling", "(II)I"⟩, 17), (⟨"TentMiddle$Camp", "hearsAny", "(I)Z"⟩, 17), (⟨"TentMiddle$Camp", "soreHours", "()I"⟩, 17), (⟨"TentMiddle$Camp", "wokenHours", "(I)I"⟩, 17), (⟨"TentMiddle$Camp", "remember", "()V"⟩, 17), (⟨"TentMiddle", "isKept", "(I)Z"⟩, 13), (⟨"TentMiddle$Camp", "calmHours", "(I)I"⟩, 17), (⟨"TentMiddle", "seekOrder", "(II)I"⟩, 13), (⟨"TentMiddle$Plan", "isNeedless", "()Z"⟩, 9), (⟨"TentMiddle$Plan", "chooseFrom", "(III)V"⟩, 9), (⟨"TentMiddle$Plan", "bound", "(II)I"⟩, 9), (⟨"TentMiddle", "suspects", "(II)I"⟩, 13), (⟨"TentMiddle", "fitsWhatWasHeard", "(III)Z"⟩, 13), (⟨"TentMiddle", "tellPower", "(II)V"⟩, 13), (⟨"TentMiddle", "keptTents", "()I"⟩, 13), (⟨"TentMiddleModel", "find", "(I)I"⟩, 29)]
theorem lw_r2 : ∀ q ∈ lw_privs_2, lw_okq q := List.forall_mem_cons.mpr ⟨lw_p16, List.forall_mem_cons.mpr ⟨lw_p17, List.forall_mem_cons.mpr ⟨lw_p18, List.forall_mem_cons.mpr ⟨lw_p19, List.forall_mem_cons.mpr ⟨lw_p20, List.forall_mem_cons.mpr ⟨lw_p21, List.forall_mem_cons.mpr ⟨lw_p22, List.forall_mem_cons.mpr ⟨lw_p23, List.forall_mem_cons.mpr ⟨lw_p24, List.forall_mem_cons.mpr ⟨lw_p25, List.forall_mem_cons.mpr ⟨lw_p26, List.forall_mem_cons.mpr ⟨lw_p27, List.forall_mem_cons.mpr ⟨lw_p28, List.forall_mem_cons.mpr ⟨lw_p29, List.forall_mem_cons.mpr ⟨lw_p30, List.forall_mem_cons.mpr ⟨lw_p31, fun _ h => absurd h List.not_mem_nil⟩⟩⟩⟩⟩⟩⟩⟩⟩⟩⟩⟩⟩⟩⟩⟩
theorem lw_p32 : lw_okq (⟨"TentMiddleModel", "makeRow", "(II)V"⟩, 29) := ⟨⟨by decide +kernel, by decide +kernel⟩, List.mem_of_getElem? (i := 839) (by decide +kernel), List.mem_of_getElem? (i := 948) (by decide +kernel), List.mem_of_getElem? (i := 949) (by decide +kernel)⟩
theorem lw_p33 : lw_okq (⟨"TentMiddleModel", "refused", "(II)I"⟩, 29) := ⟨⟨by decide +kernel, by decide +kernel⟩, List.mem_of_getElem? (i := 839) (by decide +kernel), List.mem_of_getElem? (i := 956) (by decide +kernel), List.mem_of_getElem? (i := 957) (by decide +kernel)⟩
theorem lw_p34 : lw_okq (⟨"TentMiddleModel", "tell", "(I)I"⟩, 29) := ⟨⟨by decide +kernel, by decide +kernel⟩, List.mem_of_getElem? (i := 839) (by decide +kernel), List.mem_of_getElem? (i := 960) (by decide +kernel), List.mem_of_getElem? (i := 961) (by decide +kernel)⟩
theorem lw_p35 : lw_okq (⟨"TentMiddleModel", "isSpan", "(III)Z"⟩, 29) := ⟨⟨by decide +kernel, by decide +kernel⟩, List.mem_of_getElem? (i := 839) (by decide +kernel), List.mem_of_getElem? (i := 976) (by decide +kernel), List.mem_of_getElem? (i := 977) (by decide +kernel)⟩
theorem lw_p36 : lw_okq (⟨"TentMiddleModel", "faultOf", "(I)I"⟩, 29) := ⟨⟨by decide +kernel, by decide +kernel⟩, List.mem_of_getElem? (i := 839) (by decide +kernel), List.mem_of_getElem? (i := 1000) (by decide +kernel), List.mem_of_getElem? (i := 1001) (by decide +kernel)⟩
theorem lw_p37 : lw_okq (⟨"TentMiddleModel", "readsCold", "()Z"⟩, 29) := ⟨⟨by decide +kernel, by decide +kernel⟩, List.mem_of_getElem? (i := 839) (by decide +kernel), List.mem_of_getElem? (i := 1004) (by decide +kernel), List.mem_of_getElem? (i := 1005) (by decide +kernel)⟩
theorem lw_p38 : lw_okq (⟨"TentMiddleModel", "skip", "()V"⟩, 29) := ⟨⟨by decide +kernel, by decide +kernel⟩, List.mem_of_getElem? (i := 839) (by decide +kernel), List.mem_of_getElem? (i := 1008) (by decide +kernel), List.mem_of_getElem? (i := 1009) (by decide +kernel)⟩
theorem lw_p39 : lw_okq (⟨"TentMiddleModel", "here", "()I"⟩, 29) := ⟨⟨by decide +kernel, by decide +kernel⟩, List.mem_of_getElem? (i := 839) (by decide +kernel), List.mem_of_getElem? (i := 1012) (by decide +kernel), List.mem_of_getElem? (i := 1013) (by decide +kernel)⟩
theorem lw_p40 : lw_okq (⟨"TentMiddleModel", "figure", "(I)I"⟩, 29) := ⟨⟨by decide +kernel, by decide +kernel⟩, List.mem_of_getElem? (i := 839) (by decide +kernel), List.mem_of_getElem? (i := 1016) (by decide +kernel), List.mem_of_getElem? (i := 1017) (by decide +kernel)⟩
theorem lw_p41 : lw_okq (⟨"TentMiddleModel", "readsSleeper", "()Z"⟩, 29) := ⟨⟨by decide +kernel, by decide +kernel⟩, List.mem_of_getElem? (i := 839) (by decide +kernel), List.mem_of_getElem? (i := 1021) (by decide +kernel), List.mem_of_getElem? (i := 1022) (by decide +kernel)⟩
theorem lw_p42 : lw_okq (⟨"TentMiddleModel", "kindHere", "()I"⟩, 29) := ⟨⟨by decide +kernel, by decide +kernel⟩, List.mem_of_getElem? (i := 839) (by decide +kernel), List.mem_of_getElem? (i := 1025) (by decide +kernel), List.mem_of_getElem? (i := 1026) (by decide +kernel)⟩
theorem lw_p43 : lw_okq (⟨"TentMiddleModel", "isSleeper", "(I)Z"⟩, 29) := ⟨⟨by decide +kernel, by decide +kernel⟩, List.mem_of_getElem? (i := 839) (by decide +kernel), List.mem_of_getElem? (i := 1037) (by decide +kernel), List.mem_of_getElem? (i := 1038) (by decide +kernel)⟩
theorem lw_p44 : lw_okq (⟨"TentMiddleModel", "toldOf", "(II)I"⟩, 29) := ⟨⟨by decide +kernel, by decide +kernel⟩, List.mem_of_getElem? (i := 839) (by decide +kernel), List.mem_of_getElem? (i := 1041) (by decide +kernel), List.mem_of_getElem? (i := 1042) (by decide +kernel)⟩
theorem lw_p45 : lw_okq (⟨"TentMiddleModel", "layNow", "()V"⟩, 29) := ⟨⟨by decide +kernel, by decide +kernel⟩, List.mem_of_getElem? (i := 839) (by decide +kernel), List.mem_of_getElem? (i := 1045) (by decide +kernel), List.mem_of_getElem? (i := 1046) (by decide +kernel)⟩
theorem lw_p46 : lw_okq (⟨"TentMiddleModel", "givesOf", "(I)I"⟩, 29) := ⟨⟨by decide +kernel, by decide +kernel⟩, List.mem_of_getElem? (i := 839) (by decide +kernel), List.mem_of_getElem? (i := 1049) (by decide +kernel), List.mem_of_getElem? (i := 1050) (by decide +kernel)⟩
theorem lw_p47 : lw_okq (⟨"TentMiddleModel", "kindOf", "(I)I"⟩, 29) := ⟨⟨by decide +kernel, by decide +kernel⟩, List.mem_of_getElem? (i := 839) (by decide +kernel), List.mem_of_getElem? (i := 1053) (by decide +kernel), List.mem_of_getElem? (i := 1054) (by decide +kernel)⟩
def lw_privs_3 : List (MethodName × Nat) := [(⟨"TentMiddleModel", "makeRow", "(II)V"⟩, 29), (⟨"TentMiddleModel", "refused", "(II)I"⟩, 29), (⟨"TentMiddleModel", "tell", "(I)I"⟩, 29), (⟨"TentMiddleModel", "isSpan", "(III)Z"⟩, 29), (⟨"TentMiddleModel", "faultOf", "(I)I"⟩, 29), (⟨"TentMiddleModel", "readsCold", "()Z"⟩, 29), (⟨"TentMiddleModel", "skip", "()V"⟩, 29), (⟨"TentMiddleModel", "here", "()I"⟩, 29), (⟨"TentMiddleModel", "figure", "(I)I"⟩, 29), (⟨"TentMiddleModel", "readsSleeper", "()Z"⟩, 29), (⟨"TentMiddleModel", "kindHere", "()I"⟩, 29), (⟨"TentMiddleModel", "isSleeper", "(I)Z"⟩, 29), (⟨"TentMiddleModel", "toldOf", "(II)I"⟩, 29), (⟨"TentMiddleModel", "layNow", "()V"⟩, 29), (⟨"TentMiddleModel", "givesOf", "(I)I"⟩, 29), (⟨"TentMiddleModel", "kindOf", "(I)I"⟩, 29)]
theorem lw_r3 : ∀ q ∈ lw_privs_3, lw_okq q := List.forall_mem_cons.mpr ⟨lw_p32, List.forall_mem_cons.mpr ⟨lw_p33, List.forall_mem_cons.mpr ⟨lw_p34, List.forall_mem_cons.mpr ⟨lw_p35, List.forall_mem_cons.mpr ⟨lw_p36, List.forall_mem_cons.mpr ⟨lw_p37, List.forall_mem_cons.mpr ⟨lw_p38, List.forall_mem_cons.mpr ⟨lw_p39, List.forall_mem_cons.mpr ⟨lw_p40, List.forall_mem_cons.mpr ⟨lw_p41, List.forall_mem_cons.mpr ⟨lw_p42, List.forall_mem_cons.mpr ⟨lw_p43, List.forall_mem_cons.mpr ⟨lw_p44, List.forall_mem_cons.mpr ⟨lw_p45, List.forall_mem_cons.mpr ⟨lw_p46, List.forall_mem_cons.mpr ⟨lw_p47, fun _ h => absurd h List.not_mem_nil⟩⟩⟩⟩⟩⟩⟩⟩⟩⟩⟩⟩⟩⟩⟩⟩
theorem lw_p48 : lw_okq (⟨"TentMiddleModel", "placeOf", "(I)I"⟩, 29) := ⟨⟨by decide +kernel, by decide +kernel⟩, List.mem_of_getElem? (i := 839) (by decide +kernel), List.mem_of_getElem? (i := 1057) (by decide +kernel), List.mem_of_getElem? (i := 1058) (by decide +kernel)⟩
theorem lw_p49 : lw_okq (⟨"TentMiddleModel", "isOf", "(II)Z"⟩, 29) := ⟨⟨by decide +kernel, by decide +kernel⟩, List.mem_of_getElem? (i := 839) (by decide +kernel), List.mem_of_getElem? (i := 1065) (by decide +kernel), List.mem_of_getElem? (i := 1066) (by decide +kernel)⟩
theorem lw_p50 : lw_okq (⟨"TentMiddleModel", "heardBy", "(I)I"⟩, 29) := ⟨⟨by decide +kernel, by decide +kernel⟩, List.mem_of_getElem? (i := 839) (by decide +kernel), List.mem_of_getElem? (i := 1069) (by decide +kernel), List.mem_of_getElem? (i := 1070) (by decide +kernel)⟩
theorem lw_p51 : lw_okq (⟨"TentMiddleModel", "reaches", "(II)Z"⟩, 29) := ⟨⟨by decide +kernel, by decide +kernel⟩, List.mem_of_getElem? (i := 839) (by decide +kernel), List.mem_of_getElem? (i := 1076) (by decide +kernel), List.mem_of_getElem? (i := 1077) (by decide +kernel)⟩
theorem lw_p52 : lw_okq (⟨"TentMiddleModel", "snorersNear", "(I)I"⟩, 29) := ⟨⟨by decide +kernel, by decide +kernel⟩, List.mem_of_getElem? (i := 839) (by decide +kernel), List.mem_of_getElem? (i := 1083) (by decide +kernel), List.mem_of_getElem? (i := 1084) (by decide +kernel)⟩
theorem lw_p53 : lw_okq (⟨"TentMiddleModel", "beside", "(I)I"⟩, 29) := ⟨⟨by decide +kernel, by decide +kernel⟩, List.mem_of_getElem? (i := 839) (by decide +kernel), List.mem_of_getElem? (i := 1087) (by decide +kernel), List.mem_of_getElem? (i := 1088) (by decide +kernel)⟩
theorem lw_p54 : lw_okq (⟨"TentMiddleModel", "snorers", "()I"⟩, 29) := ⟨⟨by decide +kernel, by decide +kernel⟩, List.mem_of_getElem? (i := 839) (by decide +kernel), List.mem_of_getElem? (i := 1091) (by decide +kernel), List.mem_of_getElem? (i := 1092) (by decide +kernel)⟩
theorem lw_p55 : lw_okq (⟨"TentMiddleModel", "swap", "(II)V"⟩, 29) := ⟨⟨by decide +kernel, by decide +kernel⟩, List.mem_of_getElem? (i := 839) (by decide +kernel), List.mem_of_getElem? (i := 1115) (by decide +kernel), List.mem_of_getElem? (i := 1116) (by decide +kernel)⟩
theorem lw_p56 : lw_okq (⟨"TentMiddleModel", "isOrder", "(I)Z"⟩, 29) := ⟨⟨by decide +kernel, by decide +kernel⟩, List.mem_of_getElem? (i := 839) (by decide +kernel), List.mem_of_getElem? (i := 1127) (by decide +kernel), List.mem_of_getElem? (i := 1128) (by decide +kernel)⟩
theorem lw_p57 : lw_okq (⟨"TentMiddleModel", "sleepsIn", "(I)I"⟩, 29) := ⟨⟨by decide +kernel, by decide +kernel⟩, List.mem_of_getElem? (i := 839) (by decide +kernel), List.mem_of_getElem? (i := 1135) (by decide +kernel), List.mem_of_getElem? (i := 1136) (by decide +kernel)⟩
theorem lw_p58 : lw_okq (⟨"TentMiddleModel", "whyNot", "(II)I"⟩, 29) := ⟨⟨by decide +kernel, by decide +kernel⟩, List.mem_of_getElem? (i := 839) (by decide +kernel), List.mem_of_getElem? (i := 1139) (by decide +kernel), List.mem_of_getElem? (i := 1140) (by decide +kernel)⟩
theorem lw_p59 : lw_okq (⟨"TentMiddleModel", "feelsIn", "(II)I"⟩, 29) := ⟨⟨by decide +kernel, by decide +kernel⟩, List.mem_of_getElem? (i := 839) (by decide +kernel), List.mem_of_getElem? (i := 1143) (by decide +kernel), List.mem_of_getElem? (i := 1144) (by decide +kernel)⟩
theorem lw_p60 : lw_okq (⟨"TentMiddleModel", "isRim", "(I)Z"⟩, 29) := ⟨⟨by decide +kernel, by decide +kernel⟩, List.mem_of_getElem? (i := 839) (by decide +kernel), List.mem_of_getElem? (i := 1147) (by decide +kernel), List.mem_of_getElem? (i := 1148) (by decide +kernel)⟩
theorem lw_p61 : lw_okq (⟨"TentMiddleModel", "hears", "(I)Z"⟩, 29) := ⟨⟨by decide +kernel, by decide +kernel⟩, List.mem_of_getElem? (i := 839) (by decide +kernel), List.mem_of_getElem? (i := 1151) (by decide +kernel), List.mem_of_getElem? (i := 1152) (by decide +kernel)⟩
theorem lw_p62 : lw_okq (⟨"TentMiddleModel", "isSore", "(I)Z"⟩, 29) := ⟨⟨by decide +kernel, by decide +kernel⟩, List.mem_of_getElem? (i := 839) (by decide +kernel), List.mem_of_getElem? (i := 1155) (by decide +kernel), List.mem_of_getElem? (i := 1156) (by decide +kernel)⟩
theorem lw_p63 : lw_okq (⟨"TentMiddleModel", "copyTent", "(II)V"⟩, 29) := ⟨⟨by decide +kernel, by decide +kernel⟩, List.mem_of_getElem? (i := 839) (by decide +kernel), List.mem_of_getElem? (i := 1179) (by decide +kernel), List.mem_of_getElem? (i := 1180) (by decide +kernel)⟩
def lw_privs_4 : List (MethodName × Nat) := [(⟨"TentMiddleModel", "placeOf", "(I)I"⟩, 29), (⟨"TentMiddleModel", "isOf", "(II)Z"⟩, 29), (⟨"TentMiddleModel", "heardBy", "(I)I"⟩, 29), (⟨"TentMiddleModel", "reaches", "(II)Z"⟩, 29), (⟨"TentMiddleModel", "snorersNear", "(I)I"⟩, 29), (⟨"TentMiddleModel", "beside", "(I)I"⟩, 29), (⟨"TentMiddleModel", "snorers", "()I"⟩, 29), (⟨"TentMiddleModel", "swap", "(II)V"⟩, 29), (⟨"TentMiddleModel", "isOrder", "(I)Z"⟩, 29), (⟨"TentMiddleModel", "sleepsIn", "(I)I"⟩, 29), (⟨"TentMiddleModel", "whyNot", "(II)I"⟩, 29), (⟨"TentMiddleModel", "feelsIn", "(II)I"⟩, 29), (⟨"TentMiddleModel", "isRim", "(I)Z"⟩, 29), (⟨"TentMiddleModel", "hears", "(I)Z"⟩, 29), (⟨"TentMiddleModel", "isSore", "(I)Z"⟩, 29), (⟨"TentMiddleModel", "copyTent", "(II)V"⟩, 29)]
theorem lw_r4 : ∀ q ∈ lw_privs_4, lw_okq q := List.forall_mem_cons.mpr ⟨lw_p48, List.forall_mem_cons.mpr ⟨lw_p49, List.forall_mem_cons.mpr ⟨lw_p50, List.forall_mem_cons.mpr ⟨lw_p51, List.forall_mem_cons.mpr ⟨lw_p52, List.forall_mem_cons.mpr ⟨lw_p53, List.forall_mem_cons.mpr ⟨lw_p54, List.forall_mem_cons.mpr ⟨lw_p55, List.forall_mem_cons.mpr ⟨lw_p56, List.forall_mem_cons.mpr ⟨lw_p57, List.forall_mem_cons.mpr ⟨lw_p58, List.forall_mem_cons.mpr ⟨lw_p59, List.forall_mem_cons.mpr ⟨lw_p60, List.forall_mem_cons.mpr ⟨lw_p61, List.forall_mem_cons.mpr ⟨lw_p62, List.forall_mem_cons.mpr ⟨lw_p63, fun _ h => absurd h List.not_mem_nil⟩⟩⟩⟩⟩⟩⟩⟩⟩⟩⟩⟩⟩⟩⟩⟩
theorem lw_p64 : lw_okq (⟨"TentMiddleModel", "sleptBy", "(I)I"⟩, 29) := ⟨⟨by decide +kernel, by decide +kernel⟩, List.mem_of_getElem? (i := 839) (by decide +kernel), List.mem_of_getElem? (i := 1207) (by decide +kernel), List.mem_of_getElem? (i := 1208) (by decide +kernel)⟩
theorem lw_p65 : lw_okq (⟨"TentMiddleModel", "worthNow", "()I"⟩, 29) := ⟨⟨by decide +kernel, by decide +kernel⟩, List.mem_of_getElem? (i := 839) (by decide +kernel), List.mem_of_getElem? (i := 1219) (by decide +kernel), List.mem_of_getElem? (i := 1220) (by decide +kernel)⟩
theorem lw_p66 : lw_okq (⟨"TentMiddleModel", "leastNow", "()I"⟩, 29) := ⟨⟨by decide +kernel, by decide +kernel⟩, List.mem_of_getElem? (i := 839) (by decide +kernel), List.mem_of_getElem? (i := 1227) (by decide +kernel), List.mem_of_getElem? (i := 1228) (by decide +kernel)⟩
theorem lw_p67 : lw_okq (⟨"TentMiddleModel", "toBest", "(IZ)I"⟩, 29) := ⟨⟨by decide +kernel, by decide +kernel⟩, List.mem_of_getElem? (i := 839) (by decide +kernel), List.mem_of_getElem? (i := 1235) (by decide +kernel), List.mem_of_getElem? (i := 1236) (by decide +kernel)⟩
theorem lw_p68 : lw_okq (⟨"TentMiddleModel", "orderMany", "()I"⟩, 29) := ⟨⟨by decide +kernel, by decide +kernel⟩, List.mem_of_getElem? (i := 839) (by decide +kernel), List.mem_of_getElem? (i := 1239) (by decide +kernel), List.mem_of_getElem? (i := 1240) (by decide +kernel)⟩
theorem lw_p69 : lw_okq (⟨"TentMiddleModel", "lieBy", "(I)V"⟩, 29) := ⟨⟨by decide +kernel, by decide +kernel⟩, List.mem_of_getElem? (i := 839) (by decide +kernel), List.mem_of_getElem? (i := 1243) (by decide +kernel), List.mem_of_getElem? (i := 1244) (by decide +kernel)⟩
theorem lw_p70 : lw_okq (⟨"TentMiddleModel", "layOrder", "(I)V"⟩, 29) := ⟨⟨by decide +kernel, by decide +kernel⟩, List.mem_of_getElem? (i := 839) (by decide +kernel), List.mem_of_getElem? (i := 1247) (by decide +kernel), List.mem_of_getElem? (i := 1248) (by decide +kernel)⟩
theorem lw_p71 : lw_okq (⟨"TentMiddleModel", "orderTo", "(II)V"⟩, 29) := ⟨⟨by decide +kernel, by decide +kernel⟩, List.mem_of_getElem? (i := 839) (by decide +kernel), List.mem_of_getElem? (i := 1251) (by decide +kernel), List.mem_of_getElem? (i := 1252) (by decide +kernel)⟩
theorem lw_p72 : lw_okq (⟨"TentMiddleModel", "leastIn", "(III)I"⟩, 29) := ⟨⟨by decide +kernel, by decide +kernel⟩, List.mem_of_getElem? (i := 839) (by decide +kernel), List.mem_of_getElem? (i := 1275) (by decide +kernel), List.mem_of_getElem? (i := 1276) (by decide +kernel)⟩
theorem lw_p73 : lw_okq (⟨"TentMiddleModel", "areHeard", "(I)Z"⟩, 29) := ⟨⟨by decide +kernel, by decide +kernel⟩, List.mem_of_getElem? (i := 839) (by decide +kernel), List.mem_of_getElem? (i := 1291) (by decide +kernel), List.mem_of_getElem? (i := 1292) (by decide +kernel)⟩
theorem lw_p74 : lw_okq (⟨"TentMiddleModel", "fits", "(III)Z"⟩, 29) := ⟨⟨by decide +kernel, by decide +kernel⟩, List.mem_of_getElem? (i := 839) (by decide +kernel), List.mem_of_getElem? (i := 1295) (by decide +kernel), List.mem_of_getElem? (i := 1296) (by decide +kernel)⟩
theorem lw_p75 : lw_okq (⟨"TentMiddleModel", "countOf", "(I)I"⟩, 29) := ⟨⟨by decide +kernel, by decide +kernel⟩, List.mem_of_getElem? (i := 839) (by decide +kernel), List.mem_of_getElem? (i := 1335) (by decide +kernel), List.mem_of_getElem? (i := 1336) (by decide +kernel)⟩
theorem lw_p76 : lw_okq (⟨"TentMiddleModel", "thereOf", "(I)I"⟩, 29) := ⟨⟨by decide +kernel, by decide +kernel⟩, List.mem_of_getElem? (i := 839) (by decide +kernel), List.mem_of_getElem? (i := 1339) (by decide +kernel), List.mem_of_getElem? (i := 1340) (by decide +kernel)⟩
def lw_privs_5 : List (MethodName × Nat) := [(⟨"TentMiddleModel", "sleptBy", "(I)I"⟩, 29), (⟨"TentMiddleModel", "worthNow", "()I"⟩, 29), (⟨"TentMiddleModel", "leastNow", "()I"⟩, 29), (⟨"TentMiddleModel", "toBest", "(IZ)I"⟩, 29), (⟨"TentMiddleModel", "orderMany", "()I"⟩, 29), (⟨"TentMiddleModel", "lieBy", "(I)V"⟩, 29), (⟨"TentMiddleModel", "layOrder", "(I)V"⟩, 29), (⟨"TentMiddleModel", "orderTo", "(II)V"⟩, 29), (⟨"TentMiddleModel", "leastIn", "(III)I"⟩, 29), (⟨"TentMiddleModel", "areHeard", "(I)Z"⟩, 29), (⟨"TentMiddleModel", "fits", "(III)Z"⟩, 29), (⟨"TentMiddleModel", "countOf", "(I)I"⟩, 29), (⟨"TentMiddleModel", "thereOf", "(I)I"⟩, 29)]
theorem lw_r5 : ∀ q ∈ lw_privs_5, lw_okq q := List.forall_mem_cons.mpr ⟨lw_p64, List.forall_mem_cons.mpr ⟨lw_p65, List.forall_mem_cons.mpr ⟨lw_p66, List.forall_mem_cons.mpr ⟨lw_p67, List.forall_mem_cons.mpr ⟨lw_p68, List.forall_mem_cons.mpr ⟨lw_p69, List.forall_mem_cons.mpr ⟨lw_p70, List.forall_mem_cons.mpr ⟨lw_p71, List.forall_mem_cons.mpr ⟨lw_p72, List.forall_mem_cons.mpr ⟨lw_p73, List.forall_mem_cons.mpr ⟨lw_p74, List.forall_mem_cons.mpr ⟨lw_p75, List.forall_mem_cons.mpr ⟨lw_p76, fun _ h => absurd h List.not_mem_nil⟩⟩⟩⟩⟩⟩⟩⟩⟩⟩⟩⟩⟩
def lw_privs : List (MethodName × Nat) := lw_privs_1 ++ (lw_privs_2 ++ (lw_privs_3 ++ (lw_privs_4 ++ (lw_privs_5))))
def lw_tbl : List Cond := k2_sels lw_privs ++ tables_1
theorem lw_privs_ok : ∀ q ∈ lw_privs, lw_okq q := by
  show ∀ q ∈ lw_privs_1 ++ (lw_privs_2 ++ (lw_privs_3 ++ (lw_privs_4 ++ (lw_privs_5)))), lw_okq q
  exact List.forall_mem_append.mpr ⟨lw_r1, List.forall_mem_append.mpr ⟨lw_r2, List.forall_mem_append.mpr ⟨lw_r3, List.forall_mem_append.mpr ⟨lw_r4, lw_r5⟩⟩⟩⟩
-- ===== end of PART A; then your names; then what follows =====
end
section
def RX0 : String := "TentMiddle$Camp"
def TX0 : u_T := fun k => match k with
  | 0 => ("TentMiddle$Camp", "cold", "[I", true)
  | 1 => ("TentMiddle$Camp", "kind", "[I", true)
  | 2 => ("TentMiddle$Camp", "gives", "[I", true)
  | 3 => ("TentMiddle$Camp", "bag", "[I", true)
  | 4 => ("TentMiddle$Camp", "place", "[I", true)
  | 5 => ("TentMiddle$Camp", "who", "[I", true)
  | 6 => ("TentMiddle$Camp", "trulySlept", "[I", true)
  | 7 => ("TentMiddle$Camp", "trulyAtRim", "[I", true)
  | 8 => ("TentMiddle$Camp", "calm", "[I", true)
  | 9 => ("TentMiddle$Camp", "past", "[I", true)
  | 10 => ("TentMiddle$Camp", "size", "I", false)
  | 11 => ("TentMiddle$Camp", "vent", "I", false)
  | 12 => ("TentMiddle$Camp", "bottle", "I", false)
  | 13 => ("TentMiddle$Camp", "turns", "I", false)
  | 14 => ("TentMiddle$Camp", "hour", "I", false)
  | 15 => ("TentMiddle$Camp", "night", "I", false)
  | _ => ("TentMiddle$Camp", "hours", "I", false)
def tyX0 : Nat → FieldType := fun k => match k with
  | 0 => .array .int
  | 1 => .array .int
  | 2 => .array .int
  | 3 => .array .int
  | 4 => .array .int
  | 5 => .array .int
  | 6 => .array .int
  | 7 => .array .int
  | 8 => .array .int
  | 9 => .array .int
  | 10 => .int
  | 11 => .int
  | 12 => .int
  | 13 => .int
  | 14 => .int
  | 15 => .int
  | _ => .int
theorem nmX0 : ∀ a, a < 17 → ∀ b, b < 17 → a ≠ b → (TX0 a).2.1 ≠ (TX0 b).2.1 := by decide +kernel
theorem tyX0_ok : ∀ k, k < 17 → parseFieldDescriptor (TX0 k).2.2.1 = some (tyX0 k) := by decide +kernel
def RX1 : String := "TentMiddle$Orders"
def TX1 : u_T := fun k => match k with
  | 0 => ("TentMiddle$Orders", "order", "[I", true)
  | _ => ("TentMiddle$Orders", "size", "I", false)
def tyX1 : Nat → FieldType := fun k => match k with
  | 0 => .array .int
  | _ => .int
theorem nmX1 : ∀ a, a < 2 → ∀ b, b < 2 → a ≠ b → (TX1 a).2.1 ≠ (TX1 b).2.1 := by decide +kernel
theorem tyX1_ok : ∀ k, k < 2 → parseFieldDescriptor (TX1 k).2.2.1 = some (tyX1 k) := by decide +kernel
def RX2 : String := "TentMiddle$Plan"
def TX2 : u_T := fun k => match k with
  | 0 => ("TentMiddle$Plan", "numbers", "[I", true)
  | 1 => ("TentMiddle$Plan", "lines", "[I", true)
  | 2 => ("TentMiddle$Plan", "mostOf", "[I", true)
  | 3 => ("TentMiddle$Plan", "sums", "[I", true)
  | 4 => ("TentMiddle$Plan", "chosen", "[I", true)
  | 5 => ("TentMiddle$Plan", "best", "[I", true)
  | 6 => ("TentMiddle$Plan", "bestLeast", "I", false)
  | 7 => ("TentMiddle$Plan", "many", "I", false)
  | _ => ("TentMiddle$Plan", "size", "I", false)
def tyX2 : Nat → FieldType := fun k => match k with
  | 0 => .array .int
  | 1 => .array .int
  | 2 => .array .int
  | 3 => .array .int
  | 4 => .array .int
  | 5 => .array .int
  | 6 => .int
  | 7 => .int
  | _ => .int
theorem nmX2 : ∀ a, a < 9 → ∀ b, b < 9 → a ≠ b → (TX2 a).2.1 ≠ (TX2 b).2.1 := by decide +kernel
theorem tyX2_ok : ∀ k, k < 9 → parseFieldDescriptor (TX2 k).2.2.1 = some (tyX2 k) := by decide +kernel
def RX3 : String := "TentMiddle$Reader"
def TX3 : u_T := fun k => match k with
  | 0 => ("TentMiddle$Reader", "camp", "LTentMiddle$Camp;", true)
  | 1 => ("TentMiddle$Reader", "signs", "[I", true)
  | 2 => ("TentMiddle$Reader", "size", "I", false)
  | _ => ("TentMiddle$Reader", "next", "I", false)
def tyX3 : Nat → FieldType := fun k => match k with
  | 0 => .object "TentMiddle$Camp"
  | 1 => .array .int
  | 2 => .int
  | _ => .int
theorem nmX3 : ∀ a, a < 4 → ∀ b, b < 4 → a ≠ b → (TX3 a).2.1 ≠ (TX3 b).2.1 := by decide +kernel
theorem tyX3_ok : ∀ k, k < 4 → parseFieldDescriptor (TX3 k).2.2.1 = some (tyX3 k) := by decide +kernel
def RX4 : String := "TentMiddle$Shelf"
def TX4 : u_T := fun k => match k with
  | 0 => ("TentMiddle$Shelf", "limit", "I", true)
  | 1 => ("TentMiddle$Shelf", "sizes", "[I", true)
  | _ => ("TentMiddle$Shelf", "cells", "[I", true)
def tyX4 : Nat → FieldType := fun k => match k with
  | 0 => .int
  | 1 => .array .int
  | _ => .array .int
theorem nmX4 : ∀ a, a < 3 → ∀ b, b < 3 → a ≠ b → (TX4 a).2.1 ≠ (TX4 b).2.1 := by decide +kernel
theorem tyX4_ok : ∀ k, k < 3 → parseFieldDescriptor (TX4 k).2.2.1 = some (tyX4 k) := by decide +kernel
def RX5 : String := "TentMiddle"
def TX5 : u_T := fun k => match k with
  | 0 => ("TentMiddle", "rows", "LTentMiddle$Shelf;", true)
  | 1 => ("TentMiddle", "texts", "LTentMiddle$Shelf;", true)
  | 2 => ("TentMiddle", "camp", "LTentMiddle$Camp;", true)
  | 3 => ("TentMiddle", "kept", "[LTentMiddle$Camp;", true)
  | 4 => ("TentMiddle", "trial", "LTentMiddle$Camp;", true)
  | 5 => ("TentMiddle", "reader", "LTentMiddle$Reader;", true)
  | 6 => ("TentMiddle", "orders", "LTentMiddle$Orders;", true)
  | 7 => ("TentMiddle", "plan", "LTentMiddle$Plan;", true)
  | 8 => ("TentMiddle", "findingCounts", "[I", true)
  | 9 => ("TentMiddle", "lastFinding", "I", false)
  | 10 => ("TentMiddle", "told", "I", false)
  | 11 => ("TentMiddle", "chanceUpper", "J", false)
  | _ => ("TentMiddle", "chanceLower", "J", false)
def tyX5 : Nat → FieldType := fun k => match k with
  | 0 => .object "TentMiddle$Shelf"
  | 1 => .object "TentMiddle$Shelf"
  | 2 => .object "TentMiddle$Camp"
  | 3 => .array (.object "TentMiddle$Camp")
  | 4 => .object "TentMiddle$Camp"
  | 5 => .object "TentMiddle$Reader"
  | 6 => .object "TentMiddle$Orders"
  | 7 => .object "TentMiddle$Plan"
  | 8 => .array .int
  | 9 => .int
  | 10 => .int
  | 11 => .long
  | _ => .long
theorem nmX5 : ∀ a, a < 13 → ∀ b, b < 13 → a ≠ b → (TX5 a).2.1 ≠ (TX5 b).2.1 := by decide +kernel
theorem tyX5_ok : ∀ k, k < 13 → parseFieldDescriptor (TX5 k).2.2.1 = some (tyX5 k) := by decide +kernel
def RX6 : String := "TentMiddleModel"
def TX6 : u_T := fun k => match k with
  | 0 => ("TentMiddleModel", "tent", "[I", true)
  | 1 => ("TentMiddleModel", "sleepers", "I", false)
  | 2 => ("TentMiddleModel", "kinds", "[I", true)
  | 3 => ("TentMiddleModel", "gives", "[I", true)
  | 4 => ("TentMiddleModel", "cold", "[I", true)
  | 5 => ("TentMiddleModel", "sizes", "[I", true)
  | 6 => ("TentMiddleModel", "items", "[I", true)
  | 7 => ("TentMiddleModel", "lengths", "[I", true)
  | 8 => ("TentMiddleModel", "bytes", "[I", true)
  | 9 => ("TentMiddleModel", "asked", "I", false)
  | 10 => ("TentMiddleModel", "upper", "J", false)
  | 11 => ("TentMiddleModel", "lower", "J", false)
  | 12 => ("TentMiddleModel", "finding", "I", false)
  | 13 => ("TentMiddleModel", "findings", "[I", true)
  | 14 => ("TentMiddleModel", "from", "I", false)
  | 15 => ("TentMiddleModel", "place", "I", false)
  | 16 => ("TentMiddleModel", "end", "I", false)
  | 17 => ("TentMiddleModel", "readCold", "[I", true)
  | 18 => ("TentMiddleModel", "readSleepers", "[I", true)
  | 19 => ("TentMiddleModel", "readMany", "I", false)
  | 20 => ("TentMiddleModel", "lies", "[I", true)
  | 21 => ("TentMiddleModel", "bags", "[I", true)
  | 22 => ("TentMiddleModel", "turnSet", "I", false)
  | 23 => ("TentMiddleModel", "bottleAt", "I", false)
  | 24 => ("TentMiddleModel", "quiet", "I", false)
  | 25 => ("TentMiddleModel", "other", "I", false)
  | 26 => ("TentMiddleModel", "otherKind", "I", false)
  | 27 => ("TentMiddleModel", "order", "[I", true)
  | _ => ("TentMiddleModel", "sleptIn", "[I", true)
def tyX6 : Nat → FieldType := fun k => match k with
  | 0 => .array .int
  | 1 => .int
  | 2 => .array .int
  | 3 => .array .int
  | 4 => .array .int
  | 5 => .array .int
  | 6 => .array .int
  | 7 => .array .int
  | 8 => .array .int
  | 9 => .int
  | 10 => .long
  | 11 => .long
  | 12 => .int
  | 13 => .array .int
  | 14 => .int
  | 15 => .int
  | 16 => .int
  | 17 => .array .int
  | 18 => .array .int
  | 19 => .int
  | 20 => .array .int
  | 21 => .array .int
  | 22 => .int
  | 23 => .int
  | 24 => .int
  | 25 => .int
  | 26 => .int
  | 27 => .array .int
  | _ => .array .int
theorem nmX6 : ∀ a, a < 29 → ∀ b, b < 29 → a ≠ b → (TX6 a).2.1 ≠ (TX6 b).2.1 := by decide +kernel
theorem tyX6_ok : ∀ k, k < 29 → parseFieldDescriptor (TX6 k).2.2.1 = some (tyX6 k) := by decide +kernel
def mcl : List vw_C := [(RX0, TX0, 17), (RX1, TX1, 2), (RX2, TX2, 9), (RX3, TX3, 4), (RX4, TX4, 3), (RX5, TX5, 13), (RX6, TX6, 29)]
def tyF (a b : Nat) : FieldType × Bool := match a with
  | 0 => (tyX0 b, (TX0 b).2.2.2)
  | 1 => (tyX1 b, (TX1 b).2.2.2)
  | 2 => (tyX2 b, (TX2 b).2.2.2)
  | 3 => (tyX3 b, (TX3 b).2.2.2)
  | 4 => (tyX4 b, (TX4 b).2.2.2)
  | 5 => (tyX5 b, (TX5 b).2.2.2)
  | _ => (tyX6 b, (TX6 b).2.2.2)
theorem tyF_ok {a b : Nat} {C : String} {T : u_T} {N : Nat} {f : FieldType} (h1 : mcl[a]? = some (C, T, N)) (h2 : b < N) (hf : (tyF a b).1 = f ∧ (tyF a b).2 = false) : ∃ ty0 : Nat → FieldType, (∀ k, k < N → parseFieldDescriptor (T k).2.2.1 = some (ty0 k)) ∧ (∀ a, a < N → ∀ b, b < N → a ≠ b → (T a).2.1 ≠ (T b).2.1) ∧ parseFieldDescriptor (T b).2.2.1 = some f ∧ (T b).2.2.2 = false := by
  obtain ⟨rfl, hf⟩ := hf
  match a, h1 with
  | 0, h1 => cases h1; exact ⟨tyX0, tyX0_ok, nmX0, tyX0_ok b h2, hf⟩
  | 1, h1 => cases h1; exact ⟨tyX1, tyX1_ok, nmX1, tyX1_ok b h2, hf⟩
  | 2, h1 => cases h1; exact ⟨tyX2, tyX2_ok, nmX2, tyX2_ok b h2, hf⟩
  | 3, h1 => cases h1; exact ⟨tyX3, tyX3_ok, nmX3, tyX3_ok b h2, hf⟩
  | 4, h1 => cases h1; exact ⟨tyX4, tyX4_ok, nmX4, tyX4_ok b h2, hf⟩
  | 5, h1 => cases h1; exact ⟨tyX5, tyX5_ok, nmX5, tyX5_ok b h2, hf⟩
  | 6, h1 => cases h1; exact ⟨tyX6, tyX6_ok, nmX6, tyX6_ok b h2, hf⟩
  | k + 7, h1 => cases h1
def T1 : List Cond := lw_tbl.filter goodWord
theorem T1_in {i : Nat} {w : Cond} (h : lw_tbl[i]? = some w) (g : goodWord w = true) : w ∈ T1 := List.mem_filter.mpr ⟨List.mem_of_getElem? h, g⟩
theorem T1_in1 {i : Nat} {w : Cond} (h : tables_1_1[i]? = some w) (g : goodWord w = true) : w ∈ T1 := List.mem_filter.mpr ⟨by
  show w ∈ k2_sels lw_privs ++ tables_1
  unfold tables_1
  simp only [List.mem_append]
  have := List.mem_of_getElem? h
  simp only [this, true_or, or_true], g⟩
theorem T1_in2 {i : Nat} {w : Cond} (h : tables_1_2[i]? = some w) (g : goodWord w = true) : w ∈ T1 := List.mem_filter.mpr ⟨by
  show w ∈ k2_sels lw_privs ++ tables_1
  unfold tables_1
  simp only [List.mem_append]
  have := List.mem_of_getElem? h
  simp only [this, true_or, or_true], g⟩
theorem T1_in3 {i : Nat} {w : Cond} (h : tables_1_3[i]? = some w) (g : goodWord w = true) : w ∈ T1 := List.mem_filter.mpr ⟨by
  show w ∈ k2_sels lw_privs ++ tables_1
  unfold tables_1
  simp only [List.mem_append]
  have := List.mem_of_getElem? h
  simp only [this, true_or, or_true], g⟩
theorem T1_in4 {i : Nat} {w : Cond} (h : tables_1_4[i]? = some w) (g : goodWord w = true) : w ∈ T1 := List.mem_filter.mpr ⟨by
  show w ∈ k2_sels lw_privs ++ tables_1
  unfold tables_1
  simp only [List.mem_append]
  have := List.mem_of_getElem? h
  simp only [this, true_or, or_true], g⟩
theorem T1_in5 {i : Nat} {w : Cond} (h : tables_1_5[i]? = some w) (g : goodWord w = true) : w ∈ T1 := List.mem_filter.mpr ⟨by
  show w ∈ k2_sels lw_privs ++ tables_1
  unfold tables_1
  simp only [List.mem_append]
  have := List.mem_of_getElem? h
  simp only [this, true_or, or_true], g⟩
theorem T1_in6 {i : Nat} {w : Cond} (h : tables_1_6[i]? = some w) (g : goodWord w = true) : w ∈ T1 := List.mem_filter.mpr ⟨by
  show w ∈ k2_sels lw_privs ++ tables_1
  unfold tables_1
  simp only [List.mem_append]
  have := List.mem_of_getElem? h
  simp only [this, true_or, or_true], g⟩
theorem T1_inP {i : Nat} {q : MethodName × Nat} (h : lw_privs[i]? = some q) : Cond.selects q.1.cls q.1 q.1 ∈ T1 := List.mem_filter.mpr ⟨List.mem_append_left _ (List.mem_map.mpr ⟨q, List.mem_of_getElem? h, rfl⟩), rfl⟩
set_option maxRecDepth 100000 in
theorem iX0 : ∀ w ∈ u_ws RX0 TX0 17, w ∈ T1 := by
  intro w hw
  obtain ⟨k, hk, rfl⟩ := List.mem_map.mp hw
  have hk : k < 17 := List.mem_range.mp hk
  match k, hk with
  | 0, _ => exact T1_in1 (i := 77) rfl rfl
  | 1, _ => exact T1_in1 (i := 79) rfl rfl
  | 2, _ => exact T1_in1 (i := 81) rfl rfl
  | 3, _ => exact T1_in1 (i := 83) rfl rfl
  | 4, _ => exact T1_in1 (i := 85) rfl rfl
  | 5, _ => exact T1_in1 (i := 87) rfl rfl
  | 6, _ => exact T1_in1 (i := 89) rfl rfl
  | 7, _ => exact T1_in1 (i := 91) rfl rfl
  | 8, _ => exact T1_in1 (i := 93) rfl rfl
  | 9, _ => exact T1_in1 (i := 95) rfl rfl
  | 10, _ => exact T1_in1 (i := 97) rfl rfl
  | 11, _ => exact T1_in1 (i := 99) rfl rfl
  | 12, _ => exact T1_in1 (i := 101) rfl rfl
  | 13, _ => exact T1_in1 (i := 103) rfl rfl
  | 14, _ => exact T1_in1 (i := 105) rfl rfl
  | 15, _ => exact T1_in1 (i := 107) rfl rfl
  | 16, _ => exact T1_in1 (i := 109) rfl rfl
  | k + 17, h => exact absurd h (by omega)
set_option maxRecDepth 100000 in
theorem iX1 : ∀ w ∈ u_ws RX1 TX1 2, w ∈ T1 := by
  intro w hw
  obtain ⟨k, hk, rfl⟩ := List.mem_map.mp hw
  have hk : k < 2 := List.mem_range.mp hk
  match k, hk with
  | 0, _ => exact T1_in1 (i := 144) rfl rfl
  | 1, _ => exact T1_in1 (i := 146) rfl rfl
  | k + 2, h => exact absurd h (by omega)
set_option maxRecDepth 100000 in
theorem iX2 : ∀ w ∈ u_ws RX2 TX2 9, w ∈ T1 := by
  intro w hw
  obtain ⟨k, hk, rfl⟩ := List.mem_map.mp hw
  have hk : k < 9 := List.mem_range.mp hk
  match k, hk with
  | 0, _ => exact T1_in1 (i := 164) rfl rfl
  | 1, _ => exact T1_in1 (i := 166) rfl rfl
  | 2, _ => exact T1_in1 (i := 168) rfl rfl
  | 3, _ => exact T1_in1 (i := 170) rfl rfl
  | 4, _ => exact T1_in1 (i := 172) rfl rfl
  | 5, _ => exact T1_in1 (i := 174) rfl rfl
  | 6, _ => exact T1_in1 (i := 176) rfl rfl
  | 7, _ => exact T1_in1 (i := 178) rfl rfl
  | 8, _ => exact T1_in1 (i := 180) rfl rfl
  | k + 9, h => exact absurd h (by omega)
set_option maxRecDepth 100000 in
theorem iX3 : ∀ w ∈ u_ws RX3 TX3 4, w ∈ T1 := by
  intro w hw
  obtain ⟨k, hk, rfl⟩ := List.mem_map.mp hw
  have hk : k < 4 := List.mem_range.mp hk
  match k, hk with
  | 0, _ => exact T1_in1 (i := 126) rfl rfl
  | 1, _ => exact T1_in1 (i := 128) rfl rfl
  | 2, _ => exact T1_in1 (i := 130) rfl rfl
  | 3, _ => exact T1_in1 (i := 132) rfl rfl
  | k + 4, h => exact absurd h (by omega)
set_option maxRecDepth 100000 in
theorem iX4 : ∀ w ∈ u_ws RX4 TX4 3, w ∈ T1 := by
  intro w hw
  obtain ⟨k, hk, rfl⟩ := List.mem_map.mp hw
  have hk : k < 3 := List.mem_range.mp hk
  match k, hk with
  | 0, _ => exact T1_in1 (i := 33) rfl rfl
  | 1, _ => exact T1_in1 (i := 35) rfl rfl
  | 2, _ => exact T1_in1 (i := 37) rfl rfl
  | k + 3, h => exact absurd h (by omega)
set_option maxRecDepth 100000 in
theorem iX5 : ∀ w ∈ u_ws RX5 TX5 13, w ∈ T1 := by
  intro w hw
  obtain ⟨k, hk, rfl⟩ := List.mem_map.mp hw
  have hk : k < 13 := List.mem_range.mp hk
  match k, hk with
  | 0, _ => exact T1_in1 (i := 196) rfl rfl
  | 1, _ => exact T1_in1 (i := 198) rfl rfl
  | 2, _ => exact T1_in1 (i := 200) rfl rfl
  | 3, _ => exact T1_in1 (i := 202) rfl rfl
  | 4, _ => exact T1_in1 (i := 204) rfl rfl
  | 5, _ => exact T1_in1 (i := 206) rfl rfl
  | 6, _ => exact T1_in1 (i := 208) rfl rfl
  | 7, _ => exact T1_in1 (i := 210) rfl rfl
  | 8, _ => exact T1_in1 (i := 212) rfl rfl
  | 9, _ => exact T1_in1 (i := 214) rfl rfl
  | 10, _ => exact T1_in1 (i := 216) rfl rfl
  | 11, _ => exact T1_in1 (i := 218) rfl rfl
  | 12, _ => exact T1_in1 (i := 220) rfl rfl
  | k + 13, h => exact absurd h (by omega)
set_option maxRecDepth 100000 in
theorem iX6 : ∀ w ∈ u_ws RX6 TX6 29, w ∈ T1 := by
  intro w hw
  obtain ⟨k, hk, rfl⟩ := List.mem_map.mp hw
  have hk : k < 29 := List.mem_range.mp hk
  match k, hk with
  | 0, _ => exact T1_in4 (i := 153) rfl rfl
  | 1, _ => exact T1_in4 (i := 155) rfl rfl
  | 2, _ => exact T1_in4 (i := 157) rfl rfl
  | 3, _ => exact T1_in4 (i := 159) rfl rfl
  | 4, _ => exact T1_in4 (i := 161) rfl rfl
  | 5, _ => exact T1_in4 (i := 163) rfl rfl
  | 6, _ => exact T1_in4 (i := 165) rfl rfl
  | 7, _ => exact T1_in4 (i := 167) rfl rfl
  | 8, _ => exact T1_in4 (i := 169) rfl rfl
  | 9, _ => exact T1_in4 (i := 171) rfl rfl
  | 10, _ => exact T1_in4 (i := 173) rfl rfl
  | 11, _ => exact T1_in4 (i := 175) rfl rfl
  | 12, _ => exact T1_in4 (i := 177) rfl rfl
  | 13, _ => exact T1_in4 (i := 179) rfl rfl
  | 14, _ => exact T1_in4 (i := 181) rfl rfl
  | 15, _ => exact T1_in4 (i := 183) rfl rfl
  | 16, _ => exact T1_in4 (i := 185) rfl rfl
  | 17, _ => exact T1_in4 (i := 187) rfl rfl
  | 18, _ => exact T1_in4 (i := 189) rfl rfl
  | 19, _ => exact T1_in4 (i := 191) rfl rfl
  | 20, _ => exact T1_in4 (i := 193) rfl rfl
  | 21, _ => exact T1_in4 (i := 195) rfl rfl
  | 22, _ => exact T1_in4 (i := 197) rfl rfl
  | 23, _ => exact T1_in4 (i := 199) rfl rfl
  | 24, _ => exact T1_in4 (i := 201) rfl rfl
  | 25, _ => exact T1_in4 (i := 203) rfl rfl
  | 26, _ => exact T1_in4 (i := 205) rfl rfl
  | 27, _ => exact T1_in4 (i := 207) rfl rfl
  | 28, _ => exact T1_in4 (i := 209) rfl rfl
  | k + 29, h => exact absurd h (by omega)
set_option maxRecDepth 100000 in
theorem minW : Cond.static Lib.Math.min.name ∈ T1 ∧ Cond.initialized "java/lang/Math" ∈ T1 ∧ Cond.code Lib.Math.min.name Lib.Math.min.code 2 (some .int) ∈ T1 := ⟨T1_in2 (i := 103) rfl rfl, T1_in1 (i := 10) rfl rfl, T1_in2 (i := 104) rfl rfl⟩
set_option maxRecDepth 100000 in
theorem maxW : Cond.static Lib.Math.max.name ∈ T1 ∧ Cond.initialized "java/lang/Math" ∈ T1 ∧ Cond.code Lib.Math.max.name Lib.Math.max.code 2 (some .int) ∈ T1 := ⟨T1_in3 (i := 238) rfl rfl, T1_in1 (i := 10) rfl rfl, T1_in3 (i := 239) rfl rfl⟩
set_option maxRecDepth 100000 in
theorem cpyW : Cond.native arraycopyName ∈ T1 ∧ Cond.static arraycopyName ∈ T1 ∧ Cond.initialized "java/lang/System" ∈ T1 := ⟨T1_in2 (i := 70) rfl rfl, T1_in2 (i := 69) rfl rfl, T1_in1 (i := 9) rfl rfl⟩
def nwFi : Nat := 334
def nwMi : Nat := 25
def y_Tent_init : MethodName := ⟨"TentMiddle", "<init>", "()V"⟩
def y_Object_init : MethodName := ⟨"java/lang/Object", "<init>", "()V"⟩
def y_Shelf_init : MethodName := ⟨"TentMiddle$Shelf", "<init>", "(II)V"⟩
def y_Arrays_fill2 : MethodName := ⟨"java/util/Arrays", "fill", "([II)V"⟩
def y_Camp_init : MethodName := ⟨"TentMiddle$Camp", "<init>", "(I)V"⟩
def y_Reader_init : MethodName := ⟨"TentMiddle$Reader", "<init>", "()V"⟩
def y_Orders_init : MethodName := ⟨"TentMiddle$Orders", "<init>", "()V"⟩
def y_Plan_init : MethodName := ⟨"TentMiddle$Plan", "<init>", "()V"⟩
def y_Tent_row : MethodName := ⟨"TentMiddle", "row", "(II)I"⟩
def y_Tent_makeIn : MethodName := ⟨"TentMiddle", "makeIn", "(LTentMiddle$Shelf;III)I"⟩
def y_Shelf_isNumber : MethodName := ⟨"TentMiddle$Shelf", "isNumber", "(I)Z"⟩
def y_Tent_found : MethodName := ⟨"TentMiddle", "found", "(I)I"⟩
def y_Shelf_make : MethodName := ⟨"TentMiddle$Shelf", "make", "(III)V"⟩
def y_Arrays_fill4 : MethodName := ⟨"java/util/Arrays", "fill", "([IIII)V"⟩
def y_Arrays_rangeCheck : MethodName := ⟨"java/util/Arrays", "rangeCheck", "(III)V"⟩
def y_Tent_lay : MethodName := ⟨"TentMiddle", "lay", "(III)I"⟩
def y_Tent_refusePlace : MethodName := ⟨"TentMiddle", "refusePlace", "(LTentMiddle$Shelf;II)I"⟩
def y_Tent_refuseMissing : MethodName := ⟨"TentMiddle", "refuseMissing", "(LTentMiddle$Shelf;I)I"⟩
def y_Shelf_isThere : MethodName := ⟨"TentMiddle$Shelf", "isThere", "(I)Z"⟩
def y_Shelf_sizeOf : MethodName := ⟨"TentMiddle$Shelf", "sizeOf", "(I)I"⟩
def y_Shelf_hasPlace : MethodName := ⟨"TentMiddle$Shelf", "hasPlace", "(II)Z"⟩
def y_Shelf_get : MethodName := ⟨"TentMiddle$Shelf", "get", "(II)I"⟩
def y_Shelf_set : MethodName := ⟨"TentMiddle$Shelf", "set", "(III)V"⟩
def y_Tent_at : MethodName := ⟨"TentMiddle", "at", "(II)I"⟩
def y_Tent_tear : MethodName := ⟨"TentMiddle", "tear", "(I)I"⟩
def y_Shelf_remove : MethodName := ⟨"TentMiddle$Shelf", "remove", "(I)V"⟩
def y_Tent_copy : MethodName := ⟨"TentMiddle", "copy", "(IIIII)I"⟩
def y_Shelf_hasSpan : MethodName := ⟨"TentMiddle$Shelf", "hasSpan", "(III)Z"⟩
def y_Shelf_move : MethodName := ⟨"TentMiddle$Shelf", "move", "(IIIII)V"⟩
def y_Tent_mean : MethodName := ⟨"TentMiddle", "mean", "(I)I"⟩
def y_Shelf_sum : MethodName := ⟨"TentMiddle$Shelf", "sum", "(I)J"⟩
def y_Tent_text : MethodName := ⟨"TentMiddle", "text", "(II)I"⟩
def y_Tent_put : MethodName := ⟨"TentMiddle", "put", "(III)I"⟩
def y_Tent_fault : MethodName := ⟨"TentMiddle", "fault", "(I)I"⟩
def y_Reader_read : MethodName := ⟨"TentMiddle$Reader", "read", "(LTentMiddle$Shelf;I)I"⟩
def y_Reader_take : MethodName := ⟨"TentMiddle$Reader", "take", "(LTentMiddle$Shelf;I)V"⟩
def y_Math_min : MethodName := ⟨"java/lang/Math", "min", "(II)I"⟩
def y_Camp_begin : MethodName := ⟨"TentMiddle$Camp", "begin", "()V"⟩
def y_Reader_readCold : MethodName := ⟨"TentMiddle$Reader", "readCold", "()Z"⟩
def y_Reader_skipBlanks : MethodName := ⟨"TentMiddle$Reader", "skipBlanks", "()V"⟩
def y_Reader_sign : MethodName := ⟨"TentMiddle$Reader", "sign", "()I"⟩
def y_Reader_readFigure : MethodName := ⟨"TentMiddle$Reader", "readFigure", "(I)I"⟩
def y_Reader_readSleeper : MethodName := ⟨"TentMiddle$Reader", "readSleeper", "()Z"⟩
def y_Reader_kindOf : MethodName := ⟨"TentMiddle$Reader", "kindOf", "(I)I"⟩
def y_Camp_add : MethodName := ⟨"TentMiddle$Camp", "add", "(III)V"⟩
def y_Tent_tent : MethodName := ⟨"TentMiddle", "tent", "(I)I"⟩
def y_Camp_takeWhole : MethodName := ⟨"TentMiddle$Camp", "takeWhole", "(LTentMiddle$Camp;)V"⟩
def y_Camp_takePresent : MethodName := ⟨"TentMiddle$Camp", "takePresent", "(LTentMiddle$Camp;)V"⟩
def y_Tent_sleeper : MethodName := ⟨"TentMiddle", "sleeper", "(II)I"⟩
def y_Camp_isSleeper : MethodName := ⟨"TentMiddle$Camp", "isSleeper", "(I)Z"⟩
def y_Camp_trait : MethodName := ⟨"TentMiddle$Camp", "trait", "(II)I"⟩
def y_Camp_givenFrom : MethodName := ⟨"TentMiddle$Camp", "givenFrom", "(I)I"⟩
def y_Tent_mark : MethodName := ⟨"TentMiddle", "mark", "(II)I"⟩
def y_Camp_isOf : MethodName := ⟨"TentMiddle$Camp", "isOf", "(II)Z"⟩
def y_Camp_hearersOf : MethodName := ⟨"TentMiddle$Camp", "hearersOf", "(I)I"⟩
def y_Camp_reach : MethodName := ⟨"TentMiddle$Camp", "reach", "(I)I"⟩
def y_Camp_hearsWithin : MethodName := ⟨"TentMiddle$Camp", "hearsWithin", "(III)Z"⟩
def y_Camp_isWithin : MethodName := ⟨"TentMiddle$Camp", "isWithin", "(III)Z"⟩
def y_Camp_snorersNear : MethodName := ⟨"TentMiddle$Camp", "snorersNear", "(I)I"⟩
def y_Camp_givenAway : MethodName := ⟨"TentMiddle$Camp", "givenAway", "(I)I"⟩
def y_Camp_snorers : MethodName := ⟨"TentMiddle$Camp", "snorers", "()I"⟩
def y_Integer_bitCount : MethodName := ⟨"java/lang/Integer", "bitCount", "(I)I"⟩
def y_Tent_vent : MethodName := ⟨"TentMiddle", "vent", "(I)I"⟩
def y_Tent_bottle : MethodName := ⟨"TentMiddle", "bottle", "(I)I"⟩
def y_Tent_turns : MethodName := ⟨"TentMiddle", "turns", "(I)I"⟩
def y_Tent_change : MethodName := ⟨"TentMiddle", "change", "(II)I"⟩
def y_Tent_swap : MethodName := ⟨"TentMiddle", "swap", "([III)V"⟩
def y_Camp_fillPlaces : MethodName := ⟨"TentMiddle$Camp", "fillPlaces", "()V"⟩
def y_Tent_bags : MethodName := ⟨"TentMiddle", "bags", "(II)I"⟩
def y_Tent_lie : MethodName := ⟨"TentMiddle", "lie", "(I)I"⟩
def y_Tent_refuseRowForPlaces : MethodName := ⟨"TentMiddle", "refuseRowForPlaces", "(I)I"⟩
def y_Tent_refuseRowToFill : MethodName := ⟨"TentMiddle", "refuseRowToFill", "(I)I"⟩
def y_Tent_holdsOrder : MethodName := ⟨"TentMiddle", "holdsOrder", "(I)Z"⟩
def y_Orders_readFrom : MethodName := ⟨"TentMiddle$Orders", "readFrom", "(LTentMiddle$Shelf;II)V"⟩
def y_Camp_layBy : MethodName := ⟨"TentMiddle$Camp", "layBy", "([I)V"⟩
def y_Tent_hour : MethodName := ⟨"TentMiddle", "hour", "()I"⟩
def y_Camp_passHour : MethodName := ⟨"TentMiddle$Camp", "passHour", "()I"⟩
def y_Camp_sleepingOnes : MethodName := ⟨"TentMiddle$Camp", "sleepingOnes", "(I)I"⟩
def y_Camp_reasons : MethodName := ⟨"TentMiddle$Camp", "reasons", "(II)I"⟩
def y_Camp_feeling : MethodName := ⟨"TentMiddle$Camp", "feeling", "(II)I"⟩
def y_Camp_steadyFeeling : MethodName := ⟨"TentMiddle$Camp", "steadyFeeling", "(I)I"⟩
def y_Camp_isAtRim : MethodName := ⟨"TentMiddle$Camp", "isAtRim", "(I)Z"⟩
def y_Camp_hourlyFeeling : MethodName := ⟨"TentMiddle$Camp", "hourlyFeeling", "(II)I"⟩
def y_Camp_hearsAny : MethodName := ⟨"TentMiddle$Camp", "hearsAny", "(I)Z"⟩
def y_Camp_soreHours : MethodName := ⟨"TentMiddle$Camp", "soreHours", "()I"⟩
def y_Camp_wokenHours : MethodName := ⟨"TentMiddle$Camp", "wokenHours", "(I)I"⟩
def y_Camp_remember : MethodName := ⟨"TentMiddle$Camp", "remember", "()V"⟩
def y_Tent_night : MethodName := ⟨"TentMiddle", "night", "()I"⟩
def y_Tent_undo : MethodName := ⟨"TentMiddle", "undo", "(I)I"⟩
def y_Camp_recall : MethodName := ⟨"TentMiddle$Camp", "recall", "(I)V"⟩
def y_Tent_now : MethodName := ⟨"TentMiddle", "now", "()I"⟩
def y_Tent_keep : MethodName := ⟨"TentMiddle", "keep", "(I)I"⟩
def y_Tent_on : MethodName := ⟨"TentMiddle", "on", "(I)I"⟩
def y_Tent_isKept : MethodName := ⟨"TentMiddle", "isKept", "(I)Z"⟩
def y_Tent_feels : MethodName := ⟨"TentMiddle", "feels", "(II)I"⟩
def y_Tent_isHour : MethodName := ⟨"TentMiddle", "isHour", "(I)Z"⟩
def y_Tent_why : MethodName := ⟨"TentMiddle", "why", "(II)I"⟩
def y_Tent_sleeps : MethodName := ⟨"TentMiddle", "sleeps", "(I)I"⟩
def y_Camp_coldOnes : MethodName := ⟨"TentMiddle$Camp", "coldOnes", "(I)I"⟩
def y_Tent_slept : MethodName := ⟨"TentMiddle", "slept", "(I)I"⟩
def y_Camp_hoursSlept : MethodName := ⟨"TentMiddle$Camp", "hoursSlept", "(I)I"⟩
def y_Camp_calmHours : MethodName := ⟨"TentMiddle$Camp", "calmHours", "(I)I"⟩
def y_Tent_coldest : MethodName := ⟨"TentMiddle", "coldest", "()I"⟩
def y_Tent_good : MethodName := ⟨"TentMiddle", "good", "(I)I"⟩
def y_Camp_sleptByOthers : MethodName := ⟨"TentMiddle$Camp", "sleptByOthers", "(I)I"⟩
def y_Camp_sleptByAll : MethodName := ⟨"TentMiddle$Camp", "sleptByAll", "()I"⟩
def y_Tent_worth : MethodName := ⟨"TentMiddle", "worth", "()I"⟩
def y_Camp_leastSlept : MethodName := ⟨"TentMiddle$Camp", "leastSlept", "()I"⟩
def y_Tent_best : MethodName := ⟨"TentMiddle", "best", "(I)I"⟩
def y_Tent_seekOrder : MethodName := ⟨"TentMiddle", "seekOrder", "(II)I"⟩
def y_Orders_begin : MethodName := ⟨"TentMiddle$Orders", "begin", "(I)V"⟩
def y_Camp_takeBags : MethodName := ⟨"TentMiddle$Camp", "takeBags", "(LTentMiddle$Camp;[I)V"⟩
def y_Orders_advance : MethodName := ⟨"TentMiddle$Orders", "advance", "()Z"⟩
def y_Orders_goTo : MethodName := ⟨"TentMiddle$Orders", "goTo", "(II)V"⟩
def y_Orders_howMany : MethodName := ⟨"TentMiddle$Orders", "howMany", "(I)I"⟩
def y_Orders_pick : MethodName := ⟨"TentMiddle$Orders", "pick", "(II)I"⟩
def y_Orders_writeTo : MethodName := ⟨"TentMiddle$Orders", "writeTo", "(LTentMiddle$Shelf;I)V"⟩
def y_Tent_fair : MethodName := ⟨"TentMiddle", "fair", "(I)I"⟩
def y_Tent_turning : MethodName := ⟨"TentMiddle", "turning", "()I"⟩
def y_Camp_noteCalm : MethodName := ⟨"TentMiddle$Camp", "noteCalm", "()V"⟩
def y_Camp_sleptOfCalm : MethodName := ⟨"TentMiddle$Camp", "sleptOfCalm", "()I"⟩
def y_Tent_warm : MethodName := ⟨"TentMiddle", "warm", "()I"⟩
def y_Tent_thin : MethodName := ⟨"TentMiddle", "thin", "(I)I"⟩
def y_Tent_nights : MethodName := ⟨"TentMiddle", "nights", "(II)I"⟩
def y_Plan_begin : MethodName := ⟨"TentMiddle$Plan", "begin", "(I)V"⟩
def y_Plan_offer : MethodName := ⟨"TentMiddle$Plan", "offer", "(ILTentMiddle$Camp;)V"⟩
def y_Math_max : MethodName := ⟨"java/lang/Math", "max", "(II)I"⟩
def y_Plan_isNeedless : MethodName := ⟨"TentMiddle$Plan", "isNeedless", "()Z"⟩
def y_Plan_choose : MethodName := ⟨"TentMiddle$Plan", "choose", "(I)I"⟩
def y_Plan_chooseFrom : MethodName := ⟨"TentMiddle$Plan", "chooseFrom", "(III)V"⟩
def y_Plan_bound : MethodName := ⟨"TentMiddle$Plan", "bound", "(II)I"⟩
def y_Plan_writeTo : MethodName := ⟨"TentMiddle$Plan", "writeTo", "(LTentMiddle$Shelf;II)V"⟩
def y_Tent_nth : MethodName := ⟨"TentMiddle", "nth", "(II)I"⟩
def y_Tent_out : MethodName := ⟨"TentMiddle", "out", "(I)I"⟩
def y_Tent_whose : MethodName := ⟨"TentMiddle", "whose", "(I)I"⟩
def y_Tent_suspects : MethodName := ⟨"TentMiddle", "suspects", "(II)I"⟩
def y_Tent_fitsWhatWasHeard : MethodName := ⟨"TentMiddle", "fitsWhatWasHeard", "(III)Z"⟩
def y_Tent_kinds : MethodName := ⟨"TentMiddle", "kinds", "(II)I"⟩
def y_Tent_odds : MethodName := ⟨"TentMiddle", "odds", "(III)I"⟩
def y_Tent_tellPower : MethodName := ⟨"TentMiddle", "tellPower", "(II)V"⟩
def y_Camp_mustStayIn : MethodName := ⟨"TentMiddle$Camp", "mustStayIn", "(I)I"⟩
def y_Tent_lots : MethodName := ⟨"TentMiddle", "lots", "(I)I"⟩
def y_Orders_draw : MethodName := ⟨"TentMiddle$Orders", "draw", "(II)V"⟩
def y_Tent_asked : MethodName := ⟨"TentMiddle", "asked", "()I"⟩
def y_Tent_upper : MethodName := ⟨"TentMiddle", "upper", "()J"⟩
def y_Tent_lower : MethodName := ⟨"TentMiddle", "lower", "()J"⟩
def y_Tent_count : MethodName := ⟨"TentMiddle", "count", "(I)I"⟩
def y_Shelf_howManyThere : MethodName := ⟨"TentMiddle$Shelf", "howManyThere", "()I"⟩
def y_Tent_keptTents : MethodName := ⟨"TentMiddle", "keptTents", "()I"⟩
def y_Tent_finding : MethodName := ⟨"TentMiddle", "finding", "()I"⟩
def y_Tent_findings : MethodName := ⟨"TentMiddle", "findings", "(I)I"⟩
def y_Tent_digest : MethodName := ⟨"TentMiddle", "digest", "()J"⟩
def y_Shelf_digestOn : MethodName := ⟨"TentMiddle$Shelf", "digestOn", "(J)J"⟩
def y_Mod_init : MethodName := ⟨"TentMiddleModel", "<init>", "()V"⟩
def y_Mod_row : MethodName := ⟨"TentMiddleModel", "row", "(II)I"⟩
def y_Mod_isRow : MethodName := ⟨"TentMiddleModel", "isRow", "(I)Z"⟩
def y_Mod_in : MethodName := ⟨"TentMiddleModel", "in", "(JJJ)Z"⟩
def y_Mod_find : MethodName := ⟨"TentMiddleModel", "find", "(I)I"⟩
def y_Mod_makeRow : MethodName := ⟨"TentMiddleModel", "makeRow", "(II)V"⟩
def y_Mod_lay : MethodName := ⟨"TentMiddleModel", "lay", "(III)I"⟩
def y_Mod_refused : MethodName := ⟨"TentMiddleModel", "refused", "(II)I"⟩
def y_Mod_tell : MethodName := ⟨"TentMiddleModel", "tell", "(I)I"⟩
def y_Mod_at : MethodName := ⟨"TentMiddleModel", "at", "(II)I"⟩
def y_Mod_tear : MethodName := ⟨"TentMiddleModel", "tear", "(I)I"⟩
def y_Mod_copy : MethodName := ⟨"TentMiddleModel", "copy", "(IIIII)I"⟩
def y_Mod_isSpan : MethodName := ⟨"TentMiddleModel", "isSpan", "(III)Z"⟩
def y_Mod_mean : MethodName := ⟨"TentMiddleModel", "mean", "(I)I"⟩
def y_Mod_text : MethodName := ⟨"TentMiddleModel", "text", "(II)I"⟩
def y_Mod_isText : MethodName := ⟨"TentMiddleModel", "isText", "(I)Z"⟩
def y_Mod_put : MethodName := ⟨"TentMiddleModel", "put", "(III)I"⟩
def y_Mod_fault : MethodName := ⟨"TentMiddleModel", "fault", "(I)I"⟩
def y_Mod_faultOf : MethodName := ⟨"TentMiddleModel", "faultOf", "(I)I"⟩
def y_Mod_readsCold : MethodName := ⟨"TentMiddleModel", "readsCold", "()Z"⟩
def y_Mod_skip : MethodName := ⟨"TentMiddleModel", "skip", "()V"⟩
def y_Mod_here : MethodName := ⟨"TentMiddleModel", "here", "()I"⟩
def y_Mod_figure : MethodName := ⟨"TentMiddleModel", "figure", "(I)I"⟩
def y_Mod_readsSleeper : MethodName := ⟨"TentMiddleModel", "readsSleeper", "()Z"⟩
def y_Mod_kindHere : MethodName := ⟨"TentMiddleModel", "kindHere", "()I"⟩
def y_Mod_tent : MethodName := ⟨"TentMiddleModel", "tent", "(I)I"⟩
def y_Mod_sleeper : MethodName := ⟨"TentMiddleModel", "sleeper", "(II)I"⟩
def y_Mod_isSleeper : MethodName := ⟨"TentMiddleModel", "isSleeper", "(I)Z"⟩
def y_Mod_toldOf : MethodName := ⟨"TentMiddleModel", "toldOf", "(II)I"⟩
def y_Mod_layNow : MethodName := ⟨"TentMiddleModel", "layNow", "()V"⟩
def y_Mod_givesOf : MethodName := ⟨"TentMiddleModel", "givesOf", "(I)I"⟩
def y_Mod_kindOf : MethodName := ⟨"TentMiddleModel", "kindOf", "(I)I"⟩
def y_Mod_placeOf : MethodName := ⟨"TentMiddleModel", "placeOf", "(I)I"⟩
def y_Mod_mark : MethodName := ⟨"TentMiddleModel", "mark", "(II)I"⟩
def y_Mod_isOf : MethodName := ⟨"TentMiddleModel", "isOf", "(II)Z"⟩
def y_Mod_heardBy : MethodName := ⟨"TentMiddleModel", "heardBy", "(I)I"⟩
def y_Mod_hearsNone : MethodName := ⟨"TentMiddleModel", "hearsNone", "(I)Z"⟩
def y_Mod_reaches : MethodName := ⟨"TentMiddleModel", "reaches", "(II)Z"⟩
def y_Mod_isSnoring : MethodName := ⟨"TentMiddleModel", "isSnoring", "(I)Z"⟩
def y_Mod_snorersNear : MethodName := ⟨"TentMiddleModel", "snorersNear", "(I)I"⟩
def y_Mod_beside : MethodName := ⟨"TentMiddleModel", "beside", "(I)I"⟩
def y_Mod_snorers : MethodName := ⟨"TentMiddleModel", "snorers", "()I"⟩
def y_Mod_bits : MethodName := ⟨"TentMiddleModel", "bits", "(I)I"⟩
def y_Mod_vent : MethodName := ⟨"TentMiddleModel", "vent", "(I)I"⟩
def y_Mod_bottle : MethodName := ⟨"TentMiddleModel", "bottle", "(I)I"⟩
def y_Mod_turns : MethodName := ⟨"TentMiddleModel", "turns", "(I)I"⟩
def y_Mod_change : MethodName := ⟨"TentMiddleModel", "change", "(II)I"⟩
def y_Mod_swap : MethodName := ⟨"TentMiddleModel", "swap", "(II)V"⟩
def y_Mod_bags : MethodName := ⟨"TentMiddleModel", "bags", "(II)I"⟩
def y_Mod_lie : MethodName := ⟨"TentMiddleModel", "lie", "(I)I"⟩
def y_Mod_isOrder : MethodName := ⟨"TentMiddleModel", "isOrder", "(I)Z"⟩
def y_Mod_hour : MethodName := ⟨"TentMiddleModel", "hour", "()I"⟩
def y_Mod_sleepsIn : MethodName := ⟨"TentMiddleModel", "sleepsIn", "(I)I"⟩
def y_Mod_whyNot : MethodName := ⟨"TentMiddleModel", "whyNot", "(II)I"⟩
def y_Mod_feelsIn : MethodName := ⟨"TentMiddleModel", "feelsIn", "(II)I"⟩
def y_Mod_isRim : MethodName := ⟨"TentMiddleModel", "isRim", "(I)Z"⟩
def y_Mod_hears : MethodName := ⟨"TentMiddleModel", "hears", "(I)Z"⟩
def y_Mod_isSore : MethodName := ⟨"TentMiddleModel", "isSore", "(I)Z"⟩
def y_Mod_has : MethodName := ⟨"TentMiddleModel", "has", "(II)Z"⟩
def y_Mod_night : MethodName := ⟨"TentMiddleModel", "night", "()I"⟩
def y_Mod_undo : MethodName := ⟨"TentMiddleModel", "undo", "(I)I"⟩
def y_Mod_now : MethodName := ⟨"TentMiddleModel", "now", "()I"⟩
def y_Mod_keep : MethodName := ⟨"TentMiddleModel", "keep", "(I)I"⟩
def y_Mod_copyTent : MethodName := ⟨"TentMiddleModel", "copyTent", "(II)V"⟩
def y_Mod_on : MethodName := ⟨"TentMiddleModel", "on", "(I)I"⟩
def y_Mod_feels : MethodName := ⟨"TentMiddleModel", "feels", "(II)I"⟩
def y_Mod_isHour : MethodName := ⟨"TentMiddleModel", "isHour", "(I)Z"⟩
def y_Mod_why : MethodName := ⟨"TentMiddleModel", "why", "(II)I"⟩
def y_Mod_sleeps : MethodName := ⟨"TentMiddleModel", "sleeps", "(I)I"⟩
def y_Mod_slept : MethodName := ⟨"TentMiddleModel", "slept", "(I)I"⟩
def y_Mod_sleptBy : MethodName := ⟨"TentMiddleModel", "sleptBy", "(I)I"⟩
def y_Mod_coldest : MethodName := ⟨"TentMiddleModel", "coldest", "()I"⟩
def y_Mod_good : MethodName := ⟨"TentMiddleModel", "good", "(I)I"⟩
def y_Mod_worthNow : MethodName := ⟨"TentMiddleModel", "worthNow", "()I"⟩
def y_Mod_worth : MethodName := ⟨"TentMiddleModel", "worth", "()I"⟩
def y_Mod_leastNow : MethodName := ⟨"TentMiddleModel", "leastNow", "()I"⟩
def y_Mod_best : MethodName := ⟨"TentMiddleModel", "best", "(I)I"⟩
def y_Mod_toBest : MethodName := ⟨"TentMiddleModel", "toBest", "(IZ)I"⟩
def y_Mod_orderMany : MethodName := ⟨"TentMiddleModel", "orderMany", "()I"⟩
def y_Mod_lieBy : MethodName := ⟨"TentMiddleModel", "lieBy", "(I)V"⟩
def y_Mod_layOrder : MethodName := ⟨"TentMiddleModel", "layOrder", "(I)V"⟩
def y_Mod_orderTo : MethodName := ⟨"TentMiddleModel", "orderTo", "(II)V"⟩
def y_Mod_fair : MethodName := ⟨"TentMiddleModel", "fair", "(I)I"⟩
def y_Mod_turning : MethodName := ⟨"TentMiddleModel", "turning", "()I"⟩
def y_Mod_warm : MethodName := ⟨"TentMiddleModel", "warm", "()I"⟩
def y_Mod_thin : MethodName := ⟨"TentMiddleModel", "thin", "(I)I"⟩
def y_Mod_nights : MethodName := ⟨"TentMiddleModel", "nights", "(II)I"⟩
def y_Mod_leastIn : MethodName := ⟨"TentMiddleModel", "leastIn", "(III)I"⟩
def y_Mod_nth : MethodName := ⟨"TentMiddleModel", "nth", "(II)I"⟩
def y_Mod_out : MethodName := ⟨"TentMiddleModel", "out", "(I)I"⟩
def y_Mod_whose : MethodName := ⟨"TentMiddleModel", "whose", "(I)I"⟩
def y_Mod_areHeard : MethodName := ⟨"TentMiddleModel", "areHeard", "(I)Z"⟩
def y_Mod_fits : MethodName := ⟨"TentMiddleModel", "fits", "(III)Z"⟩
def y_Mod_kinds : MethodName := ⟨"TentMiddleModel", "kinds", "(II)I"⟩
def y_Mod_odds : MethodName := ⟨"TentMiddleModel", "odds", "(III)I"⟩
def y_Mod_divisor : MethodName := ⟨"TentMiddleModel", "divisor", "(JJ)J"⟩
def y_Mod_lots : MethodName := ⟨"TentMiddleModel", "lots", "(I)I"⟩
def y_Mod_asked : MethodName := ⟨"TentMiddleModel", "asked", "()I"⟩
def y_Mod_upper : MethodName := ⟨"TentMiddleModel", "upper", "()J"⟩
def y_Mod_lower : MethodName := ⟨"TentMiddleModel", "lower", "()J"⟩
def y_Mod_count : MethodName := ⟨"TentMiddleModel", "count", "(I)I"⟩
def y_Mod_countOf : MethodName := ⟨"TentMiddleModel", "countOf", "(I)I"⟩
def y_Mod_thereOf : MethodName := ⟨"TentMiddleModel", "thereOf", "(I)I"⟩
def y_Mod_finding : MethodName := ⟨"TentMiddleModel", "finding", "()I"⟩
def y_Mod_findings : MethodName := ⟨"TentMiddleModel", "findings", "(I)I"⟩
def y_Mod_digest : MethodName := ⟨"TentMiddleModel", "digest", "()J"⟩
end
section
-- THE MINI MACHINE: values, the fixed world of both sides, pure instructions
abbrev CI : Type := (Nat × Nat) ⊕ (Nat × Nat)
abbrev MV : Type := Int32 ⊕ (Int64 ⊕ CI)
abbrev mI (x : Int32) : MV := Sum.inl x
abbrev mL (x : Int64) : MV := Sum.inr (Sum.inl x)
abbrev mR (g t : Nat) : MV := Sum.inr (Sum.inr (Sum.inl (g, t)))
abbrev mA (g t : Nat) : MV := Sum.inr (Sum.inr (Sum.inr (g, t)))
abbrev St : Type := (Nat → Nat → Nat → Int32) × (Nat → Nat → Nat → Int64)
def cv (ad : CI → Nat) (v : MV) : Value := match v with
  | .inl x => .int x
  | .inr (.inl x) => .long x
  | .inr (.inr r) => .ref (ad r)
/-- an object's number in mcl, and its fields' kinds: 0 int, 1 long, 2 an object, 3 an array -/
def objOf (g : Nat) : Option (Nat × List Nat) :=
  bif Nat.beq g 0 then some (5, [2, 2, 2, 2, 2, 2, 2, 2, 3, 0, 0, 1, 1]) else
  bif Nat.beq g 1 then some (4, [0, 3, 3]) else
  bif Nat.beq g 4 then some (0, [3, 3, 3, 3, 3, 3, 3, 3, 3, 3, 0, 0, 0, 0, 0, 0, 0]) else
  bif Nat.beq g 16 then some (3, [2, 3, 0, 0]) else
  bif Nat.beq g 18 then some (1, [3, 0]) else
  bif Nat.beq g 20 then some (2, [3, 3, 3, 3, 3, 3, 0, 0, 0]) else
  bif Nat.beq g 30 then some (6, [3, 0, 3, 3, 3, 3, 3, 3, 3, 0, 1, 1, 0, 3, 0, 0, 0, 3, 3, 0, 3, 3, 0, 0, 0, 0, 0, 3, 3]) else none
/-- what a field that is a reference holds; 15: the row of kept tents -/
def rfv (g t j : Nat) : CI :=
  bif Nat.beq g 4 then .inr (5 + j, t) else
  bif Nat.beq g 1 then .inr (1 + j, t) else
  bif Nat.beq g 15 then .inl (4, 1 + j) else
  bif Nat.beq g 0 then ([.inl (1, 0), .inl (1, 1), .inl (4, 0), .inl (15, 0), .inl (4, 4), .inl (16, 0), .inl (18, 0), .inl (20, 0)] : List CI).getD j (.inr (27, 0)) else
  bif Nat.beq g 16 then (bif Nat.beq j 0 then .inl (4, 5) else .inr (17, 0)) else
  bif Nat.beq g 18 then .inr (19, 0) else
  bif Nat.beq g 20 then .inr (21 + j, 0) else
  .inr (([31, 0, 32, 33, 34, 35, 36, 37, 38, 0, 0, 0, 0, 39, 0, 0, 0, 40, 41, 0, 42, 43, 0, 0, 0, 0, 0, 44, 45] : List Nat).getD j 0, 0)
def lenTab : List Nat := [0, 0, 0, 240, 0, 8, 5, 5, 5, 5, 5, 5, 5, 5, 0, 0, 0, 60, 0, 5, 0, 120, 600, 5, 20, 3, 3, 6, 0, 0, 0, 4104, 5, 5, 8, 6, 240, 4, 240, 6, 8, 15, 5, 5, 5, 600]
def lenOf (g t : Nat) : Nat :=
  bif Nat.beq g 2 then (bif Nat.beq t 0 then 6 else 4) else
  bif Nat.beq g 14 then (bif Nat.ble t 3 then 1000 else 0) else lenTab.getD g 0
def mcells : List CI :=
  [.inl (0, 0), .inl (1, 0), .inr (2, 0), .inr (3, 0), .inl (1, 1), .inr (2, 1), .inr (3, 1)]
  ++ ([0, 1, 2, 3, 4, 5] : List Nat).flatMap (fun t => [.inl (4, t), .inr (5, t), .inr (6, t), .inr (7, t), .inr (8, t), .inr (9, t), .inr (10, t), .inr (11, t), .inr (12, t), .inr (13, t), .inr (14, t)])
  ++ [.inl (15, 0), .inl (16, 0), .inr (17, 0), .inl (18, 0), .inr (19, 0), .inl (20, 0), .inr (21, 0), .inr (22, 0), .inr (23, 0), .inr (24, 0), .inr (25, 0), .inr (26, 0), .inr (27, 0),
    .inl (30, 0), .inr (31, 0), .inr (32, 0), .inr (33, 0), .inr (34, 0), .inr (35, 0), .inr (36, 0), .inr (37, 0), .inr (38, 0), .inr (39, 0), .inr (40, 0), .inr (41, 0), .inr (42, 0), .inr (43, 0), .inr (44, 0), .inr (45, 0)]
def fvl (ad : CI → Nat) (σ : St) (g t : Nat) (fk : List Nat) (j : Nat) : Value :=
  match fk[j]? with
  | some 0 => .int (σ.1 g t j)
  | some 1 => .long (σ.2 g t j)
  | some _ => .ref (ad (rfv g t j))
  | none => .null
def ent (ad : CI → Nat) (kI kA : ClassId) (σ : St) (r : CI) : va_E := match r with
  | .inr (g, t) => .inl (kI, lenOf g t, .inl (σ.1 g t))
  | .inl (g, t) => match objOf g with
    | some (ci, fk) => .inr (ci, (List.range fk.length).map (fvl ad σ g t fk))
    | none => .inl (kA, 3, .inr (.inr (.inr (.inr (fun j => some (ad (rfv 15 0 j)))))))
def wsO (ad : CI → Nat) (kI kA : ClassId) (σ : St) : va_W := mcells.map (fun r => (ad r, ent ad kI kA σ r))
def unw (r : CI) : Nat × Nat := match r with
  | .inl q => q
  | .inr q => q
def si (σ : St) (g t j : Nat) (v : Int32) : St := (fun a b => if a = g ∧ b = t then upd (σ.1 a b) j v else σ.1 a b, σ.2)
def sl (σ : St) (g t j : Nat) (v : Int64) : St := (σ.1, fun a b => if a = g ∧ b = t then vp_updL (σ.2 a b) j v else σ.2 a b)
def sa (σ : St) (g t : Nat) (f : Nat → Int32) : St := (fun a b => if a = g ∧ b = t then f else σ.1 a b, σ.2)
theorem mcells_nd : (mcells.map unw).Nodup := by decide +kernel
theorem mcells_one {i j : Nat} {r q : CI} (hi : mcells[i]? = some r) (hj : mcells[j]? = some q) (h : unw r = unw q) : i = j := by
  have h1 : (mcells.map unw)[i]? = some (unw r) := by rw [List.getElem?_map, hi]; rfl
  have h2 : (mcells.map unw)[j]? = some (unw q) := by rw [List.getElem?_map, hj]; rfl
  have hl : i < (mcells.map unw).length := (List.getElem?_eq_some_iff.mp h1).1
  exact (List.getElem?_inj hl mcells_nd).mp (by rw [h1, h2, h])
theorem ws_get {ad : CI → Nat} {kI kA : ClassId} {σ : St} {k : Nat} {r : CI} (h : mcells[k]? = some r) : (wsO ad kI kA σ)[k]? = some (ad r, ent ad kI kA σ r) := by
  unfold wsO
  rw [List.getElem?_map, h]; rfl
theorem ws_set {ad : CI → Nat} {kI kA : ClassId} {σ σ' : St} {k : Nat} {r : CI} (h : mcells[k]? = some r) (hne : ∀ q : CI, unw q ≠ unw r → ent ad kI kA σ' q = ent ad kI kA σ q) {x : Nat × va_E} (hx : x = (ad r, ent ad kI kA σ' r)) : (wsO ad kI kA σ).set k x = wsO ad kI kA σ' := by
  subst hx
  apply List.ext_getElem?
  intro i
  unfold wsO
  rw [List.getElem?_set, List.getElem?_map, List.length_map]
  by_cases hi : k = i
  · subst hi
    have hl : k < mcells.length := (List.getElem?_eq_some_iff.mp h).1
    rw [if_pos rfl, if_pos hl, List.getElem?_map, h]; rfl
  · rw [if_neg hi, List.getElem?_map]
    cases hq : mcells[i]? with
    | none => rfl
    | some q =>
      simp only [Option.map_some]
      rw [hne q (fun e => hi (mcells_one h hq e.symm))]
theorem ent_si_ne {ad : CI → Nat} {kI kA : ClassId} {σ : St} {g t j : Nat} {v : Int32} (q : CI) (h : unw q ≠ (g, t)) : ent ad kI kA (si σ g t j v) q = ent ad kI kA σ q := by
  obtain ⟨a, b⟩ | ⟨a, b⟩ := q
  · have hn : ¬ (a = g ∧ b = t) := fun e => h (by rw [e.1, e.2]; rfl)
    have e : ∀ fk, fvl ad (si σ g t j v) a b fk = fvl ad σ a b fk := fun fk => by
      funext i
      simp only [si, fvl, if_neg hn]
    simp only [ent, e]
  · have hn : ¬ (a = g ∧ b = t) := fun e => h (by rw [e.1, e.2]; rfl)
    simp only [ent, si, if_neg hn]
theorem ent_sa_ne {ad : CI → Nat} {kI kA : ClassId} {σ : St} {g t : Nat} {f : Nat → Int32} (q : CI) (h : unw q ≠ (g, t)) : ent ad kI kA (sa σ g t f) q = ent ad kI kA σ q := by
  obtain ⟨a, b⟩ | ⟨a, b⟩ := q
  · have hn : ¬ (a = g ∧ b = t) := fun e => h (by rw [e.1, e.2]; rfl)
    have e : ∀ fk, fvl ad (sa σ g t f) a b fk = fvl ad σ a b fk := fun fk => by
      funext i
      simp only [sa, fvl, if_neg hn]
    simp only [ent, e]
  · have hn : ¬ (a = g ∧ b = t) := fun e => h (by rw [e.1, e.2]; rfl)
    simp only [ent, sa, if_neg hn]
theorem ent_sl_ne {ad : CI → Nat} {kI kA : ClassId} {σ : St} {g t j : Nat} {v : Int64} (q : CI) (h : unw q ≠ (g, t)) : ent ad kI kA (sl σ g t j v) q = ent ad kI kA σ q := by
  obtain ⟨a, b⟩ | ⟨a, b⟩ := q
  · have hn : ¬ (a = g ∧ b = t) := fun e => h (by rw [e.1, e.2]; rfl)
    have e : ∀ fk, fvl ad (sl σ g t j v) a b fk = fvl ad σ a b fk := fun fk => by
      funext i
      simp only [sl, fvl, if_neg hn]
    simp only [ent, e]
  · simp only [ent, sl]
theorem ent_si_arr {ad : CI → Nat} {kI kA : ClassId} {σ : St} {g t j : Nat} {v : Int32} : ent ad kI kA (si σ g t j v) (.inr (g, t)) = .inl (kI, lenOf g t, .inl (upd (σ.1 g t) j v)) := by
  simp only [ent, si, and_self, if_true]
theorem ent_sa_arr {ad : CI → Nat} {kI kA : ClassId} {σ : St} {g t : Nat} {f : Nat → Int32} : ent ad kI kA (sa σ g t f) (.inr (g, t)) = .inl (kI, lenOf g t, .inl f) := by
  simp only [ent, sa, and_self, if_true]
theorem fvl_range {ad : CI → Nat} {σ : St} {g t : Nat} {fk : List Nat} {j : Nat} (hj : j < fk.length) : ((List.range fk.length).map (fvl ad σ g t fk))[j]? = some (fvl ad σ g t fk j) := by
  rw [List.getElem?_map, List.getElem?_range hj]; rfl
theorem ent_si_obj {ad : CI → Nat} {kI kA : ClassId} {σ : St} {g t j ci : Nat} {fk : List Nat} {v : Int32} (ho : objOf g = some (ci, fk)) (hk : fk[j]? = some 0) : ent ad kI kA (si σ g t j v) (.inl (g, t)) = .inr (ci, ((List.range fk.length).map (fvl ad σ g t fk)).set j (.int v)) := by
  simp only [ent, ho]
  congr 2
  apply List.ext_getElem?
  intro i
  rw [List.getElem?_set, List.getElem?_map, List.getElem?_map, List.length_map, List.length_range]
  have hl : j < fk.length := (List.getElem?_eq_some_iff.mp hk).1
  by_cases hi : j = i
  · subst hi
    rw [if_pos rfl, if_pos hl, List.getElem?_range hl]
    simp [fvl, hk, si, upd]
  · rw [if_neg hi]
    by_cases hil : i < fk.length
    · rw [List.getElem?_range hil]
      have hij : ¬ i = j := fun e => hi e.symm
      simp only [Option.map_some, fvl, si, and_self, if_true, upd, if_neg hij]
    · rw [List.getElem?_eq_none (by simp; omega)]; rfl
theorem ent_sl_obj {ad : CI → Nat} {kI kA : ClassId} {σ : St} {g t j ci : Nat} {fk : List Nat} {v : Int64} (ho : objOf g = some (ci, fk)) (hk : fk[j]? = some 1) : ent ad kI kA (sl σ g t j v) (.inl (g, t)) = .inr (ci, ((List.range fk.length).map (fvl ad σ g t fk)).set j (.long v)) := by
  simp only [ent, ho]
  congr 2
  apply List.ext_getElem?
  intro i
  rw [List.getElem?_set, List.getElem?_map, List.getElem?_map, List.length_map, List.length_range]
  have hl : j < fk.length := (List.getElem?_eq_some_iff.mp hk).1
  by_cases hi : j = i
  · subst hi
    rw [if_pos rfl, if_pos hl, List.getElem?_range hl]
    simp [fvl, hk, sl, vp_updL]
  · rw [if_neg hi]
    by_cases hil : i < fk.length
    · rw [List.getElem?_range hil]
      have hij : ¬ i = j := fun e => hi e.symm
      simp only [Option.map_some, fvl, sl, and_self, if_true, vp_updL, if_neg hij]
    · rw [List.getElem?_eq_none (by simp; omega)]; rfl
def eqC (q r : CI) : Bool := match q, r with
  | .inl a, .inl b => Nat.beq a.1 b.1 && Nat.beq a.2 b.2
  | .inr a, .inr b => Nat.beq a.1 b.1 && Nat.beq a.2 b.2
  | _, _ => false
theorem eqC_eq {q r : CI} (h : eqC q r = true) : q = r := by
  obtain ⟨a, b⟩ | ⟨a, b⟩ := q <;> obtain ⟨c, d⟩ | ⟨c, d⟩ := r
  · have := Bool.and_eq_true_iff.mp h
    rw [show a = c from Nat.eq_of_beq_eq_true this.1, show b = d from Nat.eq_of_beq_eq_true this.2]
  · cases h
  · cases h
  · have := Bool.and_eq_true_iff.mp h
    rw [show a = c from Nat.eq_of_beq_eq_true this.1, show b = d from Nat.eq_of_beq_eq_true this.2]
def inM (r : CI) : Bool := mcells.any (fun q => eqC q r)
theorem inM_mem {r : CI} (h : inM r = true) : r ∈ mcells := by
  obtain ⟨q, h1, h2⟩ := List.any_eq_true.mp h
  rw [← eqC_eq h2]; exact h1
/-- references lead to cells of the world -/
def rfOkB (r : CI) : Bool := match r with
  | .inr _ => true
  | .inl (g, t) => match objOf g with
    | some (_, fk) => (List.range fk.length).all (fun j => match fk[j]? with
      | some 0 => true
      | some 1 => true
      | some 2 => (match rfv g t j with
        | .inl _ => true
        | .inr _ => false) && inM (rfv g t j)
      | some _ => (match rfv g t j with
        | .inl _ => false
        | .inr _ => true) && inM (rfv g t j)
      | none => true)
    | none => Nat.beq g 15 && Nat.beq t 0
theorem rfOk : mcells.all rfOkB = true := by decide +kernel
theorem rfv_ok {g t j ci : Nat} {fk : List Nat} (h : (.inl (g, t) : CI) ∈ mcells) (ho : objOf g = some (ci, fk)) {x : Nat} (hk : fk[j]? = some x) (h0 : x ≠ 0) (h1 : x ≠ 1) : rfv g t j ∈ mcells := by
  have a := List.all_eq_true.mp rfOk _ h
  simp only [rfOkB, ho] at a
  have hl : j < fk.length := (List.getElem?_eq_some_iff.mp hk).1
  have b := List.all_eq_true.mp a j (List.mem_range.mpr hl)
  rw [hk] at b
  match x, h0, h1, b with
  | 2, _, _, b => exact inM_mem (Bool.and_eq_true_iff.mp b).2
  | (n + 3), _, _, b => exact inM_mem (Bool.and_eq_true_iff.mp b).2
theorem kept_ok : ∀ j, j < 3 → (rfv 15 0 j) ∈ mcells := fun j hj => inM_mem ((show ∀ j, j < 3 → inM (rfv 15 0 j) = true by decide +kernel) j hj)
theorem obj_none {g t : Nat} (h : (.inl (g, t) : CI) ∈ mcells) (ho : objOf g = none) : g = 15 ∧ t = 0 := by
  have a := List.all_eq_true.mp rfOk _ h
  simp only [rfOkB, ho] at a
  have b := Bool.and_eq_true_iff.mp a
  exact ⟨Nat.eq_of_beq_eq_true b.1, Nat.eq_of_beq_eq_true b.2⟩
end
section
-- locals and pure instructions
def lgt : List (Option MV) → Nat → Option MV
  | [], _ => none
  | x :: _, 0 => x
  | _ :: L, i + 1 => lgt L i
def lst : List (Option MV) → Nat → Option MV → List (Option MV)
  | [], _, _ => []
  | _ :: L, 0, v => v :: L
  | x :: L, i + 1, v => x :: lst L i v
def isLg (v : Option MV) : Bool := match v with
  | some (.inr (.inl _)) => true
  | _ => false
def nlg (L : List (Option MV)) (i : Nat) : Bool := match i with
  | 0 => true
  | k + 1 => !isLg (lgt L k)
theorem lst_len : ∀ (L : List (Option MV)) (i : Nat) (v : Option MV), (lst L i v).length = L.length
  | [], _, _ => rfl
  | _ :: _, 0, _ => rfl
  | _ :: L, i + 1, v => by simp [lst, lst_len L i v]
theorem lgt_lst_ne : ∀ (L : List (Option MV)) (i j : Nat) (v : Option MV), i ≠ j → lgt (lst L i v) j = lgt L j
  | [], _, _, _, _ => rfl
  | _ :: _, 0, 0, _, h => absurd rfl h
  | _ :: _, 0, _ + 1, _, _ => rfl
  | _ :: _, _ + 1, 0, _, _ => rfl
  | _ :: L, i + 1, j + 1, v, h => lgt_lst_ne L i j v (fun e => h (by rw [e]))
theorem lgt_lst_eq : ∀ (L : List (Option MV)) (i : Nat) (v w : Option MV), lgt (lst L i v) i = some w → lgt (lst L i v) i = v
  | [], _, _, _, h => by cases h
  | _ :: _, 0, _, _, _ => rfl
  | _ :: L, i + 1, v, w, h => lgt_lst_eq L i v w h
theorem lgt_lst_some : ∀ (L : List (Option MV)) (i : Nat) (v : Option MV) (u : MV), lgt (lst L i v) i = some u → v = some u
  | [], _, _, _, h => by cases h
  | _ :: _, 0, _, _, h => h
  | _ :: L, i + 1, v, u, h => lgt_lst_some L i v u h
/-- the known locals, by their places -/
def cLf (ad : CI → Nat) : Nat → List (Option MV) → List (Nat × Value)
  | _, [] => []
  | i, none :: L => cLf ad (i + 1) L
  | i, some v :: L => (i, cv ad v) :: cLf ad (i + 1) L
theorem mem_cLf {ad : CI → Nat} : ∀ {L : List (Option MV)} {i : Nat} {q : Nat × Value}, q ∈ cLf ad i L → ∃ j u, lgt L j = some u ∧ q = (i + j, cv ad u)
  | [], _, _, h => by cases h
  | none :: L, i, q, h => by
    obtain ⟨j, u, h1, h2⟩ := mem_cLf (L := L) h
    exact ⟨j + 1, u, h1, by rw [h2]; congr 1; omega⟩
  | some v :: L, i, q, h => by
    rcases List.mem_cons.mp h with h | h
    · exact ⟨0, v, rfl, h⟩
    · obtain ⟨j, u, h1, h2⟩ := mem_cLf (L := L) h
      exact ⟨j + 1, u, h1, by rw [h2]; congr 1; omega⟩
theorem cLf_mem {ad : CI → Nat} : ∀ {L : List (Option MV)} {i j : Nat} {u : MV}, lgt L j = some u → (i + j, cv ad u) ∈ cLf ad i L
  | [], _, _, _, h => by cases h
  | none :: L, i, 0, _, h => by cases h
  | none :: L, i, j + 1, u, h => by
    have := cLf_mem (ad := ad) (L := L) (i := i + 1) (j := j) (u := u) h
    rw [show i + 1 + j = i + (j + 1) by omega] at this
    exact this
  | some v :: L, i, 0, u, h => by
    cases h
    exact List.mem_cons_self
  | some v :: L, i, j + 1, u, h => by
    have := cLf_mem (ad := ad) (L := L) (i := i + 1) (j := j) (u := u) h
    rw [show i + 1 + j = i + (j + 1) by omega] at this
    exact List.mem_cons_of_mem _ this
def cL (ad : CI → Nat) (L : List (Option MV)) : List (Nat × Value) := cLf ad 0 L
theorem cL_at {ad : CI → Nat} {L : List (Option MV)} {ls : Array Slot} {nL j : Nat} {u : MV} (h : lv_has ls nL (cL ad L)) (hj : lgt L j = some u) : ls[j]? = some (.val (cv ad u)) := by
  have := h.2.2 _ (cLf_mem (ad := ad) (i := 0) hj)
  rw [Nat.zero_add] at this
  exact this
theorem cv_cat {ad : CI → Nat} {u : MV} (h : (cv ad u).category = 2) : isLg (some u) = true := by
  obtain x | x | r := u
  · cases h
  · rfl
  · cases h
theorem nlg_at {L : List (Option MV)} {i j : Nat} {u : MV} (h : nlg L i = true) (hj : lgt L j = some u) (e : j + 1 = i) : isLg (some u) = false := by
  subst e
  have h1 : (!isLg (lgt L j)) = true := h
  rw [hj] at h1
  exact by simpa using h1
theorem cL_st1 {ad : CI → Nat} {L : List (Option MV)} {ls' : Array Slot} {nL i : Nat} {u : MV} (hg : nlg L i = true)
    (h : lv_has ls' nL ((i, cv ad u) :: (cL ad L).filter (fun q => !(q.1 == i) && !(q.1 + 1 == i && q.2.category == 2)))) : lv_has ls' nL (cL ad (lst L i (some u))) := by
  refine ⟨h.1, h.2.1, fun q hq => ?_⟩
  obtain ⟨j, w, h1, rfl⟩ := mem_cLf hq
  rw [Nat.zero_add]
  by_cases hj : i = j
  · subst hj
    have := lgt_lst_some _ _ _ _ h1
    cases this
    exact h.2.2 _ List.mem_cons_self
  · rw [lgt_lst_ne _ _ _ _ hj] at h1
    refine h.2.2 _ (List.mem_cons_of_mem _ (List.mem_filter.mpr ⟨?_, ?_⟩))
    · have := cLf_mem (ad := ad) (i := 0) h1
      rw [Nat.zero_add] at this
      exact this
    · by_cases e : j + 1 = i
      · have h3 := nlg_at hg h1 e
        have h4 : ¬ (cv ad w).category = 2 := fun z => by rw [cv_cat z] at h3; cases h3
        simp [Ne.symm hj, h4]
      · simp [Ne.symm hj, e]
theorem cL_st2 {ad : CI → Nat} {L : List (Option MV)} {ls' : Array Slot} {nL i : Nat} {u : MV} (hg : nlg L i = true)
    (h : lv_has ls' nL ((i, cv ad u) :: (cL ad L).filter (fun q => !(q.1 == i) && (!(q.1 == i + 1) && !(q.1 + 1 == i && q.2.category == 2))))) : lv_has ls' nL (cL ad (lst (lst L i (some u)) (i + 1) none)) := by
  refine ⟨h.1, h.2.1, fun q hq => ?_⟩
  obtain ⟨j, w, h1, rfl⟩ := mem_cLf hq
  rw [Nat.zero_add]
  by_cases hj1 : i + 1 = j
  · subst hj1
    have := lgt_lst_some _ _ _ _ h1
    cases this
  · rw [lgt_lst_ne _ _ _ _ hj1] at h1
    by_cases hj : i = j
    · subst hj
      have := lgt_lst_some _ _ _ _ h1
      cases this
      exact h.2.2 _ List.mem_cons_self
    · rw [lgt_lst_ne _ _ _ _ hj] at h1
      refine h.2.2 _ (List.mem_cons_of_mem _ (List.mem_filter.mpr ⟨?_, ?_⟩))
      · have := cLf_mem (ad := ad) (i := 0) h1
        rw [Nat.zero_add] at this
        exact this
      · by_cases e : j + 1 = i
        · have h3 := nlg_at hg h1 e
          have h4 : ¬ (cv ad w).category = 2 := fun z => by rw [cv_cat z] at h3; cases h3
          simp [Ne.symm hj, Ne.symm hj1, h4]
        · simp [Ne.symm hj, Ne.symm hj1, e]
/-- all references are cells of the world -/
def okV (nL : Nat) (L : List (Option MV)) (S : List MV) : Prop := L.length ≤ nL ∧ (∀ (i : Nat) (r : CI), lgt L i = some (.inr (.inr r)) → r ∈ mcells) ∧ ∀ r : CI, (.inr (.inr r) : MV) ∈ S → r ∈ mcells
theorem okV.drop {nL : Nat} {L : List (Option MV)} {v : MV} {S : List MV} (h : okV nL L (v :: S)) : okV nL L S := ⟨h.1, h.2.1, fun r hr => h.2.2 r (List.mem_cons_of_mem _ hr)⟩
theorem okV.pI {nL : Nat} {L : List (Option MV)} {x : Int32} {S : List MV} (h : okV nL L S) : okV nL L (mI x :: S) := ⟨h.1, h.2.1, fun r hr => by
  rcases List.mem_cons.mp hr with e | e
  · cases e
  · exact h.2.2 r e⟩
theorem okV.pL {nL : Nat} {L : List (Option MV)} {x : Int64} {S : List MV} (h : okV nL L S) : okV nL L (mL x :: S) := ⟨h.1, h.2.1, fun r hr => by
  rcases List.mem_cons.mp hr with e | e
  · cases e
  · exact h.2.2 r e⟩
theorem okV.pC {nL : Nat} {L : List (Option MV)} {q : CI} {S : List MV} (h : okV nL L S) (hq : q ∈ mcells) : okV nL L (.inr (.inr q) :: S) := ⟨h.1, h.2.1, fun r hr => by
  rcases List.mem_cons.mp hr with e | e
  · cases e; exact hq
  · exact h.2.2 r e⟩
theorem okV.top {nL : Nat} {L : List (Option MV)} {q : CI} {S : List MV} (h : okV nL L (.inr (.inr q) :: S)) : q ∈ mcells := h.2.2 q List.mem_cons_self
theorem okV.st {nL : Nat} {L : List (Option MV)} {S : List MV} {i : Nat} {v : Option MV} (h : okV nL L S) (hv : ∀ r : CI, v = some (.inr (.inr r)) → r ∈ mcells) : okV nL (lst L i v) S := ⟨by rw [lst_len]; exact h.1, fun j r hj => by
  by_cases e : i = j
  · subst e
    exact hv r (lgt_lst_some _ _ _ _ hj)
  · rw [lgt_lst_ne _ _ _ _ e] at hj
    exact h.2.1 j r hj, h.2.2⟩
def ldI (L : List (Option MV)) (S : List MV) (i : Nat) : Option (List (Option MV) × List MV) := match lgt L i with
  | some (.inl x) => some (L, mI x :: S)
  | _ => none
def ldL (L : List (Option MV)) (S : List MV) (i : Nat) : Option (List (Option MV) × List MV) := match lgt L i with
  | some (.inr (.inl x)) => some (L, mL x :: S)
  | _ => none
def ldA (L : List (Option MV)) (S : List MV) (i : Nat) : Option (List (Option MV) × List MV) := match lgt L i with
  | some (.inr (.inr r)) => some (L, .inr (.inr r) :: S)
  | _ => none
def stI (L : List (Option MV)) (S : List MV) (i : Nat) : Option (List (Option MV) × List MV) := match S with
  | .inl x :: S => bif nlg L i && Nat.blt i L.length then some (lst L i (some (mI x)), S) else none
  | _ => none
def stA (L : List (Option MV)) (S : List MV) (i : Nat) : Option (List (Option MV) × List MV) := match S with
  | .inr (.inr r) :: S => bif nlg L i && Nat.blt i L.length then some (lst L i (some (.inr (.inr r))), S) else none
  | _ => none
def stL (L : List (Option MV)) (S : List MV) (i : Nat) : Option (List (Option MV) × List MV) := match S with
  | .inr (.inl x) :: S => bif nlg L i && Nat.blt (i + 1) L.length then some (lst (lst L i (some (mL x))) (i + 1) none, S) else none
  | _ => none
def op1 (f : Int32 → Int32) (L : List (Option MV)) (S : List MV) : Option (List (Option MV) × List MV) := match S with
  | .inl x :: S => some (L, mI (f x) :: S)
  | _ => none
def op2 (f : Int32 → Int32 → Int32) (L : List (Option MV)) (S : List MV) : Option (List (Option MV) × List MV) := match S with
  | .inl y :: .inl x :: S => some (L, mI (f x y) :: S)
  | _ => none
def ol2 (f : Int64 → Int64 → Int64) (L : List (Option MV)) (S : List MV) : Option (List (Option MV) × List MV) := match S with
  | .inr (.inl y) :: .inr (.inl x) :: S => some (L, mL (f x y) :: S)
  | _ => none
def gfd (a b : Nat) (L : List (Option MV)) (S : List MV) (σ : St) : Option (List (Option MV) × List MV) := match S with
  | .inr (.inr (.inl (g, t))) :: S => match objOf g with
    | some (ci, fk) => bif Nat.beq ci a then (match fk[b]? with
      | some 0 => some (L, mI (σ.1 g t b) :: S)
      | some 1 => some (L, mL (σ.2 g t b) :: S)
      | some _ => some (L, .inr (.inr (rfv g t b)) :: S)
      | none => none) else none
    | none => none
  | _ => none
def stp (ins : Instr) (a b : Nat) (v : Int32) (w : Int64) (L : List (Option MV)) (S : List MV) (σ : St) : Option (List (Option MV) × List MV) :=
  match ins with
  | .iconst _ => some (L, mI v :: S)
  | .bipush _ => some (L, mI v :: S)
  | .sipush _ => some (L, mI v :: S)
  | .ldc _ => some (L, mI v :: S)
  | .ldc_w _ => some (L, mI v :: S)
  | .lconst _ => some (L, mL w :: S)
  | .ldc2_w _ => some (L, mL w :: S)
  | .iload_n n => ldI L S n
  | .iload i => ldI L S i
  | .lload_n n => ldL L S n
  | .lload i => ldL L S i
  | .aload_n n => ldA L S n
  | .aload i => ldA L S i
  | .istore_n n => stI L S n
  | .istore i => stI L S i
  | .lstore_n n => stL L S n
  | .lstore i => stL L S i
  | .astore_n n => stA L S n
  | .astore i => stA L S i
  | .iinc i _ => match lgt L i with
    | some (.inl x) => bif nlg L i && Nat.blt i L.length then some (lst L i (some (mI (x + v))), S) else none
    | _ => none
  | .iadd => op2 (fun x y => x + y) L S
  | .isub => op2 (fun x y => x - y) L S
  | .imul => op2 (fun x y => x * y) L S
  | .iand => op2 (fun x y => x &&& y) L S
  | .ior => op2 (fun x y => x ||| y) L S
  | .ixor => op2 (fun x y => x ^^^ y) L S
  | .ishl => op2 (fun x y => x <<< (y &&& 31)) L S
  | .ishr => op2 (fun x y => x >>> (y &&& 31)) L S
  | .iushr => op2 (fun x y => (x.toUInt32 >>> (y.toUInt32 &&& Int32.toUInt32 31)).toInt32) L S
  | .ineg => op1 (fun x => -x) L S
  | .i2b => op1 (fun x => x.toInt8.toInt32) L S
  | .ladd => ol2 (fun x y => x + y) L S
  | .lmul => ol2 (fun x y => x * y) L S
  | .lcmp => match S with
    | .inr (.inl y) :: .inr (.inl x) :: S => some (L, mI (lg_cmp x y) :: S)
    | _ => none
  | .i2l => match S with
    | .inl x :: S => some (L, mL x.toInt64 :: S)
    | _ => none
  | .l2i => match S with
    | .inr (.inl x) :: S => some (L, mI x.toInt32 :: S)
    | _ => none
  | .dup => match S with
    | .inl x :: S => some (L, mI x :: mI x :: S)
    | .inr (.inr r) :: S => some (L, .inr (.inr r) :: .inr (.inr r) :: S)
    | _ => none
  | .dup2 => match S with
    | .inl x :: .inr (.inr r) :: S => some (L, mI x :: .inr (.inr r) :: mI x :: .inr (.inr r) :: S)
    | _ => none
  | .arraylength => match S with
    | .inr (.inr (.inr (g, t))) :: S => some (L, mI (nI (lenOf g t)) :: S)
    | _ => none
  | .getfield _ => gfd a b L S σ
  | _ => none
end
section
-- pure instructions are sound over the machine
def mty (kI kA : ClassId) : List (ClassId × FieldType) := [(kI, .int), (kA, .object "TentMiddle$Camp")]
def nwF : Cond := .fieldLinkNest "TentMiddle" nwFi "TentMiddle$Shelf" "limit" "I" "TentMiddle"
def nwM : Cond := .methodLinkNest "TentMiddle$Orders" nwMi ⟨"TentMiddle", "swap", "([III)V"⟩ "TentMiddle"
def mNw (U : State) : Prop := va_Nw nwF U ∧ va_Nw nwM U
theorem mNw.same {u U : State} (h : u.vm = U.vm) (hN : mNw u) : mNw U := ⟨hN.1.same rfl h, hN.2.same rfl h⟩
theorem mNw.warm {u U : State} (h : u.WarmedH U.vm) (hN : mNw u) : mNw U := ⟨va_Nw.warmF h hN.1, va_Nw.warmM h hN.2⟩
def Cx (p : Program) (s : State) (m : MethodId) (args : Array Value) (c : Code) (D : va_G) (kI kA : ClassId) (A : Nat → Prop) (own : String) (cc : ByteArray) (nL : Nat) : Prop :=
  p.tables.exec = Jvm.exec ∧ c.code = cc ∧ c.maxLocals = nL ∧ s.vm.findClass own = some m.cls ∧ (∀ w ∈ T1, w.before args s = true) ∧ va_K D mcl (mty kI kA) s ∧ mNw s ∧ ∀ q, s.heap.size ≤ q → A q
def Wm (p : Program) (l : Launch) (e : Env) (R : Room) (s : State) (m : MethodId) (args : Array Value) (below : List Frame) (meth : Method) (c : Code) (nc ns : Nat) (Q : State → Prop) (D : va_G) (kI kA : ClassId) (ad : CI → Nat) (A : Nat → Prop) (nL pc : Nat) (L : List (Option MV)) (S : List MV) (σ : St) : Prop :=
  ∀ (H : Heap) (locs : List Loc) (ls : Array Slot), va_P D mcl (wsO ad kI kA σ) H → va_D A (wsO ad kI kA σ) → va_S A s.heap H locs → lv_has ls nL (cL ad L) → okV nL L S → W p l e R s m args below meth c H locs nc ns Q (F0 m pc ls (S.map (cv ad)))
def lnI : Instr → Nat
  | .bipush _ => 2
  | .sipush _ => 3
  | .ldc _ => 2
  | .ldc_w _ => 3
  | .ldc2_w _ => 3
  | .iload _ => 2
  | .lload _ => 2
  | .aload _ => 2
  | .istore _ => 2
  | .lstore _ => 2
  | .astore _ => 2
  | .iinc _ _ => 3
  | .getfield _ => 3
  | .putfield _ => 3
  | .goto _ => 3
  | .ifCond _ _ => 3
  | .if_icmp _ _ => 3
  | .invokevirtual _ => 3
  | .invokespecial _ => 3
  | .invokestatic _ => 3
  | .new _ => 3
  | .anewarray _ => 3
  | .newarray _ => 2
  | _ => 1
/-- a field's link: an ordinary one, or the one over the nest -/
def fldW (own : String) (i a b : Nat) : Prop := ∃ (C : String) (T : u_T) (N : Nat), mcl[a]? = some (C, T, N) ∧ b < N ∧ (T b).1 = C ∧ (∀ w ∈ u_ws C T N, w ∈ T1) ∧ (Cond.fieldLink own i C (T b).2.1 (T b).2.2.1 ∈ T1 ∨ Cond.fieldLinkNest own i C (T b).2.1 (T b).2.2.1 "TentMiddle" = nwF)
def auxOk (own : String) (ins : Instr) (pc a b : Nat) (v : Int32) (w : Int64) : Prop := match ins with
  | .iconst n => Int32.ofInt n = v
  | .bipush n => (Int8.ofInt n).toInt32 = v
  | .sipush n => (Int16.ofInt n).toInt32 = v
  | .ldc i => Cond.constant own i v ∈ T1
  | .ldc_w i => Cond.constant own i v ∈ T1
  | .lconst n => Int64.ofNat (n : Nat) = w
  | .ldc2_w i => Cond.constantLong own i w ∈ T1
  | .iinc _ n => Int32.ofInt n = v
  | .getfield i => fldW own i a b
  | .putfield i => fldW own i a b
  | .goto off => (pc : Int) + off = (a : Int)
  | .ifCond _ off => (pc : Int) + off = (a : Int)
  | .if_icmp _ off => (pc : Int) + off = (a : Int)
  | _ => True
theorem blt_lt {a b : Nat} (h : Nat.blt a b = true) : a < b := Nat.le_of_ble_eq_true h
theorem ldI_v {L L' : List (Option MV)} {S S' : List MV} {i : Nat} (h : ldI L S i = some (L', S')) : ∃ z, lgt L i = some (mI z) ∧ L' = L ∧ S' = mI z :: S := by
  unfold ldI at h
  match hg : lgt L i, h with
  | some (.inl z), h => cases h; exact ⟨z, rfl, rfl, rfl⟩
  | some (.inr _), h => cases h
  | none, h => cases h
theorem ldL_v {L L' : List (Option MV)} {S S' : List MV} {i : Nat} (h : ldL L S i = some (L', S')) : ∃ z, lgt L i = some (mL z) ∧ L' = L ∧ S' = mL z :: S := by
  unfold ldL at h
  match hg : lgt L i, h with
  | some (.inl z), h => cases h
  | some (.inr (.inl z)), h => cases h; exact ⟨z, rfl, rfl, rfl⟩
  | some (.inr (.inr _)), h => cases h
  | none, h => cases h
theorem ldA_v {L L' : List (Option MV)} {S S' : List MV} {i : Nat} (h : ldA L S i = some (L', S')) : ∃ z, lgt L i = some (.inr (.inr z)) ∧ L' = L ∧ S' = .inr (.inr z) :: S := by
  unfold ldA at h
  match hg : lgt L i, h with
  | some (.inl z), h => cases h
  | some (.inr (.inl z)), h => cases h
  | some (.inr (.inr z)), h => cases h; exact ⟨z, rfl, rfl, rfl⟩
  | none, h => cases h
theorem cnd_v {α : Type} {b : Bool} {u v : α} (h : (bif b then some u else none) = some v) : b = true ∧ u = v := by
  cases b
  · cases h
  · cases h; exact ⟨rfl, rfl⟩
theorem stI_v {L L' : List (Option MV)} {S S' : List MV} {i : Nat} (h : stI L S i = some (L', S')) : ∃ z, S = mI z :: S' ∧ nlg L i = true ∧ i < L.length ∧ L' = lst L i (some (mI z)) := by
  match S, h with
  | [], h => cases h
  | .inr _ :: _, h => cases h
  | .inl z :: S, h =>
    obtain ⟨h1, h2⟩ := cnd_v h
    have h3 := Bool.and_eq_true_iff.mp h1
    cases h2
    exact ⟨z, rfl, h3.1, blt_lt h3.2, rfl⟩
theorem stA_v {L L' : List (Option MV)} {S S' : List MV} {i : Nat} (h : stA L S i = some (L', S')) : ∃ z, S = .inr (.inr z) :: S' ∧ nlg L i = true ∧ i < L.length ∧ L' = lst L i (some (.inr (.inr z))) := by
  match S, h with
  | [], h => cases h
  | .inl _ :: _, h => cases h
  | .inr (.inl _) :: _, h => cases h
  | .inr (.inr z) :: S, h =>
    obtain ⟨h1, h2⟩ := cnd_v h
    have h3 := Bool.and_eq_true_iff.mp h1
    cases h2
    exact ⟨z, rfl, h3.1, blt_lt h3.2, rfl⟩
theorem stL_v {L L' : List (Option MV)} {S S' : List MV} {i : Nat} (h : stL L S i = some (L', S')) : ∃ z, S = mL z :: S' ∧ nlg L i = true ∧ i + 1 < L.length ∧ L' = lst (lst L i (some (mL z))) (i + 1) none := by
  match S, h with
  | [], h => cases h
  | .inl _ :: _, h => cases h
  | .inr (.inr _) :: _, h => cases h
  | .inr (.inl z) :: S, h =>
    obtain ⟨h1, h2⟩ := cnd_v h
    have h3 := Bool.and_eq_true_iff.mp h1
    cases h2
    exact ⟨z, rfl, h3.1, blt_lt h3.2, rfl⟩
theorem op2_v {f : Int32 → Int32 → Int32} {L L' : List (Option MV)} {S S' : List MV} (h : op2 f L S = some (L', S')) : ∃ z y S0, S = mI y :: mI z :: S0 ∧ L' = L ∧ S' = mI (f z y) :: S0 := by
  match S, h with
  | [], h => cases h
  | [.inl _], h => cases h
  | .inl y :: .inl z :: S0, h => cases h; exact ⟨z, y, S0, rfl, rfl, rfl⟩
  | .inl _ :: .inr _ :: _, h => cases h
  | .inr _ :: _, h => cases h
theorem op1_v {f : Int32 → Int32} {L L' : List (Option MV)} {S S' : List MV} (h : op1 f L S = some (L', S')) : ∃ z S0, S = mI z :: S0 ∧ L' = L ∧ S' = mI (f z) :: S0 := by
  match S, h with
  | [], h => cases h
  | .inl z :: S0, h => cases h; exact ⟨z, S0, rfl, rfl, rfl⟩
  | .inr _ :: _, h => cases h
theorem ol2_v {f : Int64 → Int64 → Int64} {L L' : List (Option MV)} {S S' : List MV} (h : ol2 f L S = some (L', S')) : ∃ z y S0, S = mL y :: mL z :: S0 ∧ L' = L ∧ S' = mL (f z y) :: S0 := by
  match S, h with
  | [], h => cases h
  | [.inr (.inl _)], h => cases h
  | .inr (.inl y) :: .inr (.inl z) :: S0, h => cases h; exact ⟨z, y, S0, rfl, rfl, rfl⟩
  | .inr (.inl _) :: .inl _ :: _, h => cases h
  | .inr (.inl _) :: .inr (.inr _) :: _, h => cases h
  | .inl _ :: _, h => cases h
  | .inr (.inr _) :: _, h => cases h
section SOUND
variable {p : Program} {l : Launch} {e : Env} {R : Room} {s : State} {m : MethodId} {args : Array Value} {below : List Frame} {meth : Method} {c : Code} {nc ns : Nat} {Q : State → Prop} {D : va_G} {kI kA : ClassId} {ad : CI → Nat} {A : Nat → Prop} {own : String} {cc : ByteArray} {nL : Nat}
theorem s_get {pc i a b g t ci : Nat} {fk : List Nat} {H : Heap} {locs : List Loc} {ls : Array Slot} {rest : List Value} {σ : St} (C : Cx p s m args c D kI kA A own cc nL) (hd : decode cc pc = .ok (.getfield i, 3)) (ha : fldW own i a b) (hP : va_P D mcl (wsO ad kI kA σ) H) (hr : (.inl (g, t) : CI) ∈ mcells) (ho : objOf g = some (ci, fk)) (hc : ci = a) (hj : b < fk.length)
    (k : W p l e R s m args below meth c H locs nc ns Q (F0 m (pc + 3) ls (fvl ad σ g t fk b :: rest))) : W p l e R s m args below meth c H locs nc ns Q (F0 m pc ls (.ref (ad (.inl (g, t))) :: rest)) := by
  obtain ⟨hx, hb, hml, hown, hts, hK, hN, hA⟩ := C
  subst hc
  obtain ⟨C, T, N, h1, h2, h3, h4, h5⟩ := ha
  obtain ⟨q0, hq⟩ := List.getElem?_of_mem hr
  have hw := ws_get (ad := ad) (kI := kI) (kA := kA) (σ := σ) hq
  simp only [ent, ho] at hw
  rcases h5 with h5 | h5
  · exact va_get hx hb hts h4 hown hK hP q0 hw h1 b h2 (hts _ h5) (fun x hx => by rw [h3] at hx; exact hx) (fvl_range hj) hd k
  · exact va_getN hx hb hts h4 hown hK hP q0 hw h1 b h2 (by rw [h5]; exact va_Nw.use rfl hN.1) (fun x hx => by rw [h3] at hx; exact hx) (fvl_range hj) hd k
theorem st_sound {ins : Instr} {pc n a b : Nat} {v : Int32} {w : Int64} {L L' : List (Option MV)} {S S' : List MV} {σ : St} (C : Cx p s m args c D kI kA A own cc nL) (hd : decode cc pc = .ok (ins, n)) (hn : n = lnI ins) (ha : auxOk own ins pc a b v w) (h : stp ins a b v w L S σ = some (L', S'))
    (k : Wm p l e R s m args below meth c nc ns Q D kI kA ad A nL (pc + n) L' S' σ) : Wm p l e R s m args below meth c nc ns Q D kI kA ad A nL pc L S σ := by
  intro H locs ls hP hD hS hl hV
  have C0 := C
  obtain ⟨hx, hb, hml, hown, hts, hK, hN, hA⟩ := C
  subst hn
  cases ins with
  | iconst n => cases h; exact lv_iconst hx hb hd ha (k H locs ls hP hD hS hl hV.pI)
  | bipush n => cases h; exact lv_bipush hx hb hd ha (k H locs ls hP hD hS hl hV.pI)
  | sipush n => cases h; exact lv_sipush hx hb hd ha (k H locs ls hP hD hS hl hV.pI)
  | ldc i => cases h; exact lv_ldc hx hb hown (hts _ ha) hd (k H locs ls hP hD hS hl hV.pI)
  | ldc_w i => cases h; exact lv_ldcw hx hb hown (hts _ ha) hd (k H locs ls hP hD hS hl hV.pI)
  | lconst n => cases h; exact lv_lconst hx hb hd ha (k H locs ls hP hD hS hl hV.pL)
  | ldc2_w i => cases h; exact lv_ldc2 hx hb hown (hts _ ha) hd (k H locs ls hP hD hS hl hV.pL)
  | iload_n i => obtain ⟨x, h1, rfl, rfl⟩ := ldI_v h; exact lv_iload_n hx hb hd rfl (cL_at hl h1) (k H locs ls hP hD hS hl hV.pI)
  | iload i => obtain ⟨x, h1, rfl, rfl⟩ := ldI_v h; exact lv_iload hx hb hd (cL_at hl h1) (k H locs ls hP hD hS hl hV.pI)
  | lload_n i => obtain ⟨x, h1, rfl, rfl⟩ := ldL_v h; exact lv_lload_n hx hb hd rfl (cL_at hl h1) (k H locs ls hP hD hS hl hV.pL)
  | lload i => obtain ⟨x, h1, rfl, rfl⟩ := ldL_v h; exact lv_lload hx hb hd (cL_at hl h1) (k H locs ls hP hD hS hl hV.pL)
  | aload_n i => obtain ⟨x, h1, rfl, rfl⟩ := ldA_v h; exact lv_aload_n hx hb hd rfl (cL_at hl h1) (k H locs ls hP hD hS hl (hV.pC (hV.2.1 _ _ h1)))
  | aload i => obtain ⟨x, h1, rfl, rfl⟩ := ldA_v h; exact lv_aload hx hb hd (cL_at hl h1) (k H locs ls hP hD hS hl (hV.pC (hV.2.1 _ _ h1)))
  | istore_n i =>
    obtain ⟨x, rfl, h1, h2, rfl⟩ := stI_v h
    exact lv_istore_n hx hb hd rfl hl (Nat.lt_of_lt_of_le h2 hV.1) rfl (fun ls' hl' => k H locs ls' hP hD hS (cL_st1 (u := mI x) h1 hl') (hV.drop.st (fun r q => by cases q)))
  | istore i =>
    obtain ⟨x, rfl, h1, h2, rfl⟩ := stI_v h
    exact lv_istore hx hb hd hl (Nat.lt_of_lt_of_le h2 hV.1) rfl (fun ls' hl' => k H locs ls' hP hD hS (cL_st1 (u := mI x) h1 hl') (hV.drop.st (fun r q => by cases q)))
  | astore_n i =>
    obtain ⟨x, rfl, h1, h2, rfl⟩ := stA_v h
    exact lv_astore_n hx hb hd rfl hl (Nat.lt_of_lt_of_le h2 hV.1) rfl (fun ls' hl' => k H locs ls' hP hD hS (cL_st1 (u := .inr (.inr x)) h1 hl') (hV.drop.st (fun r q => by cases q; exact hV.top)))
  | astore i =>
    obtain ⟨x, rfl, h1, h2, rfl⟩ := stA_v h
    exact lv_astore hx hb hd hl (Nat.lt_of_lt_of_le h2 hV.1) rfl (fun ls' hl' => k H locs ls' hP hD hS (cL_st1 (u := .inr (.inr x)) h1 hl') (hV.drop.st (fun r q => by cases q; exact hV.top)))
  | lstore_n i =>
    obtain ⟨x, rfl, h1, h2, rfl⟩ := stL_v h
    exact lv_lstore_n hx hb hd rfl hl (Nat.lt_of_lt_of_le h2 hV.1) rfl (fun ls' hl' => k H locs ls' hP hD hS (cL_st2 (u := mL x) h1 hl') ((hV.drop.st (fun r q => by cases q)).st (fun r q => by cases q)))
  | lstore i =>
    obtain ⟨x, rfl, h1, h2, rfl⟩ := stL_v h
    exact lv_lstore hx hb hd hl (Nat.lt_of_lt_of_le h2 hV.1) rfl (fun ls' hl' => k H locs ls' hP hD hS (cL_st2 (u := mL x) h1 hl') ((hV.drop.st (fun r q => by cases q)).st (fun r q => by cases q)))
  | iinc i n =>
    simp only [stp] at h
    match hg : lgt L i, h with
    | none, h => cases h
    | some (.inr _), h => cases h
    | some (.inl z), h =>
      obtain ⟨h1, h3⟩ := cnd_v h
      have h2 := Bool.and_eq_true_iff.mp h1
      cases h3
      have hm := cLf_mem (ad := ad) (i := 0) hg
      rw [Nat.zero_add] at hm
      obtain ⟨k0, hk0⟩ := List.getElem?_of_mem hm
      have hv : Int32.ofInt n = v := ha
      exact lv_iinc (v := z + v) hx hb hd hl hk0 (by rw [hv]) (Nat.lt_of_lt_of_le (blt_lt h2.2) hV.1) rfl (fun ls' hl' => k H locs ls' hP hD hS (cL_st1 (u := mI (z + v)) h2.1 hl') (hV.st (fun r q => by cases q)))
  | iadd => obtain ⟨x, y, S0, rfl, rfl, rfl⟩ := op2_v h; exact lv_iadd hx hb hd (k H locs ls hP hD hS hl hV.drop.drop.pI)
  | isub => obtain ⟨x, y, S0, rfl, rfl, rfl⟩ := op2_v h; exact lv_isub hx hb hd (k H locs ls hP hD hS hl hV.drop.drop.pI)
  | imul => obtain ⟨x, y, S0, rfl, rfl, rfl⟩ := op2_v h; exact lv_imul hx hb hd (k H locs ls hP hD hS hl hV.drop.drop.pI)
  | iand => obtain ⟨x, y, S0, rfl, rfl, rfl⟩ := op2_v h; exact lv_iand hx hb hd (k H locs ls hP hD hS hl hV.drop.drop.pI)
  | ior => obtain ⟨x, y, S0, rfl, rfl, rfl⟩ := op2_v h; exact lv_ior hx hb hd (k H locs ls hP hD hS hl hV.drop.drop.pI)
  | ixor => obtain ⟨x, y, S0, rfl, rfl, rfl⟩ := op2_v h; exact lv_ixor hx hb hd (k H locs ls hP hD hS hl hV.drop.drop.pI)
  | ishl => obtain ⟨x, y, S0, rfl, rfl, rfl⟩ := op2_v h; exact lv_ishl hx hb hd (k H locs ls hP hD hS hl hV.drop.drop.pI)
  | ishr => obtain ⟨x, y, S0, rfl, rfl, rfl⟩ := op2_v h; exact lv_ishr hx hb hd (k H locs ls hP hD hS hl hV.drop.drop.pI)
  | iushr => obtain ⟨x, y, S0, rfl, rfl, rfl⟩ := op2_v h; exact lv_iushr hx hb hd rfl (k H locs ls hP hD hS hl hV.drop.drop.pI)
  | ineg => obtain ⟨x, S0, rfl, rfl, rfl⟩ := op1_v h; exact lv_ineg hx hb hd (k H locs ls hP hD hS hl hV.drop.pI)
  | i2b => obtain ⟨x, S0, rfl, rfl, rfl⟩ := op1_v h; exact lv_i2b hx hb hd rfl (k H locs ls hP hD hS hl hV.drop.pI)
  | ladd => obtain ⟨x, y, S0, rfl, rfl, rfl⟩ := ol2_v h; exact lv_ladd hx hb hd (k H locs ls hP hD hS hl hV.drop.drop.pL)
  | lmul => obtain ⟨x, y, S0, rfl, rfl, rfl⟩ := ol2_v h; exact lv_lmul hx hb hd (k H locs ls hP hD hS hl hV.drop.drop.pL)
  | lcmp =>
    match S, h, hV with
    | .inr (.inl y) :: .inr (.inl z) :: S0, h, hV => cases h; exact W.lcmp hx hb hd (k H locs ls hP hD hS hl hV.drop.drop.pI)
    | [], h, hV => cases h
    | .inl _ :: _, h, hV => cases h
    | .inr (.inr _) :: _, h, hV => cases h
    | [.inr (.inl _)], h, hV => cases h
    | .inr (.inl _) :: .inl _ :: _, h, hV => cases h
    | .inr (.inl _) :: .inr (.inr _) :: _, h, hV => cases h
  | i2l =>
    match S, h, hV with
    | .inl z :: S0, h, hV => cases h; exact lv_i2l hx hb hd rfl (k H locs ls hP hD hS hl hV.drop.pL)
    | [], h, hV => cases h
    | .inr _ :: _, h, hV => cases h
  | l2i =>
    match S, h, hV with
    | .inr (.inl z) :: S0, h, hV => cases h; exact lv_l2i hx hb hd rfl (k H locs ls hP hD hS hl hV.drop.pI)
    | [], h, hV => cases h
    | .inl _ :: _, h, hV => cases h
    | .inr (.inr _) :: _, h, hV => cases h
  | dup =>
    match S, h, hV with
    | .inl z :: S0, h, hV => cases h; exact lv_dup hx hb hd rfl (k H locs ls hP hD hS hl hV.pI)
    | .inr (.inr r) :: S0, h, hV => cases h; exact lv_dup hx hb hd rfl (k H locs ls hP hD hS hl (hV.pC hV.top))
    | [], h, hV => cases h
    | .inr (.inl _) :: _, h, hV => cases h
  | dup2 =>
    match S, h, hV with
    | .inl z :: .inr (.inr r) :: S0, h, hV => cases h; exact lv_dup2_11 hx hb hd rfl rfl (k H locs ls hP hD hS hl (hV.pC hV.drop.top).pI)
    | [], h, hV => cases h
    | .inr _ :: _, h, hV => cases h
    | [.inl _], h, hV => cases h
    | .inl _ :: .inl _ :: _, h, hV => cases h
    | .inl _ :: .inr (.inl _) :: _, h, hV => cases h
  | arraylength =>
    match S, h, hV with
    | .inr (.inr (.inr (g, t))) :: S0, h, hV =>
      cases h
      obtain ⟨q0, hq⟩ := List.getElem?_of_mem hV.top
      exact va_alen hx hb hK hP q0 0 (ws_get hq) rfl rfl hd (k H locs ls hP hD hS hl hV.drop.pI)
    | [], h, hV => cases h
    | .inl _ :: _, h, hV => cases h
    | .inr (.inl _) :: _, h, hV => cases h
    | .inr (.inr (.inl _)) :: _, h, hV => cases h
  | getfield i =>
    simp only [stp] at h
    match S, h, hV with
    | [], h, hV => cases h
    | .inl _ :: _, h, hV => cases h
    | .inr (.inl _) :: _, h, hV => cases h
    | .inr (.inr (.inr _)) :: _, h, hV => cases h
    | .inr (.inr (.inl (g, t))) :: S0, h, hV =>
      simp only [gfd] at h
      match ho : objOf g, h with
      | none, h => cases h
      | some (ci, fk), h =>
        dsimp only at h
        have hc : Nat.beq ci a = true := by
          cases hc : Nat.beq ci a with
          | true => rfl
          | false => rw [hc] at h; cases h
        have hca := Nat.eq_of_beq_eq_true hc
        rw [hc, cond_true] at h
        cases hj : fk[b]? with
        | none => rw [hj] at h; cases h
        | some y =>
          have hlt : b < fk.length := (List.getElem?_eq_some_iff.mp hj).1
          refine s_get C0 hd ha hP hV.top ho hca hlt ?_
          rw [hj] at h
          match y, hj, h with
          | 0, hj, h =>
            cases h
            have hf : fvl ad σ g t fk b = .int (σ.1 g t b) := by simp only [fvl, hj]
            rw [hf]
            exact k H locs ls hP hD hS hl hV.drop.pI
          | 1, hj, h =>
            cases h
            have hf : fvl ad σ g t fk b = .long (σ.2 g t b) := by simp only [fvl, hj]
            rw [hf]
            exact k H locs ls hP hD hS hl hV.drop.pL
          | y + 2, hj, h =>
            cases h
            have hf : fvl ad σ g t fk b = .ref (ad (rfv g t b)) := by simp only [fvl, hj]
            rw [hf]
            exact k H locs ls hP hD hS hl (hV.drop.pC (rfv_ok hV.top ho hj (by omega) (by omega)))
  | _ => exact absurd h (fun z => by cases (show (none : Option (List (Option MV) × List MV)) = some (L', S') from z))
end SOUND
end
section
-- programs as tables; runs of pure instructions
abbrev PE : Type := Nat × Nat × Instr × Nat × Nat × Int32 × Int64
def suf : List PE → Nat → List PE
  | [], _ => []
  | q :: r, pc => bif Nat.beq q.1 pc then q :: r else suf r pc
def isGo : Instr → Bool
  | .goto _ => true
  | _ => false
def isTs : Instr → Bool
  | .tableswitch _ _ _ _ => true
  | _ => false
def runP (pm : List PE) (σ : St) : Nat → List PE → List (Option MV) → List MV → Option (Nat × List (Option MV) × List MV)
  | _, [], _, _ => none
  | 0, q :: _, L, S => some (q.1, L, S)
  | k + 1, q :: r, L, S => bif isGo q.2.2.1 then runP pm σ k (suf pm q.2.2.2.1) L S else
    match stp q.2.2.1 q.2.2.2.1 q.2.2.2.2.1 q.2.2.2.2.2.1 q.2.2.2.2.2.2 L S σ with
    | some u => runP pm σ k r u.1 u.2
    | none => none
def insAt (pm : List PE) (pc : Nat) : Option (Nat × Instr × Nat × Nat × Int32 × Int64) := match suf pm pc with
  | q :: _ => some q.2
  | [] => none
/-- what a table must be: decoded, its numbers right, its rows one behind another -/
def Tk (own : String) (cc : ByteArray) (pm : List PE) : Prop :=
  ∀ (q : PE) (r : List PE), (q :: r) <:+ pm → decode cc q.1 = .ok (q.2.2.1, q.2.1) ∧ (isTs q.2.2.1 = false → q.2.1 = lnI q.2.2.1) ∧ auxOk own q.2.2.1 q.1 q.2.2.2.1 q.2.2.2.2.1 q.2.2.2.2.2.1 q.2.2.2.2.2.2 ∧ ∀ (u : PE) (r' : List PE), r = u :: r' → u.1 = q.1 + q.2.1
theorem suf_suf : ∀ (pm : List PE) (pc : Nat), suf pm pc <:+ pm
  | [], _ => List.suffix_refl _
  | q :: r, pc => by
    simp only [suf]
    cases Nat.beq q.1 pc
    · exact (suf_suf r pc).trans (List.suffix_cons q r)
    · exact List.suffix_refl _
theorem suf_head : ∀ (pm : List PE) (pc : Nat) (q : PE) (r : List PE), suf pm pc = q :: r → q.1 = pc
  | [], _, _, _, h => by cases h
  | u :: r, pc, q, r', h => by
    simp only [suf] at h
    cases hb : Nat.beq u.1 pc with
    | true => rw [hb] at h; cases h; exact Nat.eq_of_beq_eq_true hb
    | false => rw [hb] at h; exact suf_head r pc q r' h
theorem suf_tail {q : PE} {r pm : List PE} (h : (q :: r) <:+ pm) : r <:+ pm := (List.suffix_cons q r).trans h
theorem insAt_suf {pm : List PE} {pc : Nat} {z : Nat × Instr × Nat × Nat × Int32 × Int64} (h : insAt pm pc = some z) : ∃ r, ((pc, z) :: r) <:+ pm := by
  unfold insAt at h
  cases hs : suf pm pc with
  | nil => rw [hs] at h; cases h
  | cons q r =>
    rw [hs] at h
    cases h
    have h1 := suf_head pm pc q r hs
    have h2 := suf_suf pm pc
    rw [hs] at h2
    refine ⟨r, ?_⟩
    rw [← h1]
    exact h2
section RUN
variable {p : Program} {l : Launch} {e : Env} {R : Room} {s : State} {m : MethodId} {args : Array Value} {below : List Frame} {meth : Method} {c : Code} {nc ns : Nat} {Q : State → Prop} {D : va_G} {kI kA : ClassId} {ad : CI → Nat} {A : Nat → Prop} {own : String} {cc : ByteArray} {nL : Nat}
theorem run_sound {pm : List PE} {σ : St} {pc' : Nat} {L' : List (Option MV)} {S' : List MV} (C : Cx p s m args c D kI kA A own cc nL) (T : Tk own cc pm) (kk : Wm p l e R s m args below meth c nc ns Q D kI kA ad A nL pc' L' S' σ) :
    ∀ (k : Nat) (rest : List PE) (L : List (Option MV)) (S : List MV), rest <:+ pm → runP pm σ k rest L S = some (pc', L', S') → ∃ q r, rest = q :: r ∧ Wm p l e R s m args below meth c nc ns Q D kI kA ad A nL q.1 L S σ := by
  intro k
  induction k with
  | zero =>
    intro rest L S hs h
    match rest, hs, h with
    | [], hs, h => cases h
    | q :: r, hs, h =>
      simp only [runP] at h
      cases h
      exact ⟨q, r, rfl, kk⟩
  | succ k ih =>
    intro rest L S hs h
    match rest, hs, h with
    | [], hs, h => cases h
    | q :: r, hs, h =>
      refine ⟨q, r, rfl, ?_⟩
      obtain ⟨t1, t2, t3, t4⟩ := T q r hs
      simp only [runP] at h
      cases hg : isGo q.2.2.1 with
      | true =>
        rw [hg, cond_true] at h
        obtain ⟨u, r', h1, h2⟩ := ih (suf pm q.2.2.2.1) L S (suf_suf pm _) h
        have h3 := suf_head _ _ _ _ h1
        obtain ⟨pc, n, ins, a, b, v, w⟩ := q
        cases ins with
        | goto off =>
          intro H locs ls hP hD hS hl hV
          have h4 := t2 rfl
          dsimp only at h4 t1
          rw [h4] at t1
          refine lv_goto C.1 C.2.1 t1 t3 ?_
          have h5 := h2 H locs ls hP hD hS hl hV
          rw [h3] at h5
          exact h5
        | _ => cases hg
      | false =>
        rw [hg, cond_false] at h
        cases hst : stp q.2.2.1 q.2.2.2.1 q.2.2.2.2.1 q.2.2.2.2.2.1 q.2.2.2.2.2.2 L S σ with
        | none => rw [hst] at h; cases h
        | some z =>
          rw [hst] at h
          obtain ⟨u, r', h1, h2⟩ := ih r z.1 z.2 (suf_tail hs) h
          have h3 := t4 u r' h1
          have hts : isTs q.2.2.1 = false := by
            cases hz : isTs q.2.2.1 with
            | false => rfl
            | true =>
              obtain ⟨pc, n, ins, a, b, v, w⟩ := q
              cases ins with
              | tableswitch _ _ _ _ => cases hst
              | _ => cases hz
          refine st_sound C t1 (t2 hts) t3 hst ?_
          rw [← h3]
          exact h2
theorem run_at {pm : List PE} {σ : St} {k pc pc' : Nat} {L L' : List (Option MV)} {S S' : List MV} (C : Cx p s m args c D kI kA A own cc nL) (T : Tk own cc pm) (hr : runP pm σ k (suf pm pc) L S = some (pc', L', S')) (kk : Wm p l e R s m args below meth c nc ns Q D kI kA ad A nL pc' L' S' σ) : Wm p l e R s m args below meth c nc ns Q D kI kA ad A nL pc L S σ := by
  obtain ⟨q, r, h1, h2⟩ := run_sound C T kk k (suf pm pc) L S (suf_suf pm pc) hr
  rw [suf_head _ _ _ _ h1] at h2
  exact h2
end RUN
-- the state's own words in the functions
def inb (i : Int32) (n : Nat) : Bool := decide (0 ≤ i.toInt) && decide (i.toInt < n)
theorem inb_in {i : Int32} {n : Nat} (h : inb i n = true) : vp_in i n := by
  have h1 := Bool.and_eq_true_iff.mp h
  exact vp_in_iff.mpr ⟨of_decide_eq_true h1.1, of_decide_eq_true h1.2⟩
def ald (σ : St) (g t : Nat) (i : Int32) : Option Int32 := if inb i (lenOf g t) = true then some (σ.1 g t i.toNatClampNeg) else none
def ast (σ : St) (g t : Nat) (i v : Int32) : Option St := if inb i (lenOf g t) = true then some (si σ g t i.toNatClampNeg v) else none
def kld (i : Int32) : Option Nat := if inb i 3 = true then some (1 + i.toNatClampNeg) else none
def dvI (a b : Int32) : Option Int32 := if b = 0 then none else some (a / b)
def rmI (a b : Int32) : Option Int32 := if b = 0 then none else some (a - a / b * b)
def dvL (a b : Int64) : Option Int64 := if b = 0 then none else some (a / b)
def rmL (a b : Int64) : Option Int64 := if b = 0 then none else some (a - a / b * b)
def mmin (a b : Int32) : Int32 := if b < a then b else a
def mmax (a b : Int32) : Int32 := if a < b then b else a
def acpOk (n0 n1 : Nat) (sp dp n : Int32) : Bool := !decide (sp < 0) && (!decide (dp < 0) && (!decide (n < 0) && (decide (sp.toNatClampNeg + n.toNatClampNeg ≤ n0) && decide (dp.toNatClampNeg + n.toNatClampNeg ≤ n1))))
def acp (σ : St) (g t : Nat) (sp : Int32) (g' t' : Nat) (dp n : Int32) : Option St := if acpOk (lenOf g t) (lenOf g' t') sp dp n = true then some (sa σ g' t' (va_cpy (σ.1 g t) (σ.1 g' t') sp.toNatClampNeg dp.toNatClampNeg n.toNatClampNeg)) else none
def bs {α : Type} (s : St) (k : St → α) : α := k s
def b2 {α β : Type} (o : Option (α × St)) (k : α → St → Option β) : Option β := match o with
  | some q => k q.1 q.2
  | none => none
theorem bind_v {α β : Type} {o : Option α} {k : α → Option β} {w : β} (h : o.bind k = some w) : ∃ v, o = some v ∧ k v = some w := by
  cases o with
  | none => cases h
  | some v => exact ⟨v, rfl, h⟩
theorem b2_v {α β : Type} {o : Option (α × St)} {k : α → St → Option β} {w : β} (h : b2 o k = some w) : ∃ v s, o = some (v, s) ∧ k v s = some w := by
  cases o with
  | none => cases h
  | some v => exact ⟨v.1, v.2, rfl, h⟩
theorem if_v {α : Type} {b : Bool} {u w : α} (h : (if b = true then some u else none) = some w) : b = true ∧ u = w := by
  cases b
  · cases h
  · cases h; exact ⟨rfl, rfl⟩
theorem ifz_v {α β : Type} {b z : β} {d : Decidable (b = z)} {u w : α} (h : (@ite _ (b = z) d none (some u)) = some w) : ¬ b = z ∧ u = w := by
  by_cases hb : b = z
  · rw [if_pos hb] at h; cases h
  · rw [if_neg hb] at h; cases h; exact ⟨hb, rfl⟩
-- methods and their contracts
abbrev Md : Type := MethodName × ByteArray × Nat × Option FieldType × List PE
def rmD (d : Nat) : Room := { frames := d, cells := 0, slots := 0, locals := 64 * d }
def Qm (D : va_G) (kI kA : ClassId) (ad : CI → Nat) (A : Nat → Prop) (r : Option MV) (σ' : St) : Array Value → State → Outcome → State → Prop := fun _ st oc t =>
  (oc = .returned (r.map (cv ad)) ∧ va_P D mcl (wsO ad kI kA σ') t.heap) ∧ va_F A st t
def J (md : Md) (d pc : Nat) (L : List (Option MV)) (S : List MV) (σ : St) (r : Option MV) (σ' : St) : Prop :=
  ∀ (l : Launch) (p : Program) (e : Env) (s : State) (m : MethodId) (args : Array Value) (below : List Frame) (meth : Method) (c : Code) (D : va_G) (kI kA : ClassId) (ad : CI → Nat) (A : Nat → Prop),
    Cx p s m args c D kI kA A md.1.cls md.2.1 md.2.2.1 → meth.sig.returnType = md.2.2.2.1 → meth.locks = false → Wm p l e (rmD d) s m args below meth c 0 0 (MQ below (Qm D kI kA ad A r σ') args s 0 0 A) D kI kA ad A md.2.2.1 pc L S σ
def Tm (md : Md) : Prop := Tk md.1.cls md.2.1 md.2.2.2.2
section EV
variable {md : Md} {d pc pc1 k : Nat} {L L1 : List (Option MV)} {S S0 : List MV} {σ σ' : St} {r : Option MV} {ρ : Type} {w : ρ}
theorem J.run (T : Tm md) {S1 : List MV} (k : Nat) (hr : runP md.2.2.2.2 σ k (suf md.2.2.2.2 pc) L S = some (pc1, L1, S1)) (kk : J md d pc1 L1 S1 σ r σ') : J md d pc L S σ r σ' :=
  fun l p e s m args below meth c D kI kA ad A C hret hlk => run_at C T hr (kk l p e s m args below meth c D kI kA ad A C hret hlk)
end EV
end
section
-- events: partial instructions, branches, calls, returns
section EV
variable {md : Md} {d pc pc1 : Nat} {L L1 : List (Option MV)} {S S0 : List MV} {σ σ' : St} {r : Option MV} {ρ : Type} {w : ρ} {n a b : Nat} {v0 : Int32} {w0 : Int64}
theorem dec_at (T : Tm md) {ins : Instr} (hi : insAt md.2.2.2.2 pc1 = some (n, ins, a, b, v0, w0)) (hts : isTs ins = false) : decode md.2.1 pc1 = .ok (ins, lnI ins) ∧ auxOk md.1.cls ins pc1 a b v0 w0 := by
  obtain ⟨q, hq⟩ := insAt_suf hi
  obtain ⟨t1, t2, t3, -⟩ := T _ _ hq
  have h := t2 hts
  dsimp only at h t1 t3
  rw [h] at t1
  exact ⟨t1, t3⟩
theorem J.iald (T : Tm md) {g t : Nat} {i : Int32} {kf : Int32 → Option ρ} (k : Nat) (hr : runP md.2.2.2.2 σ k (suf md.2.2.2.2 pc) L S = some (pc1, L1, mI i :: mA g t :: S0)) (hi : insAt md.2.2.2.2 pc1 = some (n, .iaload, a, b, v0, w0)) (hF : (ald σ g t i).bind kf = some w) (kk : ∀ v, kf v = some w → J md d (pc1 + 1) L1 (mI v :: S0) σ r σ') : J md d pc L S σ r σ' := by
  refine J.run T k hr ?_
  obtain ⟨v, h1, h2⟩ := bind_v hF
  obtain ⟨h3, rfl⟩ := if_v h1
  obtain ⟨hd, -⟩ := dec_at T hi rfl
  intro l p e s m args below meth c D kI kA ad A C hret hlk H locs ls hP hD hS hl hV
  obtain ⟨q0, hq⟩ := List.getElem?_of_mem hV.drop.top
  exact va_iald C.1 C.2.1 C.2.2.2.2.2.1 hP q0 0 (ws_get hq) rfl (inb_in h3) hd (kk _ h2 l p e s m args below meth c D kI kA ad A C hret hlk H locs ls hP hD hS hl hV.drop.drop.pI)
theorem J.iast (T : Tm md) {g t : Nat} {i v : Int32} {kf : St → Option ρ} (k : Nat) (hr : runP md.2.2.2.2 σ k (suf md.2.2.2.2 pc) L S = some (pc1, L1, mI v :: mI i :: mA g t :: S0)) (hi : insAt md.2.2.2.2 pc1 = some (n, .iastore, a, b, v0, w0)) (hF : (ast σ g t i v).bind kf = some w) (kk : ∀ σ1, kf σ1 = some w → J md d (pc1 + 1) L1 S0 σ1 r σ') : J md d pc L S σ r σ' := by
  refine J.run T k hr ?_
  obtain ⟨σ1, h1, h2⟩ := bind_v hF
  obtain ⟨h3, rfl⟩ := if_v h1
  obtain ⟨hd, -⟩ := dec_at T hi rfl
  intro l p e s m args below meth c D kI kA ad A C hret hlk H locs ls hP hD hS hl hV
  obtain ⟨q0, hq⟩ := List.getElem?_of_mem hV.drop.drop.top
  have hset : (wsO ad kI kA σ).set q0 (ad (.inr (g, t)), .inl (kI, lenOf g t, .inl (upd (σ.1 g t) i.toNatClampNeg v))) = wsO ad kI kA (si σ g t i.toNatClampNeg v) := ws_set hq (fun q h => ent_si_ne q h) (by rw [ent_si_arr])
  refine va_iast C.1 C.2.1 C.2.2.2.2.2.1 hP hD hS q0 0 (ws_get hq) rfl (inb_in h3) hd (fun H1 locs1 hP hD hS => ?_)
  rw [hset] at hP hD
  exact kk _ h2 l p e s m args below meth c D kI kA ad A C hret hlk H1 locs1 ls hP hD hS hl hV.drop.drop.drop
theorem J.aald (T : Tm md) {i : Int32} {kf : Nat → Option ρ} (k : Nat) (hr : runP md.2.2.2.2 σ k (suf md.2.2.2.2 pc) L S = some (pc1, L1, mI i :: mR 15 0 :: S0)) (hi : insAt md.2.2.2.2 pc1 = some (n, .aaload, a, b, v0, w0)) (hF : (kld i).bind kf = some w) (kk : ∀ t, kf t = some w → J md d (pc1 + 1) L1 (mR 4 t :: S0) σ r σ') : J md d pc L S σ r σ' := by
  refine J.run T k hr ?_
  obtain ⟨v, h1, h2⟩ := bind_v hF
  obtain ⟨h3, rfl⟩ := if_v h1
  obtain ⟨hd, -⟩ := dec_at T hi rfl
  intro l p e s m args below meth c D kI kA ad A C hret hlk H locs ls hP hD hS hl hV
  obtain ⟨q0, hq⟩ := List.getElem?_of_mem hV.drop.top
  have hin := inb_in h3
  have hlt : i.toNatClampNeg < 3 := Nat.not_le.mp fun q => hin (Or.inr q)
  exact va_aldq C.1 C.2.1 C.2.2.2.2.2.1 hP q0 1 (ws_get hq) rfl hin hd (kk _ h2 l p e s m args below meth c D kI kA ad A C hret hlk H locs ls hP hD hS hl (hV.drop.drop.pC (kept_ok _ hlt)))
theorem J.putI (T : Tm md) {g t i ci : Nat} {fk : List Nat} {v : Int32} {kf : St → ρ} (k : Nat) (hr : runP md.2.2.2.2 σ k (suf md.2.2.2.2 pc) L S = some (pc1, L1, mI v :: mR g t :: S0)) (hi : insAt md.2.2.2.2 pc1 = some (n, .putfield i, a, b, v0, w0)) (ho : objOf g = some (ci, fk)) (hc : ci = a) (hb : fk[b]? = some 0) (hf : (tyF a b).1 = FieldType.int ∧ (tyF a b).2 = false) (hF : bs (si σ g t b v) kf = w) (kk : ∀ σ1, kf σ1 = w → J md d (pc1 + 3) L1 S0 σ1 r σ') : J md d pc L S σ r σ' := by
  refine J.run T k hr ?_
  obtain ⟨hd, ha⟩ := dec_at T hi rfl
  subst hc
  intro l p e s m args below meth c D kI kA ad A C hret hlk H locs ls hP hD hS hl hV
  obtain ⟨hx, hbb, hml, hown, hts, hK, hN, hA⟩ := id C
  obtain ⟨q0, hq⟩ := List.getElem?_of_mem hV.drop.top
  have hw := ws_get (ad := ad) (kI := kI) (kA := kA) (σ := σ) hq
  simp only [ent, ho] at hw
  have hset : (wsO ad kI kA σ).set q0 (ad (.inl (g, t)), .inr (ci, ((List.range fk.length).map (fvl ad σ g t fk)).set b (.int v))) = wsO ad kI kA (si σ g t b v) := ws_set hq (fun q h => ent_si_ne q h) (by rw [ent_si_obj ho hb])
  obtain ⟨C1, T0, N, h1, h2, h3, h4, h5⟩ := ha
  obtain ⟨ty0, hty, hnm, hd1, hfin⟩ := tyF_ok h1 h2 hf
  have hlen : b < ((List.range fk.length).map (fvl ad σ g t fk)).length := by
    rw [List.length_map, List.length_range]; exact (List.getElem?_eq_some_iff.mp hb).1
  have go : ∀ (H1 : Heap) (locs1 : List Loc), va_P D mcl ((wsO ad kI kA σ).set q0 (ad (.inl (g, t)), .inr (ci, ((List.range fk.length).map (fvl ad σ g t fk)).set b (.int v)))) H1 → va_D A ((wsO ad kI kA σ).set q0 (ad (.inl (g, t)), .inr (ci, ((List.range fk.length).map (fvl ad σ g t fk)).set b (.int v)))) → va_S A s.heap H1 locs1 → W p l e (rmD d) s m args below meth c H1 locs1 0 0 (MQ below (Qm D kI kA ad A r σ') args s 0 0 A) (F0 m (pc1 + 3) ls (S0.map (cv ad))) := by
    intro H1 locs1 hP hD hS
    rw [hset] at hP hD
    exact kk _ hF l p e s m args below meth c D kI kA ad A C hret hlk H1 locs1 ls hP hD hS hl hV.drop.drop
  rcases h5 with h5 | h5
  · exact va_put hx hbb hts h4 ty0 hty hnm hown hK hP hD hS q0 hw h1 b h2 (hts _ h5) (fun z hz => by rw [h3] at hz; exact hz) hfin hd1 rfl rfl hlen hd go
  · exact va_putN hx hbb hts h4 ty0 hty hnm hown hK hP hD hS q0 hw h1 b h2 (by rw [h5]; exact va_Nw.use rfl hN.1) (fun z hz => by rw [h3] at hz; exact hz) hfin hd1 rfl rfl hlen hd go
theorem J.putL (T : Tm md) {g t i ci : Nat} {fk : List Nat} {v : Int64} {kf : St → ρ} (k : Nat) (hr : runP md.2.2.2.2 σ k (suf md.2.2.2.2 pc) L S = some (pc1, L1, mL v :: mR g t :: S0)) (hi : insAt md.2.2.2.2 pc1 = some (n, .putfield i, a, b, v0, w0)) (ho : objOf g = some (ci, fk)) (hc : ci = a) (hb : fk[b]? = some 1) (hf : (tyF a b).1 = FieldType.long ∧ (tyF a b).2 = false) (hF : bs (sl σ g t b v) kf = w) (kk : ∀ σ1, kf σ1 = w → J md d (pc1 + 3) L1 S0 σ1 r σ') : J md d pc L S σ r σ' := by
  refine J.run T k hr ?_
  obtain ⟨hd, ha⟩ := dec_at T hi rfl
  subst hc
  intro l p e s m args below meth c D kI kA ad A C hret hlk H locs ls hP hD hS hl hV
  obtain ⟨hx, hbb, hml, hown, hts, hK, hN, hA⟩ := id C
  obtain ⟨q0, hq⟩ := List.getElem?_of_mem hV.drop.top
  have hw := ws_get (ad := ad) (kI := kI) (kA := kA) (σ := σ) hq
  simp only [ent, ho] at hw
  have hset : (wsO ad kI kA σ).set q0 (ad (.inl (g, t)), .inr (ci, ((List.range fk.length).map (fvl ad σ g t fk)).set b (.long v))) = wsO ad kI kA (sl σ g t b v) := ws_set hq (fun q h => ent_sl_ne q h) (by rw [ent_sl_obj ho hb])
  obtain ⟨C1, T0, N, h1, h2, h3, h4, h5⟩ := ha
  obtain ⟨ty0, hty, hnm, hd1, hfin⟩ := tyF_ok h1 h2 hf
  have hlen : b < ((List.range fk.length).map (fvl ad σ g t fk)).length := by
    rw [List.length_map, List.length_range]; exact (List.getElem?_eq_some_iff.mp hb).1
  have go : ∀ (H1 : Heap) (locs1 : List Loc), va_P D mcl ((wsO ad kI kA σ).set q0 (ad (.inl (g, t)), .inr (ci, ((List.range fk.length).map (fvl ad σ g t fk)).set b (.long v)))) H1 → va_D A ((wsO ad kI kA σ).set q0 (ad (.inl (g, t)), .inr (ci, ((List.range fk.length).map (fvl ad σ g t fk)).set b (.long v)))) → va_S A s.heap H1 locs1 → W p l e (rmD d) s m args below meth c H1 locs1 0 0 (MQ below (Qm D kI kA ad A r σ') args s 0 0 A) (F0 m (pc1 + 3) ls (S0.map (cv ad))) := by
    intro H1 locs1 hP hD hS
    rw [hset] at hP hD
    exact kk _ hF l p e s m args below meth c D kI kA ad A C hret hlk H1 locs1 ls hP hD hS hl hV.drop.drop
  rcases h5 with h5 | h5
  · exact va_put hx hbb hts h4 ty0 hty hnm hown hK hP hD hS q0 hw h1 b h2 (hts _ h5) (fun z hz => by rw [h3] at hz; exact hz) hfin hd1 rfl rfl hlen hd go
  · exact va_putN hx hbb hts h4 ty0 hty hnm hown hK hP hD hS q0 hw h1 b h2 (by rw [h5]; exact va_Nw.use rfl hN.1) (fun z hz => by rw [h3] at hz; exact hz) hfin hd1 rfl rfl hlen hd go
theorem J.idiv (T : Tm md) {y z : Int32} {kf : Int32 → Option ρ} (k : Nat) (hr : runP md.2.2.2.2 σ k (suf md.2.2.2.2 pc) L S = some (pc1, L1, mI y :: mI z :: S0)) (hi : insAt md.2.2.2.2 pc1 = some (n, .idiv, a, b, v0, w0)) (hF : (dvI z y).bind kf = some w) (kk : ∀ v, kf v = some w → J md d (pc1 + 1) L1 (mI v :: S0) σ r σ') : J md d pc L S σ r σ' := by
  refine J.run T k hr ?_
  obtain ⟨v, h1, h2⟩ := bind_v hF
  obtain ⟨h3, rfl⟩ := ifz_v h1
  obtain ⟨hd, -⟩ := dec_at T hi rfl
  intro l p e s m args below meth c D kI kA ad A C hret hlk H locs ls hP hD hS hl hV
  exact lv_idiv C.1 C.2.1 hd h3 (kk _ h2 l p e s m args below meth c D kI kA ad A C hret hlk H locs ls hP hD hS hl hV.drop.drop.pI)
theorem J.irem (T : Tm md) {y z : Int32} {kf : Int32 → Option ρ} (k : Nat) (hr : runP md.2.2.2.2 σ k (suf md.2.2.2.2 pc) L S = some (pc1, L1, mI y :: mI z :: S0)) (hi : insAt md.2.2.2.2 pc1 = some (n, .irem, a, b, v0, w0)) (hF : (rmI z y).bind kf = some w) (kk : ∀ v, kf v = some w → J md d (pc1 + 1) L1 (mI v :: S0) σ r σ') : J md d pc L S σ r σ' := by
  refine J.run T k hr ?_
  obtain ⟨v, h1, h2⟩ := bind_v hF
  obtain ⟨h3, rfl⟩ := ifz_v h1
  obtain ⟨hd, -⟩ := dec_at T hi rfl
  intro l p e s m args below meth c D kI kA ad A C hret hlk H locs ls hP hD hS hl hV
  exact lv_irem C.1 C.2.1 hd h3 (kk _ h2 l p e s m args below meth c D kI kA ad A C hret hlk H locs ls hP hD hS hl hV.drop.drop.pI)
theorem J.ldiv (T : Tm md) {y z : Int64} {kf : Int64 → Option ρ} (k : Nat) (hr : runP md.2.2.2.2 σ k (suf md.2.2.2.2 pc) L S = some (pc1, L1, mL y :: mL z :: S0)) (hi : insAt md.2.2.2.2 pc1 = some (n, .ldiv, a, b, v0, w0)) (hF : (dvL z y).bind kf = some w) (kk : ∀ v, kf v = some w → J md d (pc1 + 1) L1 (mL v :: S0) σ r σ') : J md d pc L S σ r σ' := by
  refine J.run T k hr ?_
  obtain ⟨v, h1, h2⟩ := bind_v hF
  obtain ⟨h3, rfl⟩ := ifz_v h1
  obtain ⟨hd, -⟩ := dec_at T hi rfl
  intro l p e s m args below meth c D kI kA ad A C hret hlk H locs ls hP hD hS hl hV
  exact lv_ldiv C.1 C.2.1 hd h3 (kk _ h2 l p e s m args below meth c D kI kA ad A C hret hlk H locs ls hP hD hS hl hV.drop.drop.pL)
theorem J.lrem (T : Tm md) {y z : Int64} {kf : Int64 → Option ρ} (k : Nat) (hr : runP md.2.2.2.2 σ k (suf md.2.2.2.2 pc) L S = some (pc1, L1, mL y :: mL z :: S0)) (hi : insAt md.2.2.2.2 pc1 = some (n, .lrem, a, b, v0, w0)) (hF : (rmL z y).bind kf = some w) (kk : ∀ v, kf v = some w → J md d (pc1 + 1) L1 (mL v :: S0) σ r σ') : J md d pc L S σ r σ' := by
  refine J.run T k hr ?_
  obtain ⟨v, h1, h2⟩ := bind_v hF
  obtain ⟨h3, rfl⟩ := ifz_v h1
  obtain ⟨hd, -⟩ := dec_at T hi rfl
  intro l p e s m args below meth c D kI kA ad A C hret hlk H locs ls hP hD hS hl hV
  exact lv_lrem C.1 C.2.1 hd h3 (kk _ h2 l p e s m args below meth c D kI kA ad A C hret hlk H locs ls hP hD hS hl hV.drop.drop.pL)
theorem J.if_eq (T : Tm md) {z : Int32} {off : Int} {u u2 : ρ} {dc : Decidable (z = 0)} (k : Nat) (hr : runP md.2.2.2.2 σ k (suf md.2.2.2.2 pc) L S = some (pc1, L1, mI z :: S0)) (hi : insAt md.2.2.2.2 pc1 = some (n, .ifCond .eq off, a, b, v0, w0)) (hF : (@ite ρ (z = 0) dc u u2) = w) (kt : u = w → J md d a L1 S0 σ r σ') (kf : u2 = w → J md d (pc1 + 3) L1 S0 σ r σ') : J md d pc L S σ r σ' := by
  refine J.run T k hr ?_
  obtain ⟨hd, ha⟩ := dec_at T hi rfl
  intro l p e s m args below meth c D kI kA ad A C hret hlk H locs ls hP hD hS hl hV
  exact lv_if_eq C.1 C.2.1 hd ha (fun h => kt (by rw [if_pos h] at hF; exact hF) l p e s m args below meth c D kI kA ad A C hret hlk H locs ls hP hD hS hl hV.drop) (fun h => kf (by rw [if_neg h] at hF; exact hF) l p e s m args below meth c D kI kA ad A C hret hlk H locs ls hP hD hS hl hV.drop)
theorem J.icmp_eq (T : Tm md) {y z : Int32} {off : Int} {u u2 : ρ} {dc : Decidable (z = y)} (k : Nat) (hr : runP md.2.2.2.2 σ k (suf md.2.2.2.2 pc) L S = some (pc1, L1, mI y :: mI z :: S0)) (hi : insAt md.2.2.2.2 pc1 = some (n, .if_icmp .eq off, a, b, v0, w0)) (hF : (@ite ρ (z = y) dc u u2) = w) (kt : u = w → J md d a L1 S0 σ r σ') (kf : u2 = w → J md d (pc1 + 3) L1 S0 σ r σ') : J md d pc L S σ r σ' := by
  refine J.run T k hr ?_
  obtain ⟨hd, ha⟩ := dec_at T hi rfl
  intro l p e s m args below meth c D kI kA ad A C hret hlk H locs ls hP hD hS hl hV
  exact lv_icmp_eq C.1 C.2.1 hd ha (fun h => kt (by rw [if_pos h] at hF; exact hF) l p e s m args below meth c D kI kA ad A C hret hlk H locs ls hP hD hS hl hV.drop.drop) (fun h => kf (by rw [if_neg h] at hF; exact hF) l p e s m args below meth c D kI kA ad A C hret hlk H locs ls hP hD hS hl hV.drop.drop)
theorem J.if_ne (T : Tm md) {z : Int32} {off : Int} {u u2 : ρ} {dc : Decidable (z = 0)} (k : Nat) (hr : runP md.2.2.2.2 σ k (suf md.2.2.2.2 pc) L S = some (pc1, L1, mI z :: S0)) (hi : insAt md.2.2.2.2 pc1 = some (n, .ifCond .ne off, a, b, v0, w0)) (hF : (@ite ρ (z = 0) dc u u2) = w) (kt : u2 = w → J md d a L1 S0 σ r σ') (kf : u = w → J md d (pc1 + 3) L1 S0 σ r σ') : J md d pc L S σ r σ' := by
  refine J.run T k hr ?_
  obtain ⟨hd, ha⟩ := dec_at T hi rfl
  intro l p e s m args below meth c D kI kA ad A C hret hlk H locs ls hP hD hS hl hV
  exact lv_if_ne C.1 C.2.1 hd ha (fun h => kt (by rw [if_neg h] at hF; exact hF) l p e s m args below meth c D kI kA ad A C hret hlk H locs ls hP hD hS hl hV.drop) (fun h => kf (by rw [if_pos h] at hF; exact hF) l p e s m args below meth c D kI kA ad A C hret hlk H locs ls hP hD hS hl hV.drop)
theorem J.icmp_ne (T : Tm md) {y z : Int32} {off : Int} {u u2 : ρ} {dc : Decidable (z = y)} (k : Nat) (hr : runP md.2.2.2.2 σ k (suf md.2.2.2.2 pc) L S = some (pc1, L1, mI y :: mI z :: S0)) (hi : insAt md.2.2.2.2 pc1 = some (n, .if_icmp .ne off, a, b, v0, w0)) (hF : (@ite ρ (z = y) dc u u2) = w) (kt : u2 = w → J md d a L1 S0 σ r σ') (kf : u = w → J md d (pc1 + 3) L1 S0 σ r σ') : J md d pc L S σ r σ' := by
  refine J.run T k hr ?_
  obtain ⟨hd, ha⟩ := dec_at T hi rfl
  intro l p e s m args below meth c D kI kA ad A C hret hlk H locs ls hP hD hS hl hV
  exact lv_icmp_ne C.1 C.2.1 hd ha (fun h => kt (by rw [if_neg h] at hF; exact hF) l p e s m args below meth c D kI kA ad A C hret hlk H locs ls hP hD hS hl hV.drop.drop) (fun h => kf (by rw [if_pos h] at hF; exact hF) l p e s m args below meth c D kI kA ad A C hret hlk H locs ls hP hD hS hl hV.drop.drop)
theorem J.if_lt (T : Tm md) {z : Int32} {off : Int} {u u2 : ρ} {dc : Decidable (z < 0)} (k : Nat) (hr : runP md.2.2.2.2 σ k (suf md.2.2.2.2 pc) L S = some (pc1, L1, mI z :: S0)) (hi : insAt md.2.2.2.2 pc1 = some (n, .ifCond .lt off, a, b, v0, w0)) (hF : (@ite ρ (z < 0) dc u u2) = w) (kt : u = w → J md d a L1 S0 σ r σ') (kf : u2 = w → J md d (pc1 + 3) L1 S0 σ r σ') : J md d pc L S σ r σ' := by
  refine J.run T k hr ?_
  obtain ⟨hd, ha⟩ := dec_at T hi rfl
  intro l p e s m args below meth c D kI kA ad A C hret hlk H locs ls hP hD hS hl hV
  exact lv_if_lt C.1 C.2.1 hd ha (fun h => kt (by rw [if_pos h] at hF; exact hF) l p e s m args below meth c D kI kA ad A C hret hlk H locs ls hP hD hS hl hV.drop) (fun h => kf (by rw [if_neg h] at hF; exact hF) l p e s m args below meth c D kI kA ad A C hret hlk H locs ls hP hD hS hl hV.drop)
theorem J.icmp_lt (T : Tm md) {y z : Int32} {off : Int} {u u2 : ρ} {dc : Decidable (z < y)} (k : Nat) (hr : runP md.2.2.2.2 σ k (suf md.2.2.2.2 pc) L S = some (pc1, L1, mI y :: mI z :: S0)) (hi : insAt md.2.2.2.2 pc1 = some (n, .if_icmp .lt off, a, b, v0, w0)) (hF : (@ite ρ (z < y) dc u u2) = w) (kt : u = w → J md d a L1 S0 σ r σ') (kf : u2 = w → J md d (pc1 + 3) L1 S0 σ r σ') : J md d pc L S σ r σ' := by
  refine J.run T k hr ?_
  obtain ⟨hd, ha⟩ := dec_at T hi rfl
  intro l p e s m args below meth c D kI kA ad A C hret hlk H locs ls hP hD hS hl hV
  exact lv_icmp_lt C.1 C.2.1 hd ha (fun h => kt (by rw [if_pos h] at hF; exact hF) l p e s m args below meth c D kI kA ad A C hret hlk H locs ls hP hD hS hl hV.drop.drop) (fun h => kf (by rw [if_neg h] at hF; exact hF) l p e s m args below meth c D kI kA ad A C hret hlk H locs ls hP hD hS hl hV.drop.drop)
theorem J.if_ge (T : Tm md) {z : Int32} {off : Int} {u u2 : ρ} {dc : Decidable (0 ≤ z)} (k : Nat) (hr : runP md.2.2.2.2 σ k (suf md.2.2.2.2 pc) L S = some (pc1, L1, mI z :: S0)) (hi : insAt md.2.2.2.2 pc1 = some (n, .ifCond .ge off, a, b, v0, w0)) (hF : (@ite ρ (0 ≤ z) dc u u2) = w) (kt : u = w → J md d a L1 S0 σ r σ') (kf : u2 = w → J md d (pc1 + 3) L1 S0 σ r σ') : J md d pc L S σ r σ' := by
  refine J.run T k hr ?_
  obtain ⟨hd, ha⟩ := dec_at T hi rfl
  intro l p e s m args below meth c D kI kA ad A C hret hlk H locs ls hP hD hS hl hV
  exact lv_if_ge C.1 C.2.1 hd ha (fun h => kt (by rw [if_pos h] at hF; exact hF) l p e s m args below meth c D kI kA ad A C hret hlk H locs ls hP hD hS hl hV.drop) (fun h => kf (by rw [if_neg h] at hF; exact hF) l p e s m args below meth c D kI kA ad A C hret hlk H locs ls hP hD hS hl hV.drop)
theorem J.icmp_ge (T : Tm md) {y z : Int32} {off : Int} {u u2 : ρ} {dc : Decidable (y ≤ z)} (k : Nat) (hr : runP md.2.2.2.2 σ k (suf md.2.2.2.2 pc) L S = some (pc1, L1, mI y :: mI z :: S0)) (hi : insAt md.2.2.2.2 pc1 = some (n, .if_icmp .ge off, a, b, v0, w0)) (hF : (@ite ρ (y ≤ z) dc u u2) = w) (kt : u = w → J md d a L1 S0 σ r σ') (kf : u2 = w → J md d (pc1 + 3) L1 S0 σ r σ') : J md d pc L S σ r σ' := by
  refine J.run T k hr ?_
  obtain ⟨hd, ha⟩ := dec_at T hi rfl
  intro l p e s m args below meth c D kI kA ad A C hret hlk H locs ls hP hD hS hl hV
  exact lv_icmp_ge C.1 C.2.1 hd ha (fun h => kt (by rw [if_pos h] at hF; exact hF) l p e s m args below meth c D kI kA ad A C hret hlk H locs ls hP hD hS hl hV.drop.drop) (fun h => kf (by rw [if_neg h] at hF; exact hF) l p e s m args below meth c D kI kA ad A C hret hlk H locs ls hP hD hS hl hV.drop.drop)
theorem J.if_gt (T : Tm md) {z : Int32} {off : Int} {u u2 : ρ} {dc : Decidable (0 < z)} (k : Nat) (hr : runP md.2.2.2.2 σ k (suf md.2.2.2.2 pc) L S = some (pc1, L1, mI z :: S0)) (hi : insAt md.2.2.2.2 pc1 = some (n, .ifCond .gt off, a, b, v0, w0)) (hF : (@ite ρ (0 < z) dc u u2) = w) (kt : u = w → J md d a L1 S0 σ r σ') (kf : u2 = w → J md d (pc1 + 3) L1 S0 σ r σ') : J md d pc L S σ r σ' := by
  refine J.run T k hr ?_
  obtain ⟨hd, ha⟩ := dec_at T hi rfl
  intro l p e s m args below meth c D kI kA ad A C hret hlk H locs ls hP hD hS hl hV
  exact lv_if_gt C.1 C.2.1 hd ha (fun h => kt (by rw [if_pos h] at hF; exact hF) l p e s m args below meth c D kI kA ad A C hret hlk H locs ls hP hD hS hl hV.drop) (fun h => kf (by rw [if_neg h] at hF; exact hF) l p e s m args below meth c D kI kA ad A C hret hlk H locs ls hP hD hS hl hV.drop)
theorem J.icmp_gt (T : Tm md) {y z : Int32} {off : Int} {u u2 : ρ} {dc : Decidable (y < z)} (k : Nat) (hr : runP md.2.2.2.2 σ k (suf md.2.2.2.2 pc) L S = some (pc1, L1, mI y :: mI z :: S0)) (hi : insAt md.2.2.2.2 pc1 = some (n, .if_icmp .gt off, a, b, v0, w0)) (hF : (@ite ρ (y < z) dc u u2) = w) (kt : u = w → J md d a L1 S0 σ r σ') (kf : u2 = w → J md d (pc1 + 3) L1 S0 σ r σ') : J md d pc L S σ r σ' := by
  refine J.run T k hr ?_
  obtain ⟨hd, ha⟩ := dec_at T hi rfl
  intro l p e s m args below meth c D kI kA ad A C hret hlk H locs ls hP hD hS hl hV
  exact lv_icmp_gt C.1 C.2.1 hd ha (fun h => kt (by rw [if_pos h] at hF; exact hF) l p e s m args below meth c D kI kA ad A C hret hlk H locs ls hP hD hS hl hV.drop.drop) (fun h => kf (by rw [if_neg h] at hF; exact hF) l p e s m args below meth c D kI kA ad A C hret hlk H locs ls hP hD hS hl hV.drop.drop)
theorem J.if_le (T : Tm md) {z : Int32} {off : Int} {u u2 : ρ} {dc : Decidable (z ≤ 0)} (k : Nat) (hr : runP md.2.2.2.2 σ k (suf md.2.2.2.2 pc) L S = some (pc1, L1, mI z :: S0)) (hi : insAt md.2.2.2.2 pc1 = some (n, .ifCond .le off, a, b, v0, w0)) (hF : (@ite ρ (z ≤ 0) dc u u2) = w) (kt : u = w → J md d a L1 S0 σ r σ') (kf : u2 = w → J md d (pc1 + 3) L1 S0 σ r σ') : J md d pc L S σ r σ' := by
  refine J.run T k hr ?_
  obtain ⟨hd, ha⟩ := dec_at T hi rfl
  intro l p e s m args below meth c D kI kA ad A C hret hlk H locs ls hP hD hS hl hV
  exact lv_if_le C.1 C.2.1 hd ha (fun h => kt (by rw [if_pos h] at hF; exact hF) l p e s m args below meth c D kI kA ad A C hret hlk H locs ls hP hD hS hl hV.drop) (fun h => kf (by rw [if_neg h] at hF; exact hF) l p e s m args below meth c D kI kA ad A C hret hlk H locs ls hP hD hS hl hV.drop)
theorem J.icmp_le (T : Tm md) {y z : Int32} {off : Int} {u u2 : ρ} {dc : Decidable (z ≤ y)} (k : Nat) (hr : runP md.2.2.2.2 σ k (suf md.2.2.2.2 pc) L S = some (pc1, L1, mI y :: mI z :: S0)) (hi : insAt md.2.2.2.2 pc1 = some (n, .if_icmp .le off, a, b, v0, w0)) (hF : (@ite ρ (z ≤ y) dc u u2) = w) (kt : u = w → J md d a L1 S0 σ r σ') (kf : u2 = w → J md d (pc1 + 3) L1 S0 σ r σ') : J md d pc L S σ r σ' := by
  refine J.run T k hr ?_
  obtain ⟨hd, ha⟩ := dec_at T hi rfl
  intro l p e s m args below meth c D kI kA ad A C hret hlk H locs ls hP hD hS hl hV
  exact lv_icmp_le C.1 C.2.1 hd ha (fun h => kt (by rw [if_pos h] at hF; exact hF) l p e s m args below meth c D kI kA ad A C hret hlk H locs ls hP hD hS hl hV.drop.drop) (fun h => kf (by rw [if_neg h] at hF; exact hF) l p e s m args below meth c D kI kA ad A C hret hlk H locs ls hP hD hS hl hV.drop.drop)
theorem ts_at (T : Tm md) {dflt lo hgh : Int} {offs : Array Int} (hi : insAt md.2.2.2.2 pc1 = some (n, .tableswitch dflt lo hgh offs, a, b, v0, w0)) : decode md.2.1 pc1 = .ok (.tableswitch dflt lo hgh offs, n) := by
  obtain ⟨q, hq⟩ := insAt_suf hi
  exact (T _ _ hq).1
theorem J.tswIn (T : Tm md) {z : Int32} {dflt lo hgh off : Int} {offs : Array Int} (tgt : Nat) (k : Nat) (hr : runP md.2.2.2.2 σ k (suf md.2.2.2.2 pc) L S = some (pc1, L1, mI z :: S0)) (hi : insAt md.2.2.2.2 pc1 = some (n, .tableswitch dflt lo hgh offs, a, b, v0, w0)) (y : Int32) (hz : z = y) (h1 : ¬ y.toInt < lo) (h2 : ¬ hgh < y.toInt) (ho : offs[(y.toInt - lo).toNat]? = some off) (ht : (pc1 : Int) + off = (tgt : Int)) (kk : J md d tgt L1 S0 σ r σ') : J md d pc L S σ r σ' := by
  refine J.run T k hr ?_
  have hd := ts_at T hi
  intro l p e s m args below meth c D kI kA ad A C hret hlk H locs ls hP hD hS hl hV
  rw [← hz] at h1 h2 ho
  exact lv_tableIn C.1 C.2.1 hd h1 h2 ho ht (kk l p e s m args below meth c D kI kA ad A C hret hlk H locs ls hP hD hS hl hV.drop)
theorem J.tswOut (T : Tm md) {z : Int32} {dflt lo hgh : Int} {offs : Array Int} (tgt : Nat) (k : Nat) (hr : runP md.2.2.2.2 σ k (suf md.2.2.2.2 pc) L S = some (pc1, L1, mI z :: S0)) (hi : insAt md.2.2.2.2 pc1 = some (n, .tableswitch dflt lo hgh offs, a, b, v0, w0)) (h : z.toInt < lo ∨ hgh < z.toInt) (ht : (pc1 : Int) + dflt = (tgt : Int)) (kk : J md d tgt L1 S0 σ r σ') : J md d pc L S σ r σ' := by
  refine J.run T k hr ?_
  have hd := ts_at T hi
  intro l p e s m args below meth c D kI kA ad A C hret hlk H locs ls hP hD hS hl hV
  exact lv_tableOut C.1 C.2.1 hd h ht (kk l p e s m args below meth c D kI kA ad A C hret hlk H locs ls hP hD hS hl hV.drop)
theorem ws_D {ad : CI → Nat} {kI kA : ClassId} {A : Nat → Prop} {σ σ1 : St} (h : va_D A (wsO ad kI kA σ)) : va_D A (wsO ad kI kA σ1) := by
  have key : ∀ (τ : St) (i : Nat) (q : Nat × va_E), (wsO ad kI kA τ)[i]? = some q → ∃ q', (wsO ad kI kA σ)[i]? = some q' ∧ q'.1 = q.1 := by
    intro τ i q hq
    unfold wsO at hq ⊢
    rw [List.getElem?_map] at hq ⊢
    cases hm : mcells[i]? with
    | none => rw [hm] at hq; cases hq
    | some z => rw [hm] at hq; cases hq; exact ⟨_, rfl, rfl⟩
  refine ⟨fun i j p q h1 h2 h3 => ?_, fun k q h1 => ?_⟩
  · obtain ⟨p', a1, a2⟩ := key _ _ _ h1
    obtain ⟨q', b1, b2⟩ := key _ _ _ h2
    exact h.1 i j p' q' a1 b1 (by rw [a2, b2, h3])
  · obtain ⟨q', a1, a2⟩ := key _ _ _ h1
    have := h.2 k q' a1
    rw [a2] at this
    exact this
theorem J.reti (T : Tm md) {z : Int32} (k : Nat) (hr : runP md.2.2.2.2 σ k (suf md.2.2.2.2 pc) L S = some (pc1, L1, [mI z])) (hi : insAt md.2.2.2.2 pc1 = some (n, .ireturn, a, b, v0, w0)) (ht : md.2.2.2.1 = some .int) : J md d pc L S σ (some (mI z)) σ := by
  refine J.run T k hr ?_
  obtain ⟨hd, -⟩ := dec_at T hi rfl
  intro l p e s m args below meth c D kI kA ad A C hret hlk H locs ls hP hD hS hl hV
  exact W.iret C.1 C.2.1 (hret.trans ht) (fun t ht hW => ⟨⟨rfl, by rw [ht]; exact hP⟩, hS.F ht⟩) hS.2.2 hd hlk
theorem J.retl (T : Tm md) {z : Int64} (k : Nat) (hr : runP md.2.2.2.2 σ k (suf md.2.2.2.2 pc) L S = some (pc1, L1, [mL z])) (hi : insAt md.2.2.2.2 pc1 = some (n, .lreturn, a, b, v0, w0)) (ht : md.2.2.2.1 = some .long) : J md d pc L S σ (some (mL z)) σ := by
  refine J.run T k hr ?_
  obtain ⟨hd, -⟩ := dec_at T hi rfl
  intro l p e s m args below meth c D kI kA ad A C hret hlk H locs ls hP hD hS hl hV
  exact W.lret C.1 C.2.1 (hret.trans ht) (fun t ht hW => ⟨⟨rfl, by rw [ht]; exact hP⟩, hS.F ht⟩) hS.2.2 hd hlk
theorem J.retv (T : Tm md) (k : Nat) (hr : runP md.2.2.2.2 σ k (suf md.2.2.2.2 pc) L S = some (pc1, L1, [])) (hi : insAt md.2.2.2.2 pc1 = some (n, .return_, a, b, v0, w0)) (ht : md.2.2.2.1 = none) : J md d pc L S σ none σ := by
  refine J.run T k hr ?_
  obtain ⟨hd, -⟩ := dec_at T hi rfl
  intro l p e s m args below meth c D kI kA ad A C hret hlk H locs ls hP hD hS hl hV
  exact W.vret C.1 C.2.1 (hret.trans ht) (fun t ht hW => ⟨⟨rfl, by rw [ht]; exact hP⟩, hS.F ht⟩) hS.2.2 hd hlk
theorem W_zret {p : Program} {l : Launch} {e : Env} {R : Room} {s : State} {m : MethodId} {args : Array Value} {below : List Frame} {meth : Method} {c : Code} {H : Heap} {locs : List Loc} {cells slots : Nat} {cc : ByteArray} {Qc : Array Value → State → Outcome → State → Prop} {free : Addr → Prop} {v : Int32} (hexec : p.tables.exec = Jvm.exec) (hb : c.code = cc) (hr : meth.sig.returnType = some .boolean)
    (hq : ∀ t : State, t.heap = H → s.WarmedH t.vm → Qc args s (.returned (some (.int (v &&& 1)))) t) (hf : ∀ q ∈ locs, free q.base)
    {pc : Nat} {ls : Array Slot} (hdg : decode cc pc = .ok (.ireturn, 1)) (hlocks : meth.locks = false) : W p l e R s m args below meth c H locs cells slots (MQ below Qc args s cells slots free) (F0 m pc ls [.int v]) := by
  intro T hT X
  obtain ⟨fs, hret, hrun, hended, hW, hframe⟩ := X.leave (v := some (.int (v &&& 1))) (hlocks := hlocks) (fun h => by rw [hr] at h; cases h)
  have hmeth' : T.vm.method? m = some meth := X.method'
  refine ⟨T.setFrames fs, ?_, .returned (some (.int (v &&& 1))), hrun, hended, hq _ hT hW, locs, ⟨⟨_, rfl⟩, hW, hframe⟩, hf⟩
  jvm_step X.here [X.here.top, hexec, hb, hdg, hmeth', hr, narrow]
  (try refine ⟨rfl, ?_⟩); (try refine ⟨rfl, ?_⟩)
  first | (intro acts; rw [hret _ acts rfl rfl rfl]) | rw [hret _ _ rfl rfl rfl]
  exact Steps.refl _
theorem J.retz (T : Tm md) {z u : Int32} (k : Nat) (hr : runP md.2.2.2.2 σ k (suf md.2.2.2.2 pc) L S = some (pc1, L1, [mI z])) (hi : insAt md.2.2.2.2 pc1 = some (n, .ireturn, a, b, v0, w0)) (ht : md.2.2.2.1 = some .boolean) (hz : z &&& 1 = u) : J md d pc L S σ (some (mI u)) σ := by
  refine J.run T k hr ?_
  obtain ⟨hd, -⟩ := dec_at T hi rfl
  subst hz
  intro l p e s m args below meth c D kI kA ad A C hret hlk H locs ls hP hD hS hl hV
  exact W_zret C.1 C.2.1 (hret.trans ht) (fun t ht hW => ⟨⟨rfl, by rw [ht]; exact hP⟩, hS.F ht⟩) hS.2.2 hd hlk
end EV
end
section
-- calls and contracts
def Call (md : Md) (d : Nat) (as : List MV) (σ : St) (r : Option MV) (σ' : St) : Prop :=
  (∀ q : CI, (.inr (.inr q) : MV) ∈ as → q ∈ mcells) → ∀ (l : Launch) (D : va_G) (kI kA : ClassId) (ad : CI → Nat) (sz : Nat),
    Met l md.1 (Cond.code md.1 md.2.1 md.2.2.1 md.2.2.2.1 :: T1) (rmD d) (va_Pc (as.map (cv ad)) (fun U => U.heap.size = sz ∧ va_P D mcl (wsO ad kI kA σ) U.heap ∧ va_K D mcl (mty kI kA) U ∧ va_D (fun _ => True) (wsO ad kI kA σ) ∧ mNw U)) (Qm D kI kA ad (va_A (wsO ad kI kA σ) sz) r σ') 0 0 (va_A (wsO ad kI kA σ) sz)
def MdOk (md : Md) (n : Nat) : Prop := Cond.code md.1 md.2.1 md.2.2.1 md.2.2.2.1 ∈ T1 ∧ Cond.initialized md.1.cls ∈ T1 ∧ plainName md.1.cls = true ∧ (md.1.cls ≠ "java/lang/invoke/MethodHandle" ∧ md.1.cls ≠ "java/lang/invoke/VarHandle") ∧ (parseMethodDescriptor md.1.desc).map (fun d => d.parameters.length) = some n ∧ md.2.2.1 ≤ 45
def argL : List MV → List (Option MV)
  | [] => []
  | .inl z :: r => some (.inl z) :: argL r
  | .inr (.inl z) :: r => some (.inr (.inl z)) :: none :: argL r
  | .inr (.inr z) :: r => some (.inr (.inr z)) :: argL r
def entL (nL : Nat) (as : List MV) : List (Option MV) := argL as ++ List.replicate (nL - (argL as).length) none
theorem lgt_rep : ∀ (n i : Nat) (u : MV), lgt (List.replicate n none) i = some u → False
  | 0, _, _, h => by cases h
  | n + 1, 0, u, h => by cases h
  | n + 1, i + 1, u, h => lgt_rep n i u h
theorem ent_args {ad : CI → Nat} : ∀ (as : List MV) (n i j : Nat) (u : MV), lgt (argL as ++ List.replicate n none) j = some u → (i + j, cv ad u) ∈ lv_args i (as.map (cv ad))
  | [], n, i, j, u, h => (lgt_rep n j u h).elim
  | .inl z :: r, n, i, 0, u, h => by cases h; exact List.mem_cons_self
  | .inl z :: r, n, i, j + 1, u, h => by
    have := ent_args (ad := ad) r n (i + 1) j u h
    rw [show i + 1 + j = i + (j + 1) by omega] at this
    exact List.mem_cons_of_mem _ this
  | .inr (.inr z) :: r, n, i, 0, u, h => by cases h; exact List.mem_cons_self
  | .inr (.inr z) :: r, n, i, j + 1, u, h => by
    have := ent_args (ad := ad) r n (i + 1) j u h
    rw [show i + 1 + j = i + (j + 1) by omega] at this
    exact List.mem_cons_of_mem _ this
  | .inr (.inl z) :: r, n, i, 0, u, h => by cases h; exact List.mem_cons_self
  | .inr (.inl z) :: r, n, i, 1, u, h => by cases h
  | .inr (.inl z) :: r, n, i, j + 2, u, h => by
    have := ent_args (ad := ad) r n (i + 2) j u h
    rw [show i + 2 + j = i + (j + 2) by omega] at this
    exact List.mem_cons_of_mem _ this
theorem lg_cons (v : Value) (vs : List Value) : lg_sl (v :: vs) = (if v.category = 2 then [Slot.val v, Slot.second] else [Slot.val v]) ++ lg_sl vs := by
  simp only [lg_sl, List.flatMap_cons]
theorem argL_sl {ad : CI → Nat} : ∀ (as : List MV), (lg_sl (as.map (cv ad))).length = (argL as).length
  | [] => rfl
  | .inl z :: r => by
    rw [List.map_cons, lg_cons, List.length_append, argL_sl r]
    show 1 + (argL r).length = (argL r).length + 1
    omega
  | .inr (.inr z) :: r => by
    rw [List.map_cons, lg_cons, List.length_append, argL_sl r]
    show 1 + (argL r).length = (argL r).length + 1
    omega
  | .inr (.inl z) :: r => by
    rw [List.map_cons, lg_cons, List.length_append, argL_sl r]
    show 2 + (argL r).length = (argL r).length + 2
    omega
theorem lgt_argL : ∀ (as : List MV) (n j : Nat) (q : CI), lgt (argL as ++ List.replicate n none) j = some (.inr (.inr q)) → (.inr (.inr q) : MV) ∈ as
  | [], n, j, q, h => (lgt_rep n j _ h).elim
  | .inl z :: r, n, 0, q, h => by cases h
  | .inl z :: r, n, j + 1, q, h => List.mem_cons_of_mem _ (lgt_argL r n j q h)
  | .inr (.inr z) :: r, n, 0, q, h => by cases h; exact List.mem_cons_self
  | .inr (.inr z) :: r, n, j + 1, q, h => List.mem_cons_of_mem _ (lgt_argL r n j q h)
  | .inr (.inl z) :: r, n, 0, q, h => by cases h
  | .inr (.inl z) :: r, n, 1, q, h => by cases h
  | .inr (.inl z) :: r, n, j + 2, q, h => List.mem_cons_of_mem _ (lgt_argL r n j q h)
theorem Call.of {md : Md} {d n : Nat} {as : List MV} {σ σ' : St} {r : Option MV} {L : List (Option MV)} (ok : MdOk md n) (hl0 : (argL as).length ≤ md.2.2.1) (hL : L = entL md.2.2.1 as) (h : J md d 0 L [] σ r σ') : Call md d as σ r σ' := by
  subst hL
  intro hv l D kI kA ad sz
  refine Met.ofW (cc := md.2.1) (maxL := md.2.2.1) (ret := md.2.2.2.1) ok.2.2.1 rfl ?_
  intro p e s m args below meth c s₁ B hml hpc
  obtain ⟨rfl, hsz, hP, hK, hD0, hN⟩ := hpc
  subst hsz
  have hts : ∀ w ∈ T1, w.before ((as.map (cv ad)).toArray) s = true := fun w hw => atoms_spec (ws := Cond.code md.1 md.2.1 md.2.2.1 md.2.2.2.1 :: T1) B.pre w (List.mem_cons_of_mem _ hw)
  have hown : s.vm.findClass md.1.cls = some m.cls := findClass_of_methodNamed B.named
  have hlsl : (lg_sl (as.map (cv ad))).length ≤ md.2.2.1 := by rw [argL_sl]; exact hl0
  have hl := lv_entry (as.map (cv ad)) (n := md.2.2.1) hlsl
  rw [lg_entry_eq]
  refine h l p e s m _ below meth c D kI kA ad (va_A (wsO ad kI kA σ) s.heap.size) ⟨B.exec, B.bytes, hml, hown, hts, hK, hN, fun q hq => Or.inr hq⟩ B.returns B.notSynchronized s.heap [] _ hP hD0.self va_S.rf ⟨hl.1, hl.2.1, fun q hq => ?_⟩ ⟨?_, fun i q hq => hv q (lgt_argL _ _ _ _ hq), fun q hq => by cases hq⟩
  · obtain ⟨j, u, h1, rfl⟩ := mem_cLf hq
    exact hl.2.2 _ (ent_args as _ 0 j u h1)
  · unfold entL
    rw [List.length_append, List.length_replicate]
    omega
theorem good_T1 {cw : Cond} (h : cw ∈ T1) : GoodIn T1 (cw :: T1) := by
  have g : ∀ w ∈ T1, w ∈ T1 ∧ ((w.onTables && w.keeps) = true ∨ ∃ ty, w = .arrayClass ty) := fun w hw => ⟨hw, good_of_word (List.mem_filter.mp hw).2⟩
  intro w hw
  rcases List.mem_cons.mp hw with rfl | hw
  · exact g _ h
  · exact g _ hw
def catM (v : MV) : Nat := match v with
  | .inr (.inl _) => 2
  | _ => 1
theorem cat_le {ad : CI → Nat} : ∀ (rest : List MV), ((rest.map (cv ad)).map fun v => v.category).sum = (rest.map catM).sum
  | [] => rfl
  | .inl z :: r => by simp only [List.map_cons, List.sum_cons, cat_le r]; rfl
  | .inr (.inl z) :: r => by simp only [List.map_cons, List.sum_cons, cat_le r]; rfl
  | .inr (.inr z) :: r => by simp only [List.map_cons, List.sum_cons, cat_le r]; rfl
def Ck (own : String) (ins : Instr) (md' : Md) (as : List MV) : Prop := ∃ n, MdOk md' n ∧
  ((∃ idx, ins = .invokevirtual idx ∧ Cond.methodLink own idx md'.1 ∈ T1 ∧ Cond.instanceMethod md'.1 ∈ T1 ∧ Cond.selects md'.1.cls md'.1 md'.1 ∈ T1 ∧ ∃ (g t : Nat) (as' : List MV) (ci : Nat) (fk : List Nat) (T : u_T) (N : Nat), as = mR g t :: as' ∧ as'.length = n ∧ objOf g = some (ci, fk) ∧ mcl[ci]? = some (md'.1.cls, T, N)) ∨
  (∃ idx, ins = .invokestatic idx ∧ as.length = n ∧ Cond.static md'.1 ∈ T1 ∧ (Cond.methodLink own idx md'.1 ∈ T1 ∨ Cond.methodLinkNest own idx md'.1 "TentMiddle" = nwM)))
section CALL
variable {p : Program} {l : Launch} {e : Env} {R : Room} {s : State} {m : MethodId} {args : Array Value} {below : List Frame} {meth : Method} {c : Code} {nc ns : Nat} {Q : State → Prop} {D : va_G} {kI kA : ClassId} {ad : CI → Nat} {A : Nat → Prop} {own : String} {cc : ByteArray} {nL : Nat}
theorem m_call {H : Heap} {locs : List Loc} {ls : Array Slot} {pc : Nat} {st0 : List Value} {rest : List MV} {r : Option MV} {σ1 : St} {A1 : Nat → Prop} {a : Array Value} (hr : va_Run p l e R s m args below meth c H locs nc ns 0 0 (F0 m pc ls st0) (rest.map (cv ad)) (Qm D kI kA ad A1 r σ1 a) A1) (hS : va_S A s.heap H locs) (hA : ∀ q, A1 q → A q)
    (kk : ∀ (H1 : Heap) (locs1 : List Loc), va_P D mcl (wsO ad kI kA σ1) H1 → va_S A s.heap H1 locs1 → W p l e R s m args below meth c H1 locs1 nc ns Q (F0 m (pc + 3) ls ((r.toList ++ rest).map (cv ad)))) : W p l e R s m args below meth c H locs nc ns Q (F0 m pc ls st0) := by
  intro T hT X
  obtain ⟨v, st₀, t, T', L, h0, X', hL, e1, e2, ⟨⟨hv, hp⟩, hz, hk⟩, st⟩ := hr T hT X
  cases hv
  rw [h0] at hz hk
  have hst : (r.map (cv ad)).toList ++ rest.map (cv ad) = (r.toList ++ rest).map (cv ad) := by
    cases r <;> simp
  rw [hst] at st
  obtain ⟨t2, a1, b1⟩ := kk T'.heap (locs ++ L) (by rw [e1]; exact hp)
    ⟨Nat.le_trans hS.1 (by rw [e1]; exact hz), fun q h1 h2 => by rw [e1, hk q (Nat.lt_of_lt_of_le h1 hS.1) (fun z => h2 (hA q z))]; exact hS.2.1 q h1 h2, fun q hq => by
      rcases List.mem_append.mp hq with h | h
      · exact hS.2.2 q h
      · exact hA _ (hL q h)⟩ T' rfl X'
  exact ⟨t2, st t2 a1, b1⟩
theorem W_call {ins : Instr} {md' : Md} {as rest : List MV} {σ σ1 : St} {r : Option MV} {d' pc : Nat} {L : List (Option MV)} (C : Cx p s m args c D kI kA A own cc nL) (hd : decode cc pc = .ok (ins, 3)) (ck : Ck own ins md' as) (hc : Call md' d' as σ r σ1) (hrest : (rest.map catM).sum ≤ 8)
    (hR : d' + 1 ≤ R.frames ∧ 8 + (md'.2.2.1 + 11) + 64 * d' ≤ R.locals) (hf : nc ≤ R.cells ∧ ns ≤ R.slots) (hnr : ∀ q : CI, r ≠ some (.inr (.inr q)))
    (kk : Wm p l e R s m args below meth c nc ns Q D kI kA ad A nL (pc + 3) L (r.toList ++ rest) σ1) : Wm p l e R s m args below meth c nc ns Q D kI kA ad A nL pc L (as.reverse ++ rest) σ := by
  intro H locs ls hP hD hS hl hV
  obtain ⟨hx, hb, hml, hown, hts, hK, hN, hA⟩ := id C
  have hva : ∀ q : CI, (.inr (.inr q) : MV) ∈ as → q ∈ mcells := fun q hq => hV.2.2 q (List.mem_append_left _ (List.mem_reverse.mpr hq))
  have hV' : okV nL L (r.toList ++ rest) := ⟨hV.1, hV.2.1, fun q hq => by
    rcases List.mem_append.mp hq with h | h
    · cases r with
      | none => cases h
      | some z =>
        rcases List.mem_cons.mp h with rfl | h
        · exact absurd rfl (hnr q)
        · cases h
    · exact hV.2.2 q (List.mem_append_right _ h)⟩
  have hM := hc hva l D kI kA ad H.size
  obtain ⟨n, ⟨o1, o2, o3, o4, o5, o6⟩, ck⟩ := ck
  have hAw : ∀ q, va_A (wsO ad kI kA σ) H.size q → A q := by
    intro q h
    rcases h with ⟨k, e, h⟩ | h
    · exact hD.2 k _ h
    · exact hA q (Nat.le_trans hS.1 h)
  have hbl : FrameBlind (va_Pc (as.map (cv ad)) (fun U => U.heap.size = H.size ∧ va_P D mcl (wsO ad kI kA σ) U.heap ∧ va_K D mcl (mty kI kA) U ∧ va_D (fun _ => True) (wsO ad kI kA σ) ∧ mNw U)) := by
    intro a U g mk q
    obtain ⟨q0, q1, qP, qK, qD, qN⟩ := q
    exact ⟨q0, q1, qP, va_K.moved (u := U) (U := U.calling g mk a) (Vm.Alike.refl U.vm) qK, qD, mNw.same (u := U) (U := U.calling g mk a) rfl qN⟩
  have hPc : ∀ U : State, U.heap = H → s.WarmedH U.vm → (U.heap.size = H.size ∧ va_P D mcl (wsO ad kI kA σ) U.heap ∧ va_K D mcl (mty kI kA) U ∧ va_D (fun _ => True) (wsO ad kI kA σ) ∧ mNw U) := fun U hU hW => ⟨by rw [hU], by rw [hU]; exact hP, va_K.moved hW.alike hK, hD.weaken (fun _ _ _ _ => trivial), mNw.warm hW hN⟩
  have go : ∀ (H1 : Heap) (locs1 : List Loc), va_P D mcl (wsO ad kI kA σ1) H1 → va_S A s.heap H1 locs1 → W p l e R s m args below meth c H1 locs1 nc ns Q (F0 m (pc + 3) ls ((r.toList ++ rest).map (cv ad))) := fun H1 locs1 hP1 hS1 => kk H1 locs1 ls hP1 (ws_D hD) hS1 hl hV'
  have hcat : 2 * (F0 m pc ls ((as.reverse ++ rest).map (cv ad))).monitorRoom + ((rest.map (cv ad)).map fun v => v.category).sum ≤ 8 := lv_room (by rw [cat_le]; exact hrest)
  rcases ck with ⟨idx, rfl, k1, k2, k3, g, t, as', ci, fk, T, N, rfl, k4, k5, k6⟩ | ⟨idx, rfl, k1, k2, k3⟩
  · have hr : (.inl (g, t) : CI) ∈ mcells := hva _ List.mem_cons_self
    obtain ⟨q0, hq⟩ := List.getElem?_of_mem hr
    have hw := ws_get (ad := ad) (kI := kI) (kA := kA) (σ := σ) hq
    simp only [ent, k5] at hw
    have hcb := callB_of (R := R) (rm := rmD d') (mc := 0) (ms := 0) n hts (good_T1 o1) rfl rfl rfl (hts _ o2) (hts _ k1) ⟨o4.1, o4.2, o5⟩ hR
    exact m_call (va_runV (As := as'.map (cv ad)) (rest := rest.map (cv ad)) ⟨hx, hb, hml, hown, hts⟩ hM ⟨hcb, hts _ k2, hts _ k3⟩ ⟨hbl, va_recv hK hP k6 hw, fun U hU hW => ⟨rfl, hPc U hU hW⟩⟩ rfl (by rw [List.length_map]; exact k4) hl.1 (by simp [cv]) hcat hd hf) hS hAw go
  · rcases k3 with k3 | k3
    · have hcb := callB_of (R := R) (rm := rmD d') (mc := 0) (ms := 0) n hts (good_T1 o1) rfl rfl rfl (hts _ o2) (hts _ k3) ⟨o4.1, o4.2, o5⟩ hR
      exact m_call (va_runS (As := as.map (cv ad)) (rest := rest.map (cv ad)) ⟨hx, hb, hml, hown, hts⟩ hM ⟨hcb, hts _ k2⟩ ⟨hbl, fun U hU hW => ⟨rfl, hPc U hU hW⟩⟩ rfl (by rw [List.length_map]; exact k1) hl.1 (by simp) hcat hd hf) hS hAw go
    · have hcn := va_cnB (R := R) (rm := rmD d') (mc := 0) (ms := 0) (host := "TentMiddle") n hts (good_T1 o1) rfl rfl rfl (by rw [k3]; exact hN.2) (hts _ o2) ⟨o4.1, o4.2, o5⟩ hR
      exact m_call (va_runSN (As := as.map (cv ad)) (rest := rest.map (cv ad)) ⟨hx, hb, hml, hown, hts⟩ hM ⟨hcn, hts _ k2, trivial⟩ ⟨hbl, fun U hU hW => ⟨rfl, hPc U hU hW⟩⟩ rfl (by rw [List.length_map]; exact k1) hl.1 (by simp) hcat hd hf) hS hAw go
end CALL
section EVC
variable {md : Md} {d pc pc1 : Nat} {L L1 : List (Option MV)} {S S0 : List MV} {σ σ' : St} {r : Option MV} {ρ : Type} {w : ρ} {n a b : Nat} {v0 : Int32} {w0 : Int64}
theorem J.call (T : Tm md) {ins : Instr} {md' : Md} {as rest S1 : List MV} {σ1 : St} {r1 : Option MV} {d' : Nat} (k : Nat) (hr : runP md.2.2.2.2 σ k (suf md.2.2.2.2 pc) L S = some (pc1, L1, S1)) (hi : insAt md.2.2.2.2 pc1 = some (n, ins, a, b, v0, w0)) (hS : S1 = as.reverse ++ rest) (ck : Ck md.1.cls ins md' as) (hrest : Nat.ble (rest.map catM).sum 8 = true) (hd : Nat.ble (d' + 1) d = true) (hc : Call md' d' as σ r1 σ1) (hnr : ∀ q : CI, r1 ≠ some (.inr (.inr q))) (kk : J md d (pc1 + 3) L1 (r1.toList ++ rest) σ1 r σ') : J md d pc L S σ r σ' := by
  refine J.run T k hr ?_
  subst hS
  have hln : isTs ins = false ∧ lnI ins = 3 := by
    obtain ⟨n, -, ⟨idx, rfl, -⟩ | ⟨idx, rfl, -⟩⟩ := ck <;> exact ⟨rfl, rfl⟩
  obtain ⟨hdc, -⟩ := dec_at T hi hln.1
  rw [hln.2] at hdc
  have hd1 := Nat.le_of_ble_eq_true hd
  have hml : md'.2.2.1 ≤ 45 := by
    obtain ⟨n, ok, -⟩ := ck
    exact ok.2.2.2.2.2
  intro l p e s m args below meth c D kI kA ad A C hret hlk
  refine W_call C hdc ck hc (Nat.le_of_ble_eq_true hrest) ⟨hd1, ?_⟩ ⟨Nat.le_refl _, Nat.le_refl _⟩ hnr (kk l p e s m args below meth c D kI kA ad A C hret hlk)
  show 8 + (md'.2.2.1 + 11) + 64 * d' ≤ 64 * d
  omega
/-- pure, an int -/
theorem J.cpI (T : Tm md) {ins : Instr} {md' : Md} {as rest S1 : List MV} {d' : Nat} {Fc : Option Int32} {kf : Int32 → Option ρ} (k : Nat) (hr : runP md.2.2.2.2 σ k (suf md.2.2.2.2 pc) L S = some (pc1, L1, S1)) (hi : insAt md.2.2.2.2 pc1 = some (n, ins, a, b, v0, w0)) (hS : S1 = as.reverse ++ rest) (ck : Ck md.1.cls ins md' as) (hrest : Nat.ble (rest.map catM).sum 8 = true) (hd : Nat.ble (d' + 1) d = true) (hc : ∀ v, Fc = some v → Call md' d' as σ (some (mI v)) σ) (hF : Fc.bind kf = some w) (kk : ∀ v, kf v = some w → J md d (pc1 + 3) L1 (mI v :: rest) σ r σ') : J md d pc L S σ r σ' := by
  obtain ⟨v, h1, h2⟩ := bind_v hF
  exact J.call T k hr hi hS ck hrest hd (hc v h1) (fun q => by intro h; cases h) (kk v h2)
theorem J.cpL (T : Tm md) {ins : Instr} {md' : Md} {as rest S1 : List MV} {d' : Nat} {Fc : Option Int64} {kf : Int64 → Option ρ} (k : Nat) (hr : runP md.2.2.2.2 σ k (suf md.2.2.2.2 pc) L S = some (pc1, L1, S1)) (hi : insAt md.2.2.2.2 pc1 = some (n, ins, a, b, v0, w0)) (hS : S1 = as.reverse ++ rest) (ck : Ck md.1.cls ins md' as) (hrest : Nat.ble (rest.map catM).sum 8 = true) (hd : Nat.ble (d' + 1) d = true) (hc : ∀ v, Fc = some v → Call md' d' as σ (some (mL v)) σ) (hF : Fc.bind kf = some w) (kk : ∀ v, kf v = some w → J md d (pc1 + 3) L1 (mL v :: rest) σ r σ') : J md d pc L S σ r σ' := by
  obtain ⟨v, h1, h2⟩ := bind_v hF
  exact J.call T k hr hi hS ck hrest hd (hc v h1) (fun q => by intro h; cases h) (kk v h2)
/-- an int, and a new state -/
theorem J.csI (T : Tm md) {ins : Instr} {md' : Md} {as rest S1 : List MV} {d' : Nat} {Fc : Option (Int32 × St)} {kf : Int32 → St → Option ρ} (k : Nat) (hr : runP md.2.2.2.2 σ k (suf md.2.2.2.2 pc) L S = some (pc1, L1, S1)) (hi : insAt md.2.2.2.2 pc1 = some (n, ins, a, b, v0, w0)) (hS : S1 = as.reverse ++ rest) (ck : Ck md.1.cls ins md' as) (hrest : Nat.ble (rest.map catM).sum 8 = true) (hd : Nat.ble (d' + 1) d = true) (hc : ∀ v s1, Fc = some (v, s1) → Call md' d' as σ (some (mI v)) s1) (hF : b2 Fc kf = some w) (kk : ∀ v σ1, kf v σ1 = some w → J md d (pc1 + 3) L1 (mI v :: rest) σ1 r σ') : J md d pc L S σ r σ' := by
  obtain ⟨v, s1, h1, h2⟩ := b2_v hF
  exact J.call T k hr hi hS ck hrest hd (hc v s1 h1) (fun q => by intro h; cases h) (kk v s1 h2)
theorem J.csL (T : Tm md) {ins : Instr} {md' : Md} {as rest S1 : List MV} {d' : Nat} {Fc : Option (Int64 × St)} {kf : Int64 → St → Option ρ} (k : Nat) (hr : runP md.2.2.2.2 σ k (suf md.2.2.2.2 pc) L S = some (pc1, L1, S1)) (hi : insAt md.2.2.2.2 pc1 = some (n, ins, a, b, v0, w0)) (hS : S1 = as.reverse ++ rest) (ck : Ck md.1.cls ins md' as) (hrest : Nat.ble (rest.map catM).sum 8 = true) (hd : Nat.ble (d' + 1) d = true) (hc : ∀ v s1, Fc = some (v, s1) → Call md' d' as σ (some (mL v)) s1) (hF : b2 Fc kf = some w) (kk : ∀ v σ1, kf v σ1 = some w → J md d (pc1 + 3) L1 (mL v :: rest) σ1 r σ') : J md d pc L S σ r σ' := by
  obtain ⟨v, s1, h1, h2⟩ := b2_v hF
  exact J.call T k hr hi hS ck hrest hd (hc v s1 h1) (fun q => by intro h; cases h) (kk v s1 h2)
/-- nothing, and a new state -/
theorem J.csV (T : Tm md) {ins : Instr} {md' : Md} {as rest S1 : List MV} {d' : Nat} {Fc : Option St} {kf : St → Option ρ} (k : Nat) (hr : runP md.2.2.2.2 σ k (suf md.2.2.2.2 pc) L S = some (pc1, L1, S1)) (hi : insAt md.2.2.2.2 pc1 = some (n, ins, a, b, v0, w0)) (hS : S1 = as.reverse ++ rest) (ck : Ck md.1.cls ins md' as) (hrest : Nat.ble (rest.map catM).sum 8 = true) (hd : Nat.ble (d' + 1) d = true) (hc : ∀ s1, Fc = some s1 → Call md' d' as σ none s1) (hF : Fc.bind kf = some w) (kk : ∀ σ1, kf σ1 = some w → J md d (pc1 + 3) L1 rest σ1 r σ') : J md d pc L S σ r σ' := by
  obtain ⟨s1, h1, h2⟩ := bind_v hF
  exact J.call T k hr hi hS ck hrest hd (hc s1 h1) (fun q => by intro h; cases h) (kk s1 h2)
/-- pure, nothing -/
theorem J.cpV (T : Tm md) {ins : Instr} {md' : Md} {as rest S1 : List MV} {d' : Nat} {Fc : Option Unit} {kf : Unit → Option ρ} (k : Nat) (hr : runP md.2.2.2.2 σ k (suf md.2.2.2.2 pc) L S = some (pc1, L1, S1)) (hi : insAt md.2.2.2.2 pc1 = some (n, ins, a, b, v0, w0)) (hS : S1 = as.reverse ++ rest) (ck : Ck md.1.cls ins md' as) (hrest : Nat.ble (rest.map catM).sum 8 = true) (hd : Nat.ble (d' + 1) d = true) (hc : ∀ v, Fc = some v → Call md' d' as σ none σ) (hF : Fc.bind kf = some w) (kk : ∀ v, kf v = some w → J md d (pc1 + 3) L1 rest σ r σ') : J md d pc L S σ r σ' := by
  obtain ⟨s1, h1, h2⟩ := bind_v hF
  exact J.call T k hr hi hS ck hrest hd (hc s1 h1) (fun q => by intro h; cases h) (kk s1 h2)
theorem ckV {own : String} {idx nn : Nat} {md' : Md} {g t ci N : Nat} {as' : List MV} {fk : List Nat} {T : u_T} (hl : Cond.methodLink own idx md'.1 ∈ T1) (hm : MdOk md' nn ∧ Cond.instanceMethod md'.1 ∈ T1 ∧ Cond.selects md'.1.cls md'.1 md'.1 ∈ T1) (hn : as'.length = nn) (ho : objOf g = some (ci, fk)) (hc : mcl[ci]? = some (md'.1.cls, T, N)) : Ck own (.invokevirtual idx) md' (mR g t :: as') :=
  ⟨nn, hm.1, Or.inl ⟨idx, rfl, hl, hm.2.1, hm.2.2, g, t, as', ci, fk, T, N, rfl, hn, ho, hc⟩⟩
theorem ckS {own : String} {idx nn : Nat} {md' : Md} {as : List MV} (hl : Cond.methodLink own idx md'.1 ∈ T1) (hm : MdOk md' nn ∧ Cond.static md'.1 ∈ T1) (hn : as.length = nn) : Ck own (.invokestatic idx) md' as :=
  ⟨nn, hm.1, Or.inr ⟨idx, rfl, hn, hm.2, Or.inl hl⟩⟩
theorem ckN {own : String} {idx nn : Nat} {md' : Md} {as : List MV} (hl : Cond.methodLinkNest own idx md'.1 "TentMiddle" = nwM) (hm : MdOk md' nn ∧ Cond.static md'.1 ∈ T1) (hn : as.length = nn) : Ck own (.invokestatic idx) md' as :=
  ⟨nn, hm.1, Or.inr ⟨idx, rfl, hn, hm.2, Or.inr hl⟩⟩
theorem J.mmin (T : Tm md) {y z : Int32} {idx : Nat} {rest : List MV} (k : Nat) (hr : runP md.2.2.2.2 σ k (suf md.2.2.2.2 pc) L S = some (pc1, L1, mI y :: mI z :: rest)) (hi : insAt md.2.2.2.2 pc1 = some (n, .invokestatic idx, a, b, v0, w0)) (hl : Cond.methodLink md.1.cls idx Lib.Math.min.name ∈ T1) (hrest : Nat.ble (rest.map catM).sum 8 = true) (hd : Nat.ble 1 d = true) (kk : J md d (pc1 + 3) L1 (mI (mmin z y) :: rest) σ r σ') : J md d pc L S σ r σ' := by
  refine J.run T k hr ?_
  obtain ⟨hdc, -⟩ := dec_at T hi rfl
  have hd1 := Nat.le_of_ble_eq_true hd
  have h8 := Nat.le_of_ble_eq_true hrest
  intro l p e s m args below meth c D kI kA ad A C hret hlk H locs ls hP hD hS hl0 hV
  have hts := C.2.2.2.2.1
  refine va_mmin C.1 C.2.1 (by rw [C.2.2.1, hl0.1]) C.2.2.2.1 (hts _ hl) (hts _ minW.1) (hts _ minW.2.1) (hts _ minW.2.2) hd1 ?_ (Nat.le_refl _) (Nat.le_refl _) hdc (kk l p e s m args below meth c D kI kA ad A C hret hlk H locs ls hP hD hS hl0 hV.drop.drop.pI)
  show ((rest.map (cv ad)).map fun v => v.category).sum + 13 ≤ 64 * d
  rw [cat_le]
  omega
theorem J.mmax (T : Tm md) {y z : Int32} {idx : Nat} {rest : List MV} (k : Nat) (hr : runP md.2.2.2.2 σ k (suf md.2.2.2.2 pc) L S = some (pc1, L1, mI y :: mI z :: rest)) (hi : insAt md.2.2.2.2 pc1 = some (n, .invokestatic idx, a, b, v0, w0)) (hl : Cond.methodLink md.1.cls idx Lib.Math.max.name ∈ T1) (hrest : Nat.ble (rest.map catM).sum 8 = true) (hd : Nat.ble 1 d = true) (kk : J md d (pc1 + 3) L1 (mI (mmax z y) :: rest) σ r σ') : J md d pc L S σ r σ' := by
  refine J.run T k hr ?_
  obtain ⟨hdc, -⟩ := dec_at T hi rfl
  have hd1 := Nat.le_of_ble_eq_true hd
  have h8 := Nat.le_of_ble_eq_true hrest
  intro l p e s m args below meth c D kI kA ad A C hret hlk H locs ls hP hD hS hl0 hV
  have hts := C.2.2.2.2.1
  refine va_mmax C.1 C.2.1 (by rw [C.2.2.1, hl0.1]) C.2.2.2.1 (hts _ hl) (hts _ maxW.1) (hts _ maxW.2.1) (hts _ maxW.2.2) hd1 ?_ (Nat.le_refl _) (Nat.le_refl _) hdc (kk l p e s m args below meth c D kI kA ad A C hret hlk H locs ls hP hD hS hl0 hV.drop.drop.pI)
  show ((rest.map (cv ad)).map fun v => v.category).sum + 13 ≤ 64 * d
  rw [cat_le]
  omega
theorem J.acp (T : Tm md) {g t g' t' idx : Nat} {sp dp nn : Int32} {rest : List MV} {kf : St → Option ρ} (k : Nat) (hr : runP md.2.2.2.2 σ k (suf md.2.2.2.2 pc) L S = some (pc1, L1, mI nn :: mI dp :: mA g' t' :: mI sp :: mA g t :: rest)) (hi : insAt md.2.2.2.2 pc1 = some (n, .invokestatic idx, a, b, v0, w0)) (hl : Cond.methodLink md.1.cls idx arraycopyName ∈ T1) (hrest : Nat.ble (rest.map catM).sum 8 = true) (hd : Nat.ble 1 d = true) (hF : (acp σ g t sp g' t' dp nn).bind kf = some w) (kk : ∀ σ1, kf σ1 = some w → J md d (pc1 + 3) L1 rest σ1 r σ') : J md d pc L S σ r σ' := by
  refine J.run T k hr ?_
  obtain ⟨hdc, -⟩ := dec_at T hi rfl
  have hd1 := Nat.le_of_ble_eq_true hd
  have h8 := Nat.le_of_ble_eq_true hrest
  obtain ⟨σ1, h1, h2⟩ := bind_v hF
  obtain ⟨h3, rfl⟩ := if_v h1
  obtain ⟨c1, h3⟩ := Bool.and_eq_true_iff.mp h3
  obtain ⟨c2, h3⟩ := Bool.and_eq_true_iff.mp h3
  obtain ⟨c3, h3⟩ := Bool.and_eq_true_iff.mp h3
  obtain ⟨c4, c5⟩ := Bool.and_eq_true_iff.mp h3
  have c1 : ¬ sp < 0 := by simpa using c1
  have c2 : ¬ dp < 0 := by simpa using c2
  have c3 : ¬ nn < 0 := by simpa using c3
  intro l p e s m args below meth c D kI kA ad A C hret hlk H locs ls hP hD hS hl0 hV
  have hts := C.2.2.2.2.1
  obtain ⟨q0, hq0⟩ := List.getElem?_of_mem hV.drop.drop.drop.drop.top
  obtain ⟨q1, hq1⟩ := List.getElem?_of_mem hV.drop.drop.top
  have hset : (wsO ad kI kA σ).set q1 (ad (.inr (g', t')), .inl (kI, lenOf g' t', .inl (va_cpy (σ.1 g t) (σ.1 g' t') sp.toNatClampNeg dp.toNatClampNeg nn.toNatClampNeg))) = wsO ad kI kA (sa σ g' t' (va_cpy (σ.1 g t) (σ.1 g' t') sp.toNatClampNeg dp.toNatClampNeg nn.toNatClampNeg)) := ws_set hq1 (fun q h => ent_sa_ne q h) (by rw [ent_sa_arr])
  refine va_copyi C.1 C.2.1 (by rw [C.2.2.1, hl0.1]) C.2.2.2.1 (hts _ hl) (hts _ cpyW.1) (hts _ cpyW.2.1) (hts _ cpyW.2.2) C.2.2.2.2.2.1 hP hD hS q0 q1 0 0 (ws_get hq0) (ws_get hq1) rfl rfl rfl c1 c2 c3 (of_decide_eq_true c4) (of_decide_eq_true c5) (fun i _ => rfl) hd1 ?_ hdc (fun H1 locs1 hP hD hS => ?_)
  · show ((rest.map (cv ad)).map fun v => v.category).sum + _ ≤ 64 * d
    rw [cat_le]
    have : nativeFrameWords "java/lang/System" "arraycopy" 5 + 11 ≤ 40 := by decide
    omega
  · rw [hset] at hP hD
    exact kk _ h2 l p e s m args below meth c D kI kA ad A C hret hlk H1 locs1 ls hP hD hS hl0 hV.drop.drop.drop.drop.drop
end EVC
end
