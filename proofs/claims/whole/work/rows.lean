section
-- ===== PART A: goes FIRST, ahead of the names: the tables' words, and 'selects' of the private methods out of them =====
/-- a private method of a class that the tables say can be made, by its rows of tables_1 -/
def lw_okq (q : MethodName × Nat) : Prop := (q.1.cls ≠ "java/lang/invoke/MethodHandle" ∧ q.1.cls ≠ "java/lang/invoke/VarHandle") ∧ Cond.instantiable q.1.cls q.2 ∈ tables_1 ∧ Cond.privateMethod q.1 ∈ tables_1 ∧ Cond.instanceMethod q.1 ∈ tables_1
theorem lw_p0 : lw_okq (⟨"FarKeys$LandReader", "readClause", "()V"⟩, 3) := ⟨⟨by decide +kernel, by decide +kernel⟩, List.mem_of_getElem? (i := 57) (by decide +kernel), List.mem_of_getElem? (i := 547) (by decide +kernel), List.mem_of_getElem? (i := 548) (by decide +kernel)⟩
theorem lw_p1 : lw_okq (⟨"FarKeys$LandReader", "isClauseOver", "()Z"⟩, 3) := ⟨⟨by decide +kernel, by decide +kernel⟩, List.mem_of_getElem? (i := 57) (by decide +kernel), List.mem_of_getElem? (i := 571) (by decide +kernel), List.mem_of_getElem? (i := 572) (by decide +kernel)⟩
theorem lw_p2 : lw_okq (⟨"FarKeys$LandReader", "readItem", "(II)I"⟩, 3) := ⟨⟨by decide +kernel, by decide +kernel⟩, List.mem_of_getElem? (i := 57) (by decide +kernel), List.mem_of_getElem? (i := 575) (by decide +kernel), List.mem_of_getElem? (i := 576) (by decide +kernel)⟩
theorem lw_p3 : lw_okq (⟨"FarKeys$Tape", "isDigitAt", "(I)Z"⟩, 4) := ⟨⟨by decide +kernel, by decide +kernel⟩, List.mem_of_getElem? (i := 30) (by decide +kernel), List.mem_of_getElem? (i := 593) (by decide +kernel), List.mem_of_getElem? (i := 594) (by decide +kernel)⟩
theorem lw_p4 : lw_okq (⟨"FarKeys$PlanReader", "readUnit", "()V"⟩, 6) := ⟨⟨by decide +kernel, by decide +kernel⟩, List.mem_of_getElem? (i := 157) (by decide +kernel), List.mem_of_getElem? (i := 614) (by decide +kernel), List.mem_of_getElem? (i := 615) (by decide +kernel)⟩
theorem lw_p5 : lw_okq (⟨"FarKeys$PlanReader", "write", "(I)V"⟩, 6) := ⟨⟨by decide +kernel, by decide +kernel⟩, List.mem_of_getElem? (i := 157) (by decide +kernel), List.mem_of_getElem? (i := 618) (by decide +kernel), List.mem_of_getElem? (i := 619) (by decide +kernel)⟩
theorem lw_p6 : lw_okq (⟨"FarKeys$PlanReader", "readLetter", "(I)V"⟩, 6) := ⟨⟨by decide +kernel, by decide +kernel⟩, List.mem_of_getElem? (i := 157) (by decide +kernel), List.mem_of_getElem? (i := 622) (by decide +kernel), List.mem_of_getElem? (i := 623) (by decide +kernel)⟩
theorem lw_p7 : lw_okq (⟨"FarKeys$PlanReader", "readBehindUnit", "()V"⟩, 6) := ⟨⟨by decide +kernel, by decide +kernel⟩, List.mem_of_getElem? (i := 157) (by decide +kernel), List.mem_of_getElem? (i := 628) (by decide +kernel), List.mem_of_getElem? (i := 629) (by decide +kernel)⟩
theorem lw_p8 : lw_okq (⟨"FarKeys", "takeLand", "()I"⟩, 15) := ⟨⟨by decide +kernel, by decide +kernel⟩, List.mem_of_getElem? (i := 22) (by decide +kernel), List.mem_of_getElem? (i := 636) (by decide +kernel), List.mem_of_getElem? (i := 637) (by decide +kernel)⟩
theorem lw_p9 : lw_okq (⟨"FarKeys", "forgetAnswers", "()V"⟩, 15) := ⟨⟨by decide +kernel, by decide +kernel⟩, List.mem_of_getElem? (i := 22) (by decide +kernel), List.mem_of_getElem? (i := 651) (by decide +kernel), List.mem_of_getElem? (i := 652) (by decide +kernel)⟩
theorem lw_p10 : lw_okq (⟨"FarKeys", "takePlan", "()I"⟩, 15) := ⟨⟨by decide +kernel, by decide +kernel⟩, List.mem_of_getElem? (i := 22) (by decide +kernel), List.mem_of_getElem? (i := 655) (by decide +kernel), List.mem_of_getElem? (i := 656) (by decide +kernel)⟩
theorem lw_p11 : lw_okq (⟨"FarKeys", "isGuard", "(I)Z"⟩, 15) := ⟨⟨by decide +kernel, by decide +kernel⟩, List.mem_of_getElem? (i := 22) (by decide +kernel), List.mem_of_getElem? (i := 668) (by decide +kernel), List.mem_of_getElem? (i := 669) (by decide +kernel)⟩
theorem lw_p12 : lw_okq (⟨"FarKeys", "isSign", "(I)Z"⟩, 15) := ⟨⟨by decide +kernel, by decide +kernel⟩, List.mem_of_getElem? (i := 22) (by decide +kernel), List.mem_of_getElem? (i := 676) (by decide +kernel), List.mem_of_getElem? (i := 677) (by decide +kernel)⟩
theorem lw_p13 : lw_okq (⟨"FarKeys", "isPlan", "(I)Z"⟩, 15) := ⟨⟨by decide +kernel, by decide +kernel⟩, List.mem_of_getElem? (i := 22) (by decide +kernel), List.mem_of_getElem? (i := 685) (by decide +kernel), List.mem_of_getElem? (i := 686) (by decide +kernel)⟩
theorem lw_p14 : lw_okq (⟨"FarKeys", "isTold", "()Z"⟩, 15) := ⟨⟨by decide +kernel, by decide +kernel⟩, List.mem_of_getElem? (i := 22) (by decide +kernel), List.mem_of_getElem? (i := 693) (by decide +kernel), List.mem_of_getElem? (i := 694) (by decide +kernel)⟩
theorem lw_p15 : lw_okq (⟨"FarKeys", "surveyed", "()LFarKeys$Survey;"⟩, 15) := ⟨⟨by decide +kernel, by decide +kernel⟩, List.mem_of_getElem? (i := 22) (by decide +kernel), List.mem_of_getElem? (i := 700) (by decide +kernel), List.mem_of_getElem? (i := 701) (by decide +kernel)⟩
def lw_privs_1 : List (MethodName × Nat) := [(⟨"FarKeys$LandReader", "readClause", "()V"⟩, 3), (⟨"FarKeys$LandReader", "isClauseOver", "()Z"⟩, 3), (⟨"FarKeys$LandReader", "readItem", "(II)I"⟩, 3), (⟨"FarKeys$Tape", "isDigitAt", "(I)Z"⟩, 4), (⟨"FarKeys$PlanReader", "readUnit", "()V"⟩, 6), (⟨"FarKeys$PlanReader", "write", "(I)V"⟩, 6), (⟨"FarKeys$PlanReader", "readLetter", "(I)V"⟩, 6), (⟨"FarKeys$PlanReader", "readBehindUnit", "()V"⟩, 6), (⟨"FarKeys", "takeLand", "()I"⟩, 15), (⟨"FarKeys", "forgetAnswers", "()V"⟩, 15), (⟨"FarKeys", "takePlan", "()I"⟩, 15), (⟨"FarKeys", "isGuard", "(I)Z"⟩, 15), (⟨"FarKeys", "isSign", "(I)Z"⟩, 15), (⟨"FarKeys", "isPlan", "(I)Z"⟩, 15), (⟨"FarKeys", "isTold", "()Z"⟩, 15), (⟨"FarKeys", "surveyed", "()LFarKeys$Survey;"⟩, 15)]
theorem lw_r1 : ∀ q ∈ lw_privs_1, lw_okq q := List.forall_mem_cons.mpr ⟨lw_p0, List.forall_mem_cons.mpr ⟨lw_p1, List.forall_mem_cons.mpr ⟨lw_p2, List.forall_mem_cons.mpr ⟨lw_p3, List.forall_mem_cons.mpr ⟨lw_p4, List.forall_mem_cons.mpr ⟨lw_p5, List.forall_mem_cons.mpr ⟨lw_p6, List.forall_mem_cons.mpr ⟨lw_p7, List.forall_mem_cons.mpr ⟨lw_p8, List.forall_mem_cons.mpr ⟨lw_p9, List.forall_mem_cons.mpr ⟨lw_p10, List.forall_mem_cons.mpr ⟨lw_p11, List.forall_mem_cons.mpr ⟨lw_p12, List.forall_mem_cons.mpr ⟨lw_p13, List.forall_mem_cons.mpr ⟨lw_p14, List.forall_mem_cons.mpr ⟨lw_p15, fun _ h => absurd h List.not_mem_nil⟩⟩⟩⟩⟩⟩⟩⟩⟩⟩⟩⟩⟩⟩⟩⟩
theorem lw_p16 : lw_okq (⟨"FarKeys$Survey", "clear", "()V"⟩, 14) := ⟨⟨by decide +kernel, by decide +kernel⟩, List.mem_of_getElem? (i := 338) (by decide +kernel), List.mem_of_getElem? (i := 708) (by decide +kernel), List.mem_of_getElem? (i := 709) (by decide +kernel)⟩
theorem lw_p17 : lw_okq (⟨"FarKeys$Walk", "enter", "(LFarKeys$Land;[I)V"⟩, 10) := ⟨⟨by decide +kernel, by decide +kernel⟩, List.mem_of_getElem? (i := 257) (by decide +kernel), List.mem_of_getElem? (i := 718) (by decide +kernel), List.mem_of_getElem? (i := 719) (by decide +kernel)⟩
theorem lw_p18 : lw_okq (⟨"FarKeys$Walk", "settle", "(I)V"⟩, 10) := ⟨⟨by decide +kernel, by decide +kernel⟩, List.mem_of_getElem? (i := 257) (by decide +kernel), List.mem_of_getElem? (i := 731) (by decide +kernel), List.mem_of_getElem? (i := 732) (by decide +kernel)⟩
theorem lw_p19 : lw_okq (⟨"FarKeys$Plans", "openLevel", "(I)V"⟩, 6) := ⟨⟨by decide +kernel, by decide +kernel⟩, List.mem_of_getElem? (i := 185) (by decide +kernel), List.mem_of_getElem? (i := 745) (by decide +kernel), List.mem_of_getElem? (i := 746) (by decide +kernel)⟩
theorem lw_p20 : lw_okq (⟨"FarKeys$Walk", "neededSigns", "(I)I"⟩, 10) := ⟨⟨by decide +kernel, by decide +kernel⟩, List.mem_of_getElem? (i := 257) (by decide +kernel), List.mem_of_getElem? (i := 756) (by decide +kernel), List.mem_of_getElem? (i := 757) (by decide +kernel)⟩
theorem lw_p21 : lw_okq (⟨"FarKeys$Survey", "seeTurns", "(LFarKeys$Walk;)V"⟩, 14) := ⟨⟨by decide +kernel, by decide +kernel⟩, List.mem_of_getElem? (i := 338) (by decide +kernel), List.mem_of_getElem? (i := 760) (by decide +kernel), List.mem_of_getElem? (i := 761) (by decide +kernel)⟩
theorem lw_p22 : lw_okq (⟨"FarKeys$Survey", "seeSpread", "(I)V"⟩, 14) := ⟨⟨by decide +kernel, by decide +kernel⟩, List.mem_of_getElem? (i := 338) (by decide +kernel), List.mem_of_getElem? (i := 780) (by decide +kernel), List.mem_of_getElem? (i := 781) (by decide +kernel)⟩
theorem lw_p23 : lw_okq (⟨"FarKeys$Survey", "seeMoment", "(II)V"⟩, 14) := ⟨⟨by decide +kernel, by decide +kernel⟩, List.mem_of_getElem? (i := 338) (by decide +kernel), List.mem_of_getElem? (i := 788) (by decide +kernel), List.mem_of_getElem? (i := 789) (by decide +kernel)⟩
theorem lw_p24 : lw_okq (⟨"FarKeys$Survey", "seeFirst", "(LFarKeys$Walk;)V"⟩, 14) := ⟨⟨by decide +kernel, by decide +kernel⟩, List.mem_of_getElem? (i := 338) (by decide +kernel), List.mem_of_getElem? (i := 792) (by decide +kernel), List.mem_of_getElem? (i := 793) (by decide +kernel)⟩
theorem lw_p25 : lw_okq (⟨"FarKeys", "readOffs", "(I)Z"⟩, 15) := ⟨⟨by decide +kernel, by decide +kernel⟩, List.mem_of_getElem? (i := 22) (by decide +kernel), List.mem_of_getElem? (i := 818) (by decide +kernel), List.mem_of_getElem? (i := 819) (by decide +kernel)⟩
theorem lw_p26 : lw_okq (⟨"FarKeys$Solo", "clear", "()V"⟩, 2) := ⟨⟨by decide +kernel, by decide +kernel⟩, List.mem_of_getElem? (i := 400) (by decide +kernel), List.mem_of_getElem? (i := 861) (by decide +kernel), List.mem_of_getElem? (i := 862) (by decide +kernel)⟩
theorem lw_p27 : lw_okq (⟨"FarKeys$Solo", "findSpans", "(LFarKeys$Walk;I)V"⟩, 2) := ⟨⟨by decide +kernel, by decide +kernel⟩, List.mem_of_getElem? (i := 400) (by decide +kernel), List.mem_of_getElem? (i := 867) (by decide +kernel), List.mem_of_getElem? (i := 868) (by decide +kernel)⟩
theorem lw_p28 : lw_okq (⟨"FarKeys$Row", "addSpan", "(II)V"⟩, 5) := ⟨⟨by decide +kernel, by decide +kernel⟩, List.mem_of_getElem? (i := 263) (by decide +kernel), List.mem_of_getElem? (i := 879) (by decide +kernel), List.mem_of_getElem? (i := 880) (by decide +kernel)⟩
theorem lw_p29 : lw_okq (⟨"FarKeys$Solo", "addOpen", "(III)V"⟩, 2) := ⟨⟨by decide +kernel, by decide +kernel⟩, List.mem_of_getElem? (i := 400) (by decide +kernel), List.mem_of_getElem? (i := 888) (by decide +kernel), List.mem_of_getElem? (i := 889) (by decide +kernel)⟩
theorem lw_p30 : lw_okq (⟨"FarKeys", "isPair", "(II)Z"⟩, 15) := ⟨⟨by decide +kernel, by decide +kernel⟩, List.mem_of_getElem? (i := 22) (by decide +kernel), List.mem_of_getElem? (i := 906) (by decide +kernel), List.mem_of_getElem? (i := 907) (by decide +kernel)⟩
theorem lw_p31 : lw_okq (⟨"FarKeys", "dueled", "(II)LFarKeys$Duel;"⟩, 15) := ⟨⟨by decide +kernel, by decide +kernel⟩, List.mem_of_getElem? (i := 22) (by decide +kernel), List.mem_of_getElem? (i := 910) (by decide +kernel), List.mem_of_getElem? (i := 911) (by decide +kernel)⟩
def lw_privs_2 : List (MethodName × Nat) := [(⟨"FarKeys$Survey", "clear", "()V"⟩, 14), (⟨"FarKeys$Walk", "enter", "(LFarKeys$Land;[I)V"⟩, 10), (⟨"FarKeys$Walk", "settle", "(I)V"⟩, 10), (⟨"FarKeys$Plans", "openLevel", "(I)V"⟩, 6), (⟨"FarKeys$Walk", "neededSigns", "(I)I"⟩, 10), (⟨"FarKeys$Survey", "seeTurns", "(LFarKeys$Walk;)V"⟩, 14), (⟨"FarKeys$Survey", "seeSpread", "(I)V"⟩, 14), (⟨"FarKeys$Survey", "seeMoment", "(II)V"⟩, 14), (⟨"FarKeys$Survey", "seeFirst", "(LFarKeys$Walk;)V"⟩, 14), (⟨"FarKeys", "readOffs", "(I)Z"⟩, 15), (⟨"FarKeys$Solo", "clear", "()V"⟩, 2), (⟨"FarKeys$Solo", "findSpans", "(LFarKeys$Walk;I)V"⟩, 2), (⟨"FarKeys$Row", "addSpan", "(II)V"⟩, 5), (⟨"FarKeys$Solo", "addOpen", "(III)V"⟩, 2), (⟨"FarKeys", "isPair", "(II)Z"⟩, 15), (⟨"FarKeys", "dueled", "(II)LFarKeys$Duel;"⟩, 15)]
theorem lw_r2 : ∀ q ∈ lw_privs_2, lw_okq q := List.forall_mem_cons.mpr ⟨lw_p16, List.forall_mem_cons.mpr ⟨lw_p17, List.forall_mem_cons.mpr ⟨lw_p18, List.forall_mem_cons.mpr ⟨lw_p19, List.forall_mem_cons.mpr ⟨lw_p20, List.forall_mem_cons.mpr ⟨lw_p21, List.forall_mem_cons.mpr ⟨lw_p22, List.forall_mem_cons.mpr ⟨lw_p23, List.forall_mem_cons.mpr ⟨lw_p24, List.forall_mem_cons.mpr ⟨lw_p25, List.forall_mem_cons.mpr ⟨lw_p26, List.forall_mem_cons.mpr ⟨lw_p27, List.forall_mem_cons.mpr ⟨lw_p28, List.forall_mem_cons.mpr ⟨lw_p29, List.forall_mem_cons.mpr ⟨lw_p30, List.forall_mem_cons.mpr ⟨lw_p31, fun _ h => absurd h List.not_mem_nil⟩⟩⟩⟩⟩⟩⟩⟩⟩⟩⟩⟩⟩⟩⟩⟩
theorem lw_p32 : lw_okq (⟨"FarKeys$Duel", "tryPlan", "(LFarKeys$Walk;I)V"⟩, 13) := ⟨⟨by decide +kernel, by decide +kernel⟩, List.mem_of_getElem? (i := 415) (by decide +kernel), List.mem_of_getElem? (i := 921) (by decide +kernel), List.mem_of_getElem? (i := 922) (by decide +kernel)⟩
theorem lw_p33 : lw_okq (⟨"FarKeys$Duel", "findFirst", "(LFarKeys$Walk;I)V"⟩, 13) := ⟨⟨by decide +kernel, by decide +kernel⟩, List.mem_of_getElem? (i := 415) (by decide +kernel), List.mem_of_getElem? (i := 933) (by decide +kernel), List.mem_of_getElem? (i := 934) (by decide +kernel)⟩
theorem lw_p34 : lw_okq (⟨"FarKeys$Duel", "addWay", "(IIII)V"⟩, 13) := ⟨⟨by decide +kernel, by decide +kernel⟩, List.mem_of_getElem? (i := 415) (by decide +kernel), List.mem_of_getElem? (i := 937) (by decide +kernel), List.mem_of_getElem? (i := 938) (by decide +kernel)⟩
theorem lw_p35 : lw_okq (⟨"FarKeys$Duel", "findMosts", "(LFarKeys$Land;)V"⟩, 13) := ⟨⟨by decide +kernel, by decide +kernel⟩, List.mem_of_getElem? (i := 415) (by decide +kernel), List.mem_of_getElem? (i := 999) (by decide +kernel), List.mem_of_getElem? (i := 1000) (by decide +kernel)⟩
theorem lw_p36 : lw_okq (⟨"FarKeys$Duel", "gainOfOne", "(LFarKeys$Land;I)I"⟩, 13) := ⟨⟨by decide +kernel, by decide +kernel⟩, List.mem_of_getElem? (i := 415) (by decide +kernel), List.mem_of_getElem? (i := 1003) (by decide +kernel), List.mem_of_getElem? (i := 1004) (by decide +kernel)⟩
theorem lw_p37 : lw_okq (⟨"FarKeys$Duel", "gainOfOther", "(LFarKeys$Land;I)I"⟩, 13) := ⟨⟨by decide +kernel, by decide +kernel⟩, List.mem_of_getElem? (i := 415) (by decide +kernel), List.mem_of_getElem? (i := 1008) (by decide +kernel), List.mem_of_getElem? (i := 1009) (by decide +kernel)⟩
theorem lw_p38 : lw_okq (⟨"FarKeys", "tallyWithPlan", "(II)I"⟩, 15) := ⟨⟨by decide +kernel, by decide +kernel⟩, List.mem_of_getElem? (i := 22) (by decide +kernel), List.mem_of_getElem? (i := 1075) (by decide +kernel), List.mem_of_getElem? (i := 1076) (by decide +kernel)⟩
theorem lw_p39 : lw_okq (⟨"FarKeys", "partsOfSet", "(II)J"⟩, 15) := ⟨⟨by decide +kernel, by decide +kernel⟩, List.mem_of_getElem? (i := 22) (by decide +kernel), List.mem_of_getElem? (i := 1088) (by decide +kernel), List.mem_of_getElem? (i := 1089) (by decide +kernel)⟩
theorem lw_p40 : lw_okq (⟨"FarKeys", "tallyWithHearing", "(II)I"⟩, 15) := ⟨⟨by decide +kernel, by decide +kernel⟩, List.mem_of_getElem? (i := 22) (by decide +kernel), List.mem_of_getElem? (i := 1114) (by decide +kernel), List.mem_of_getElem? (i := 1115) (by decide +kernel)⟩
theorem lw_p41 : lw_okq (⟨"FarKeys", "isNight", "(I)Z"⟩, 15) := ⟨⟨by decide +kernel, by decide +kernel⟩, List.mem_of_getElem? (i := 22) (by decide +kernel), List.mem_of_getElem? (i := 1141) (by decide +kernel), List.mem_of_getElem? (i := 1142) (by decide +kernel)⟩
theorem lw_p42 : lw_okq (⟨"java/lang/Throwable", "fillInStackTrace", "(I)Ljava/lang/Throwable;"⟩, 6) := ⟨⟨by decide +kernel, by decide +kernel⟩, List.mem_of_getElem? (i := 1221) (by decide +kernel), List.mem_of_getElem? (i := 1219) (by decide +kernel), List.mem_of_getElem? (i := 1220) (by decide +kernel)⟩
theorem lw_p43 : lw_okq (⟨"FarKeysModel", "wipes", "()V"⟩, 65) := ⟨⟨by decide +kernel, by decide +kernel⟩, List.mem_of_getElem? (i := 1255) (by decide +kernel), List.mem_of_getElem? (i := 1261) (by decide +kernel), List.mem_of_getElem? (i := 1262) (by decide +kernel)⟩
theorem lw_p44 : lw_okq (⟨"FarKeysModel", "comes", "(I)V"⟩, 65) := ⟨⟨by decide +kernel, by decide +kernel⟩, List.mem_of_getElem? (i := 1255) (by decide +kernel), List.mem_of_getElem? (i := 1469) (by decide +kernel), List.mem_of_getElem? (i := 1470) (by decide +kernel)⟩
theorem lw_p45 : lw_okq (⟨"FarKeysModel", "wrongLand", "()I"⟩, 65) := ⟨⟨by decide +kernel, by decide +kernel⟩, List.mem_of_getElem? (i := 1255) (by decide +kernel), List.mem_of_getElem? (i := 1481) (by decide +kernel), List.mem_of_getElem? (i := 1482) (by decide +kernel)⟩
theorem lw_p46 : lw_okq (⟨"FarKeysModel", "readsClause", "()V"⟩, 65) := ⟨⟨by decide +kernel, by decide +kernel⟩, List.mem_of_getElem? (i := 1255) (by decide +kernel), List.mem_of_getElem? (i := 1485) (by decide +kernel), List.mem_of_getElem? (i := 1486) (by decide +kernel)⟩
theorem lw_p47 : lw_okq (⟨"FarKeysModel", "sees", "()I"⟩, 65) := ⟨⟨by decide +kernel, by decide +kernel⟩, List.mem_of_getElem? (i := 1255) (by decide +kernel), List.mem_of_getElem? (i := 1489) (by decide +kernel), List.mem_of_getElem? (i := 1490) (by decide +kernel)⟩
def lw_privs_3 : List (MethodName × Nat) := [(⟨"FarKeys$Duel", "tryPlan", "(LFarKeys$Walk;I)V"⟩, 13), (⟨"FarKeys$Duel", "findFirst", "(LFarKeys$Walk;I)V"⟩, 13), (⟨"FarKeys$Duel", "addWay", "(IIII)V"⟩, 13), (⟨"FarKeys$Duel", "findMosts", "(LFarKeys$Land;)V"⟩, 13), (⟨"FarKeys$Duel", "gainOfOne", "(LFarKeys$Land;I)I"⟩, 13), (⟨"FarKeys$Duel", "gainOfOther", "(LFarKeys$Land;I)I"⟩, 13), (⟨"FarKeys", "tallyWithPlan", "(II)I"⟩, 15), (⟨"FarKeys", "partsOfSet", "(II)J"⟩, 15), (⟨"FarKeys", "tallyWithHearing", "(II)I"⟩, 15), (⟨"FarKeys", "isNight", "(I)Z"⟩, 15), (⟨"java/lang/Throwable", "fillInStackTrace", "(I)Ljava/lang/Throwable;"⟩, 6), (⟨"FarKeysModel", "wipes", "()V"⟩, 65), (⟨"FarKeysModel", "comes", "(I)V"⟩, 65), (⟨"FarKeysModel", "wrongLand", "()I"⟩, 65), (⟨"FarKeysModel", "readsClause", "()V"⟩, 65), (⟨"FarKeysModel", "sees", "()I"⟩, 65)]
theorem lw_r3 : ∀ q ∈ lw_privs_3, lw_okq q := List.forall_mem_cons.mpr ⟨lw_p32, List.forall_mem_cons.mpr ⟨lw_p33, List.forall_mem_cons.mpr ⟨lw_p34, List.forall_mem_cons.mpr ⟨lw_p35, List.forall_mem_cons.mpr ⟨lw_p36, List.forall_mem_cons.mpr ⟨lw_p37, List.forall_mem_cons.mpr ⟨lw_p38, List.forall_mem_cons.mpr ⟨lw_p39, List.forall_mem_cons.mpr ⟨lw_p40, List.forall_mem_cons.mpr ⟨lw_p41, List.forall_mem_cons.mpr ⟨lw_p42, List.forall_mem_cons.mpr ⟨lw_p43, List.forall_mem_cons.mpr ⟨lw_p44, List.forall_mem_cons.mpr ⟨lw_p45, List.forall_mem_cons.mpr ⟨lw_p46, List.forall_mem_cons.mpr ⟨lw_p47, fun _ h => absurd h List.not_mem_nil⟩⟩⟩⟩⟩⟩⟩⟩⟩⟩⟩⟩⟩⟩⟩⟩
theorem lw_p48 : lw_okq (⟨"FarKeysModel", "readsItem", "(II)V"⟩, 65) := ⟨⟨by decide +kernel, by decide +kernel⟩, List.mem_of_getElem? (i := 1255) (by decide +kernel), List.mem_of_getElem? (i := 1496) (by decide +kernel), List.mem_of_getElem? (i := 1497) (by decide +kernel)⟩
theorem lw_p49 : lw_okq (⟨"FarKeysModel", "reads", "(II)I"⟩, 65) := ⟨⟨by decide +kernel, by decide +kernel⟩, List.mem_of_getElem? (i := 1255) (by decide +kernel), List.mem_of_getElem? (i := 1500) (by decide +kernel), List.mem_of_getElem? (i := 1501) (by decide +kernel)⟩
theorem lw_p50 : lw_okq (⟨"FarKeysModel", "isWhole", "()Z"⟩, 65) := ⟨⟨by decide +kernel, by decide +kernel⟩, List.mem_of_getElem? (i := 1255) (by decide +kernel), List.mem_of_getElem? (i := 1507) (by decide +kernel), List.mem_of_getElem? (i := 1508) (by decide +kernel)⟩
theorem lw_p51 : lw_okq (⟨"FarKeysModel", "wrongPlan", "()I"⟩, 65) := ⟨⟨by decide +kernel, by decide +kernel⟩, List.mem_of_getElem? (i := 1255) (by decide +kernel), List.mem_of_getElem? (i := 1511) (by decide +kernel), List.mem_of_getElem? (i := 1512) (by decide +kernel)⟩
theorem lw_p52 : lw_okq (⟨"FarKeysModel", "comesOut", "(I)V"⟩, 65) := ⟨⟨by decide +kernel, by decide +kernel⟩, List.mem_of_getElem? (i := 1255) (by decide +kernel), List.mem_of_getElem? (i := 1515) (by decide +kernel), List.mem_of_getElem? (i := 1516) (by decide +kernel)⟩
theorem lw_p53 : lw_okq (⟨"FarKeysModel", "laysLand", "()V"⟩, 65) := ⟨⟨by decide +kernel, by decide +kernel⟩, List.mem_of_getElem? (i := 1255) (by decide +kernel), List.mem_of_getElem? (i := 1523) (by decide +kernel), List.mem_of_getElem? (i := 1524) (by decide +kernel)⟩
theorem lw_p54 : lw_okq (⟨"FarKeysModel", "isSign", "(I)Z"⟩, 65) := ⟨⟨by decide +kernel, by decide +kernel⟩, List.mem_of_getElem? (i := 1255) (by decide +kernel), List.mem_of_getElem? (i := 1531) (by decide +kernel), List.mem_of_getElem? (i := 1532) (by decide +kernel)⟩
theorem lw_p55 : lw_okq (⟨"FarKeysModel", "isGuard", "(I)Z"⟩, 65) := ⟨⟨by decide +kernel, by decide +kernel⟩, List.mem_of_getElem? (i := 1255) (by decide +kernel), List.mem_of_getElem? (i := 1542) (by decide +kernel), List.mem_of_getElem? (i := 1543) (by decide +kernel)⟩
theorem lw_p56 : lw_okq (⟨"FarKeysModel", "asTold", "()V"⟩, 65) := ⟨⟨by decide +kernel, by decide +kernel⟩, List.mem_of_getElem? (i := 1255) (by decide +kernel), List.mem_of_getElem? (i := 1558) (by decide +kernel), List.mem_of_getElem? (i := 1559) (by decide +kernel)⟩
theorem lw_p57 : lw_okq (⟨"FarKeysModel", "allWays", "()I"⟩, 65) := ⟨⟨by decide +kernel, by decide +kernel⟩, List.mem_of_getElem? (i := 1255) (by decide +kernel), List.mem_of_getElem? (i := 1562) (by decide +kernel), List.mem_of_getElem? (i := 1563) (by decide +kernel)⟩
theorem lw_p58 : lw_okq (⟨"FarKeysModel", "openings", "()I"⟩, 65) := ⟨⟨by decide +kernel, by decide +kernel⟩, List.mem_of_getElem? (i := 1255) (by decide +kernel), List.mem_of_getElem? (i := 1566) (by decide +kernel), List.mem_of_getElem? (i := 1567) (by decide +kernel)⟩
theorem lw_p59 : lw_okq (⟨"FarKeysModel", "firstWay", "()V"⟩, 65) := ⟨⟨by decide +kernel, by decide +kernel⟩, List.mem_of_getElem? (i := 1255) (by decide +kernel), List.mem_of_getElem? (i := 1570) (by decide +kernel), List.mem_of_getElem? (i := 1571) (by decide +kernel)⟩
theorem lw_p60 : lw_okq (⟨"FarKeysModel", "goes", "()V"⟩, 65) := ⟨⟨by decide +kernel, by decide +kernel⟩, List.mem_of_getElem? (i := 1255) (by decide +kernel), List.mem_of_getElem? (i := 1574) (by decide +kernel), List.mem_of_getElem? (i := 1575) (by decide +kernel)⟩
theorem lw_p61 : lw_okq (⟨"FarKeysModel", "heardAt", "(II)I"⟩, 65) := ⟨⟨by decide +kernel, by decide +kernel⟩, List.mem_of_getElem? (i := 1255) (by decide +kernel), List.mem_of_getElem? (i := 1578) (by decide +kernel), List.mem_of_getElem? (i := 1579) (by decide +kernel)⟩
theorem lw_p62 : lw_okq (⟨"FarKeysModel", "byPlan", "(II)I"⟩, 65) := ⟨⟨by decide +kernel, by decide +kernel⟩, List.mem_of_getElem? (i := 1255) (by decide +kernel), List.mem_of_getElem? (i := 1583) (by decide +kernel), List.mem_of_getElem? (i := 1584) (by decide +kernel)⟩
theorem lw_p63 : lw_okq (⟨"FarKeysModel", "doesOpen", "()Z"⟩, 65) := ⟨⟨by decide +kernel, by decide +kernel⟩, List.mem_of_getElem? (i := 1255) (by decide +kernel), List.mem_of_getElem? (i := 1587) (by decide +kernel), List.mem_of_getElem? (i := 1588) (by decide +kernel)⟩
def lw_privs_4 : List (MethodName × Nat) := [(⟨"FarKeysModel", "readsItem", "(II)V"⟩, 65), (⟨"FarKeysModel", "reads", "(II)I"⟩, 65), (⟨"FarKeysModel", "isWhole", "()Z"⟩, 65), (⟨"FarKeysModel", "wrongPlan", "()I"⟩, 65), (⟨"FarKeysModel", "comesOut", "(I)V"⟩, 65), (⟨"FarKeysModel", "laysLand", "()V"⟩, 65), (⟨"FarKeysModel", "isSign", "(I)Z"⟩, 65), (⟨"FarKeysModel", "isGuard", "(I)Z"⟩, 65), (⟨"FarKeysModel", "asTold", "()V"⟩, 65), (⟨"FarKeysModel", "allWays", "()I"⟩, 65), (⟨"FarKeysModel", "openings", "()I"⟩, 65), (⟨"FarKeysModel", "firstWay", "()V"⟩, 65), (⟨"FarKeysModel", "goes", "()V"⟩, 65), (⟨"FarKeysModel", "heardAt", "(II)I"⟩, 65), (⟨"FarKeysModel", "byPlan", "(II)I"⟩, 65), (⟨"FarKeysModel", "doesOpen", "()Z"⟩, 65)]
theorem lw_r4 : ∀ q ∈ lw_privs_4, lw_okq q := List.forall_mem_cons.mpr ⟨lw_p48, List.forall_mem_cons.mpr ⟨lw_p49, List.forall_mem_cons.mpr ⟨lw_p50, List.forall_mem_cons.mpr ⟨lw_p51, List.forall_mem_cons.mpr ⟨lw_p52, List.forall_mem_cons.mpr ⟨lw_p53, List.forall_mem_cons.mpr ⟨lw_p54, List.forall_mem_cons.mpr ⟨lw_p55, List.forall_mem_cons.mpr ⟨lw_p56, List.forall_mem_cons.mpr ⟨lw_p57, List.forall_mem_cons.mpr ⟨lw_p58, List.forall_mem_cons.mpr ⟨lw_p59, List.forall_mem_cons.mpr ⟨lw_p60, List.forall_mem_cons.mpr ⟨lw_p61, List.forall_mem_cons.mpr ⟨lw_p62, List.forall_mem_cons.mpr ⟨lw_p63, fun _ h => absurd h List.not_mem_nil⟩⟩⟩⟩⟩⟩⟩⟩⟩⟩⟩⟩⟩⟩⟩⟩
theorem lw_p64 : lw_okq (⟨"FarKeysModel", "apart", "()I"⟩, 65) := ⟨⟨by decide +kernel, by decide +kernel⟩, List.mem_of_getElem? (i := 1255) (by decide +kernel), List.mem_of_getElem? (i := 1591) (by decide +kernel), List.mem_of_getElem? (i := 1592) (by decide +kernel)⟩
theorem lw_p65 : lw_okq (⟨"FarKeysModel", "sorts", "()V"⟩, 65) := ⟨⟨by decide +kernel, by decide +kernel⟩, List.mem_of_getElem? (i := 1255) (by decide +kernel), List.mem_of_getElem? (i := 1595) (by decide +kernel), List.mem_of_getElem? (i := 1596) (by decide +kernel)⟩
theorem lw_p66 : lw_okq (⟨"FarKeysModel", "nextWay", "()Z"⟩, 65) := ⟨⟨by decide +kernel, by decide +kernel⟩, List.mem_of_getElem? (i := 1255) (by decide +kernel), List.mem_of_getElem? (i := 1599) (by decide +kernel), List.mem_of_getElem? (i := 1600) (by decide +kernel)⟩
theorem lw_p67 : lw_okq (⟨"FarKeysModel", "laysWay", "(I)Z"⟩, 65) := ⟨⟨by decide +kernel, by decide +kernel⟩, List.mem_of_getElem? (i := 1255) (by decide +kernel), List.mem_of_getElem? (i := 1614) (by decide +kernel), List.mem_of_getElem? (i := 1615) (by decide +kernel)⟩
theorem lw_p68 : lw_okq (⟨"FarKeysModel", "talliesOne", "(IZ)V"⟩, 65) := ⟨⟨by decide +kernel, by decide +kernel⟩, List.mem_of_getElem? (i := 1255) (by decide +kernel), List.mem_of_getElem? (i := 1639) (by decide +kernel), List.mem_of_getElem? (i := 1640) (by decide +kernel)⟩
theorem lw_p69 : lw_okq (⟨"FarKeysModel", "firstMost", "()I"⟩, 65) := ⟨⟨by decide +kernel, by decide +kernel⟩, List.mem_of_getElem? (i := 1255) (by decide +kernel), List.mem_of_getElem? (i := 1643) (by decide +kernel), List.mem_of_getElem? (i := 1644) (by decide +kernel)⟩
theorem lw_p70 : lw_okq (⟨"FarKeysModel", "isPair", "(II)Z"⟩, 65) := ⟨⟨by decide +kernel, by decide +kernel⟩, List.mem_of_getElem? (i := 1255) (by decide +kernel), List.mem_of_getElem? (i := 1655) (by decide +kernel), List.mem_of_getElem? (i := 1656) (by decide +kernel)⟩
theorem lw_p71 : lw_okq (⟨"FarKeysModel", "talliesPairs", "(II)V"⟩, 65) := ⟨⟨by decide +kernel, by decide +kernel⟩, List.mem_of_getElem? (i := 1255) (by decide +kernel), List.mem_of_getElem? (i := 1659) (by decide +kernel), List.mem_of_getElem? (i := 1660) (by decide +kernel)⟩
theorem lw_p72 : lw_okq (⟨"FarKeysModel", "firstToTurn", "()I"⟩, 65) := ⟨⟨by decide +kernel, by decide +kernel⟩, List.mem_of_getElem? (i := 1255) (by decide +kernel), List.mem_of_getElem? (i := 1663) (by decide +kernel), List.mem_of_getElem? (i := 1664) (by decide +kernel)⟩
theorem lw_p73 : lw_okq (⟨"FarKeysModel", "isRest", "(II)Z"⟩, 65) := ⟨⟨by decide +kernel, by decide +kernel⟩, List.mem_of_getElem? (i := 1255) (by decide +kernel), List.mem_of_getElem? (i := 1675) (by decide +kernel), List.mem_of_getElem? (i := 1676) (by decide +kernel)⟩
theorem lw_p74 : lw_okq (⟨"FarKeysModel", "misfits", "()I"⟩, 65) := ⟨⟨by decide +kernel, by decide +kernel⟩, List.mem_of_getElem? (i := 1255) (by decide +kernel), List.mem_of_getElem? (i := 1703) (by decide +kernel), List.mem_of_getElem? (i := 1704) (by decide +kernel)⟩
theorem lw_p75 : lw_okq (⟨"FarKeysModel", "setBits", "()I"⟩, 65) := ⟨⟨by decide +kernel, by decide +kernel⟩, List.mem_of_getElem? (i := 1255) (by decide +kernel), List.mem_of_getElem? (i := 1718) (by decide +kernel), List.mem_of_getElem? (i := 1719) (by decide +kernel)⟩
theorem lw_p76 : lw_okq (⟨"FarKeysModel", "opening", "()I"⟩, 65) := ⟨⟨by decide +kernel, by decide +kernel⟩, List.mem_of_getElem? (i := 1255) (by decide +kernel), List.mem_of_getElem? (i := 1726) (by decide +kernel), List.mem_of_getElem? (i := 1727) (by decide +kernel)⟩
theorem lw_p77 : lw_okq (⟨"FarKeysModel", "draw", "(I)I"⟩, 65) := ⟨⟨by decide +kernel, by decide +kernel⟩, List.mem_of_getElem? (i := 1255) (by decide +kernel), List.mem_of_getElem? (i := 1764) (by decide +kernel), List.mem_of_getElem? (i := 1765) (by decide +kernel)⟩
theorem lw_p78 : lw_okq (⟨"FarKeysModel", "isNight", "(I)Z"⟩, 65) := ⟨⟨by decide +kernel, by decide +kernel⟩, List.mem_of_getElem? (i := 1255) (by decide +kernel), List.mem_of_getElem? (i := 1774) (by decide +kernel), List.mem_of_getElem? (i := 1775) (by decide +kernel)⟩
def lw_privs_5 : List (MethodName × Nat) := [(⟨"FarKeysModel", "apart", "()I"⟩, 65), (⟨"FarKeysModel", "sorts", "()V"⟩, 65), (⟨"FarKeysModel", "nextWay", "()Z"⟩, 65), (⟨"FarKeysModel", "laysWay", "(I)Z"⟩, 65), (⟨"FarKeysModel", "talliesOne", "(IZ)V"⟩, 65), (⟨"FarKeysModel", "firstMost", "()I"⟩, 65), (⟨"FarKeysModel", "isPair", "(II)Z"⟩, 65), (⟨"FarKeysModel", "talliesPairs", "(II)V"⟩, 65), (⟨"FarKeysModel", "firstToTurn", "()I"⟩, 65), (⟨"FarKeysModel", "isRest", "(II)Z"⟩, 65), (⟨"FarKeysModel", "misfits", "()I"⟩, 65), (⟨"FarKeysModel", "setBits", "()I"⟩, 65), (⟨"FarKeysModel", "opening", "()I"⟩, 65), (⟨"FarKeysModel", "draw", "(I)I"⟩, 65), (⟨"FarKeysModel", "isNight", "(I)Z"⟩, 65)]
theorem lw_r5 : ∀ q ∈ lw_privs_5, lw_okq q := List.forall_mem_cons.mpr ⟨lw_p64, List.forall_mem_cons.mpr ⟨lw_p65, List.forall_mem_cons.mpr ⟨lw_p66, List.forall_mem_cons.mpr ⟨lw_p67, List.forall_mem_cons.mpr ⟨lw_p68, List.forall_mem_cons.mpr ⟨lw_p69, List.forall_mem_cons.mpr ⟨lw_p70, List.forall_mem_cons.mpr ⟨lw_p71, List.forall_mem_cons.mpr ⟨lw_p72, List.forall_mem_cons.mpr ⟨lw_p73, List.forall_mem_cons.mpr ⟨lw_p74, List.forall_mem_cons.mpr ⟨lw_p75, List.forall_mem_cons.mpr ⟨lw_p76, List.forall_mem_cons.mpr ⟨lw_p77, List.forall_mem_cons.mpr ⟨lw_p78, fun _ h => absurd h List.not_mem_nil⟩⟩⟩⟩⟩⟩⟩⟩⟩⟩⟩⟩⟩⟩⟩
def lw_privs : List (MethodName × Nat) := lw_privs_1 ++ (lw_privs_2 ++ (lw_privs_3 ++ (lw_privs_4 ++ (lw_privs_5))))
def lw_tbl : List Cond := k2_sels lw_privs ++ tables_1
theorem lw_privs_ok : ∀ q ∈ lw_privs, lw_okq q := by
  show ∀ q ∈ lw_privs_1 ++ (lw_privs_2 ++ (lw_privs_3 ++ (lw_privs_4 ++ (lw_privs_5)))), lw_okq q
  exact List.forall_mem_append.mpr ⟨lw_r1, List.forall_mem_append.mpr ⟨lw_r2, List.forall_mem_append.mpr ⟨lw_r3, List.forall_mem_append.mpr ⟨lw_r4, lw_r5⟩⟩⟩⟩
end
section
/-! names of classes, fields; shapes of the cells; headers of methods (printed by wip/whole/emit.py) -/
def RX0 : String := "FarKeys$Book"
def TX0 : u_T := fun k => match k with
  | 0 => ("FarKeys$Book", "planOf", "[I", true)
  | 1 => ("FarKeys$Book", "scratches", "I", false)
  | 2 => ("FarKeys$Book", "scratchGuard", "[I", true)
  | 3 => ("FarKeys$Book", "scratchSign", "[I", true)
  | 4 => ("FarKeys$Book", "scratchPart", "[I", true)
  | 5 => ("FarKeys$Book", "nights", "I", false)
  | 6 => ("FarKeys$Book", "turned", "[I", true)
  | 7 => ("FarKeys$Book", "opened", "[I", true)
  | 8 => ("FarKeys$Book", "drawsAhead", "[J", true)
  | _ => ("FarKeys$Book", "draws", "J", false)
def tyX0 : Nat → FieldType := fun k => match k with
  | 0 => .array .int
  | 1 => .int
  | 2 => .array .int
  | 3 => .array .int
  | 4 => .array .int
  | 5 => .int
  | 6 => .array .int
  | 7 => .array .int
  | 8 => .array .long
  | _ => .long
theorem nmX0 : ∀ a, a < 10 → ∀ b, b < 10 → a ≠ b → (TX0 a).2.1 ≠ (TX0 b).2.1 := by decide +kernel
theorem tyX0_ok : ∀ k, k < 10 → parseFieldDescriptor (TX0 k).2.2.1 = some (tyX0 k) := by decide +kernel
def RX1 : String := "FarKeys$Duel"
def TX1 : u_T := fun k => match k with
  | 0 => ("FarKeys$Duel", "isFresh", "Z", false)
  | 1 => ("FarKeys$Duel", "one", "I", false)
  | 2 => ("FarKeys$Duel", "other", "I", false)
  | 3 => ("FarKeys$Duel", "open", "[I", true)
  | 4 => ("FarKeys$Duel", "oneFirst", "[I", true)
  | 5 => ("FarKeys$Duel", "otherFirst", "[I", true)
  | 6 => ("FarKeys$Duel", "mostOfOne", "[I", true)
  | 7 => ("FarKeys$Duel", "mostOfOther", "[I", true)
  | 8 => ("FarKeys$Duel", "others", "LFarKeys$Row;", true)
  | 9 => ("FarKeys$Duel", "row", "LFarKeys$Row;", true)
  | 10 => ("FarKeys$Duel", "simple", "I", false)
  | 11 => ("FarKeys$Duel", "firstGuard", "I", false)
  | _ => ("FarKeys$Duel", "firstPart", "I", false)
def tyX1 : Nat → FieldType := fun k => match k with
  | 0 => .boolean
  | 1 => .int
  | 2 => .int
  | 3 => .array .int
  | 4 => .array .int
  | 5 => .array .int
  | 6 => .array .int
  | 7 => .array .int
  | 8 => .object "FarKeys$Row"
  | 9 => .object "FarKeys$Row"
  | 10 => .int
  | 11 => .int
  | _ => .int
theorem nmX1 : ∀ a, a < 13 → ∀ b, b < 13 → a ≠ b → (TX1 a).2.1 ≠ (TX1 b).2.1 := by decide +kernel
theorem tyX1_ok : ∀ k, k < 13 → parseFieldDescriptor (TX1 k).2.2.1 = some (tyX1 k) := by decide +kernel
def RX2 : String := "FarKeys$Land"
def TX2 : u_T := fun k => match k with
  | 0 => ("FarKeys$Land", "guards", "I", false)
  | 1 => ("FarKeys$Land", "signs", "I", false)
  | 2 => ("FarKeys$Land", "hearings", "I", false)
  | 3 => ("FarKeys$Land", "treasuries", "I", false)
  | 4 => ("FarKeys$Land", "need", "I", false)
  | 5 => ("FarKeys$Land", "breath", "I", false)
  | 6 => ("FarKeys$Land", "hasTwins", "Z", false)
  | 7 => ("FarKeys$Land", "lost", "I", false)
  | 8 => ("FarKeys$Land", "prize", "[I", true)
  | 9 => ("FarKeys$Land", "trying", "[I", true)
  | 10 => ("FarKeys$Land", "parts", "[I", true)
  | 11 => ("FarKeys$Land", "error", "[I", true)
  | 12 => ("FarKeys$Land", "behind", "[I", true)
  | 13 => ("FarKeys$Land", "sender", "[I", true)
  | _ => ("FarKeys$Land", "delay", "[I", true)
def tyX2 : Nat → FieldType := fun k => match k with
  | 0 => .int
  | 1 => .int
  | 2 => .int
  | 3 => .int
  | 4 => .int
  | 5 => .int
  | 6 => .boolean
  | 7 => .int
  | 8 => .array .int
  | 9 => .array .int
  | 10 => .array .int
  | 11 => .array .int
  | 12 => .array .int
  | 13 => .array .int
  | _ => .array .int
theorem nmX2 : ∀ a, a < 15 → ∀ b, b < 15 → a ≠ b → (TX2 a).2.1 ≠ (TX2 b).2.1 := by decide +kernel
theorem tyX2_ok : ∀ k, k < 15 → parseFieldDescriptor (TX2 k).2.2.1 = some (tyX2 k) := by decide +kernel
def RX3 : String := "FarKeys$LandReader"
def TX3 : u_T := fun k => match k with
  | 0 => ("FarKeys$LandReader", "tape", "LFarKeys$Tape;", true)
  | 1 => ("FarKeys$LandReader", "draft", "LFarKeys$Land;", true)
  | _ => ("FarKeys$LandReader", "value", "[I", true)
def tyX3 : Nat → FieldType := fun k => match k with
  | 0 => .object "FarKeys$Tape"
  | 1 => .object "FarKeys$Land"
  | _ => .array .int
theorem nmX3 : ∀ a, a < 3 → ∀ b, b < 3 → a ≠ b → (TX3 a).2.1 ≠ (TX3 b).2.1 := by decide +kernel
theorem tyX3_ok : ∀ k, k < 3 → parseFieldDescriptor (TX3 k).2.2.1 = some (tyX3 k) := by decide +kernel
def RX4 : String := "FarKeys$PlanReader"
def TX4 : u_T := fun k => match k with
  | 0 => ("FarKeys$PlanReader", "tape", "LFarKeys$Tape;", true)
  | 1 => ("FarKeys$PlanReader", "code", "[I", true)
  | 2 => ("FarKeys$PlanReader", "size", "I", false)
  | 3 => ("FarKeys$PlanReader", "letters", "I", false)
  | 4 => ("FarKeys$PlanReader", "inner", "I", false)
  | _ => ("FarKeys$PlanReader", "wantsUnit", "Z", false)
def tyX4 : Nat → FieldType := fun k => match k with
  | 0 => .object "FarKeys$Tape"
  | 1 => .array .int
  | 2 => .int
  | 3 => .int
  | 4 => .int
  | _ => .boolean
theorem nmX4 : ∀ a, a < 6 → ∀ b, b < 6 → a ≠ b → (TX4 a).2.1 ≠ (TX4 b).2.1 := by decide +kernel
theorem tyX4_ok : ∀ k, k < 6 → parseFieldDescriptor (TX4 k).2.2.1 = some (tyX4 k) := by decide +kernel
def RX5 : String := "FarKeys$Plans"
def TX5 : u_T := fun k => match k with
  | 0 => ("FarKeys$Plans", "code", "[I", true)
  | 1 => ("FarKeys$Plans", "size", "[I", true)
  | 2 => ("FarKeys$Plans", "letters", "[I", true)
  | 3 => ("FarKeys$Plans", "count", "I", false)
  | 4 => ("FarKeys$Plans", "earliest", "[I", true)
  | _ => ("FarKeys$Plans", "latest", "[I", true)
def tyX5 : Nat → FieldType := fun k => match k with
  | 0 => .array .int
  | 1 => .array .int
  | 2 => .array .int
  | 3 => .int
  | 4 => .array .int
  | _ => .array .int
theorem nmX5 : ∀ a, a < 6 → ∀ b, b < 6 → a ≠ b → (TX5 a).2.1 ≠ (TX5 b).2.1 := by decide +kernel
theorem tyX5_ok : ∀ k, k < 6 → parseFieldDescriptor (TX5 k).2.2.1 = some (tyX5 k) := by decide +kernel
def RX6 : String := "FarKeys$Row"
def TX6 : u_T := fun k => match k with
  | 0 => ("FarKeys$Row", "time", "[I", true)
  | 1 => ("FarKeys$Row", "size", "I", false)
  | 2 => ("FarKeys$Row", "from", "[I", true)
  | 3 => ("FarKeys$Row", "to", "[I", true)
  | _ => ("FarKeys$Row", "spans", "I", false)
def tyX6 : Nat → FieldType := fun k => match k with
  | 0 => .array .int
  | 1 => .int
  | 2 => .array .int
  | 3 => .array .int
  | _ => .int
theorem nmX6 : ∀ a, a < 5 → ∀ b, b < 5 → a ≠ b → (TX6 a).2.1 ≠ (TX6 b).2.1 := by decide +kernel
theorem tyX6_ok : ∀ k, k < 5 → parseFieldDescriptor (TX6 k).2.2.1 = some (tyX6 k) := by decide +kernel
def RX7 : String := "FarKeys$Solo"
def TX7 : u_T := fun k => match k with
  | 0 => ("FarKeys$Solo", "open", "[I", true)
  | _ => ("FarKeys$Solo", "others", "LFarKeys$Row;", true)
def tyX7 : Nat → FieldType := fun k => match k with
  | 0 => .array .int
  | _ => .object "FarKeys$Row"
theorem nmX7 : ∀ a, a < 2 → ∀ b, b < 2 → a ≠ b → (TX7 a).2.1 ≠ (TX7 b).2.1 := by decide +kernel
theorem tyX7_ok : ∀ k, k < 2 → parseFieldDescriptor (TX7 k).2.2.1 = some (tyX7 k) := by decide +kernel
def RX8 : String := "FarKeys$Survey"
def TX8 : u_T := fun k => match k with
  | 0 => ("FarKeys$Survey", "isFresh", "Z", false)
  | 1 => ("FarKeys$Survey", "hasSets", "Z", false)
  | 2 => ("FarKeys$Survey", "ways", "I", false)
  | 3 => ("FarKeys$Survey", "earliest", "[I", true)
  | 4 => ("FarKeys$Survey", "latest", "[I", true)
  | 5 => ("FarKeys$Survey", "never", "[I", true)
  | 6 => ("FarKeys$Survey", "first", "[I", true)
  | 7 => ("FarKeys$Survey", "leastSpread", "I", false)
  | 8 => ("FarKeys$Survey", "mostSpread", "I", false)
  | 9 => ("FarKeys$Survey", "someTooFew", "Z", false)
  | 10 => ("FarKeys$Survey", "earliestMoment", "I", false)
  | 11 => ("FarKeys$Survey", "latestMoment", "I", false)
  | 12 => ("FarKeys$Survey", "momentSum", "I", false)
  | _ => ("FarKeys$Survey", "sets", "I", false)
def tyX8 : Nat → FieldType := fun k => match k with
  | 0 => .boolean
  | 1 => .boolean
  | 2 => .int
  | 3 => .array .int
  | 4 => .array .int
  | 5 => .array .int
  | 6 => .array .int
  | 7 => .int
  | 8 => .int
  | 9 => .boolean
  | 10 => .int
  | 11 => .int
  | 12 => .int
  | _ => .int
theorem nmX8 : ∀ a, a < 14 → ∀ b, b < 14 → a ≠ b → (TX8 a).2.1 ≠ (TX8 b).2.1 := by decide +kernel
theorem tyX8_ok : ∀ k, k < 14 → parseFieldDescriptor (TX8 k).2.2.1 = some (tyX8 k) := by decide +kernel
def RX9 : String := "FarKeys$Tape"
def TX9 : u_T := fun k => match k with
  | 0 => ("FarKeys$Tape", "bytes", "[I", true)
  | 1 => ("FarKeys$Tape", "length", "I", false)
  | 2 => ("FarKeys$Tape", "at", "I", false)
  | _ => ("FarKeys$Tape", "wrong", "I", false)
def tyX9 : Nat → FieldType := fun k => match k with
  | 0 => .array .int
  | 1 => .int
  | 2 => .int
  | _ => .int
theorem nmX9 : ∀ a, a < 4 → ∀ b, b < 4 → a ≠ b → (TX9 a).2.1 ≠ (TX9 b).2.1 := by decide +kernel
theorem tyX9_ok : ∀ k, k < 4 → parseFieldDescriptor (TX9 k).2.2.1 = some (tyX9 k) := by decide +kernel
def RX10 : String := "FarKeys$Walk"
def TX10 : u_T := fun k => match k with
  | 0 => ("FarKeys$Walk", "plans", "LFarKeys$Plans;", true)
  | 1 => ("FarKeys$Walk", "land", "LFarKeys$Land;", false)
  | 2 => ("FarKeys$Walk", "weight", "I", false)
  | 3 => ("FarKeys$Walk", "planOf", "[I", true)
  | 4 => ("FarKeys$Walk", "uses", "[I", true)
  | 5 => ("FarKeys$Walk", "reach", "[I", true)
  | 6 => ("FarKeys$Walk", "off", "[I", true)
  | 7 => ("FarKeys$Walk", "at", "[I", true)
  | 8 => ("FarKeys$Walk", "turn", "[I", true)
  | _ => ("FarKeys$Walk", "row", "LFarKeys$Row;", true)
def tyX10 : Nat → FieldType := fun k => match k with
  | 0 => .object "FarKeys$Plans"
  | 1 => .object "FarKeys$Land"
  | 2 => .int
  | 3 => .array .int
  | 4 => .array .int
  | 5 => .array .int
  | 6 => .array .int
  | 7 => .array .int
  | 8 => .array .int
  | _ => .object "FarKeys$Row"
theorem nmX10 : ∀ a, a < 10 → ∀ b, b < 10 → a ≠ b → (TX10 a).2.1 ≠ (TX10 b).2.1 := by decide +kernel
theorem tyX10_ok : ∀ k, k < 10 → parseFieldDescriptor (TX10 k).2.2.1 = some (tyX10 k) := by decide +kernel
def RX11 : String := "FarKeys"
def TX11 : u_T := fun k => match k with
  | 0 => ("FarKeys", "tape", "LFarKeys$Tape;", true)
  | 1 => ("FarKeys", "landReader", "LFarKeys$LandReader;", true)
  | 2 => ("FarKeys", "planReader", "LFarKeys$PlanReader;", true)
  | 3 => ("FarKeys", "plans", "LFarKeys$Plans;", true)
  | 4 => ("FarKeys", "land", "LFarKeys$Land;", true)
  | 5 => ("FarKeys", "other", "LFarKeys$Land;", true)
  | 6 => ("FarKeys", "otherPlans", "[I", true)
  | 7 => ("FarKeys", "offs", "[I", true)
  | 8 => ("FarKeys", "book", "LFarKeys$Book;", true)
  | 9 => ("FarKeys", "kept", "LFarKeys$Book;", true)
  | 10 => ("FarKeys", "hasImage", "Z", false)
  | 11 => ("FarKeys", "walk", "LFarKeys$Walk;", true)
  | 12 => ("FarKeys", "survey", "LFarKeys$Survey;", true)
  | 13 => ("FarKeys", "solo", "LFarKeys$Solo;", true)
  | _ => ("FarKeys", "duel", "LFarKeys$Duel;", true)
def tyX11 : Nat → FieldType := fun k => match k with
  | 0 => .object "FarKeys$Tape"
  | 1 => .object "FarKeys$LandReader"
  | 2 => .object "FarKeys$PlanReader"
  | 3 => .object "FarKeys$Plans"
  | 4 => .object "FarKeys$Land"
  | 5 => .object "FarKeys$Land"
  | 6 => .array .int
  | 7 => .array .int
  | 8 => .object "FarKeys$Book"
  | 9 => .object "FarKeys$Book"
  | 10 => .boolean
  | 11 => .object "FarKeys$Walk"
  | 12 => .object "FarKeys$Survey"
  | 13 => .object "FarKeys$Solo"
  | _ => .object "FarKeys$Duel"
theorem nmX11 : ∀ a, a < 15 → ∀ b, b < 15 → a ≠ b → (TX11 a).2.1 ≠ (TX11 b).2.1 := by decide +kernel
theorem tyX11_ok : ∀ k, k < 15 → parseFieldDescriptor (TX11 k).2.2.1 = some (tyX11 k) := by decide +kernel
def RX12 : String := "FarKeysModel"
def TX12 : u_T := fun k => match k with
  | 0 => ("FarKeysModel", "thrown", "I", false)
  | 1 => ("FarKeysModel", "tape", "[I", true)
  | 2 => ("FarKeysModel", "taped", "I", false)
  | 3 => ("FarKeysModel", "at", "I", false)
  | 4 => ("FarKeysModel", "wrong", "I", false)
  | 5 => ("FarKeysModel", "newGuards", "I", false)
  | 6 => ("FarKeysModel", "newSigns", "I", false)
  | 7 => ("FarKeysModel", "newEars", "I", false)
  | 8 => ("FarKeysModel", "newBreaths", "I", false)
  | 9 => ("FarKeysModel", "newGuard", "[I", true)
  | 10 => ("FarKeysModel", "newSign", "[I", true)
  | 11 => ("FarKeysModel", "newEar", "[I", true)
  | 12 => ("FarKeysModel", "newNeed", "I", false)
  | 13 => ("FarKeysModel", "newBreath", "I", false)
  | 14 => ("FarKeysModel", "newCode", "[I", true)
  | 15 => ("FarKeysModel", "newCodes", "I", false)
  | 16 => ("FarKeysModel", "waiting", "[I", true)
  | 17 => ("FarKeysModel", "waitings", "I", false)
  | 18 => ("FarKeysModel", "isLand", "Z", false)
  | 19 => ("FarKeysModel", "guards", "I", false)
  | 20 => ("FarKeysModel", "signs", "I", false)
  | 21 => ("FarKeysModel", "need", "I", false)
  | 22 => ("FarKeysModel", "breath", "I", false)
  | 23 => ("FarKeysModel", "prize", "[I", true)
  | 24 => ("FarKeysModel", "trying", "[I", true)
  | 25 => ("FarKeysModel", "planOf", "[I", true)
  | 26 => ("FarKeysModel", "parts", "[I", true)
  | 27 => ("FarKeysModel", "error", "[I", true)
  | 28 => ("FarKeysModel", "behind", "[I", true)
  | 29 => ("FarKeysModel", "sender", "[I", true)
  | 30 => ("FarKeysModel", "later", "[I", true)
  | 31 => ("FarKeysModel", "plans", "I", false)
  | 32 => ("FarKeysModel", "codeOf", "[I", true)
  | 33 => ("FarKeysModel", "codesOf", "[I", true)
  | 34 => ("FarKeysModel", "asParts", "[I", true)
  | 35 => ("FarKeysModel", "asError", "[I", true)
  | 36 => ("FarKeysModel", "asLater", "[I", true)
  | 37 => ("FarKeysModel", "asPlan", "[I", true)
  | 38 => ("FarKeysModel", "gone", "I", false)
  | 39 => ("FarKeysModel", "off", "[I", true)
  | 40 => ("FarKeysModel", "seen", "[I", true)
  | 41 => ("FarKeysModel", "turn", "[I", true)
  | 42 => ("FarKeysModel", "pile", "[I", true)
  | 43 => ("FarKeysModel", "rising", "[I", true)
  | 44 => ("FarKeysModel", "tally", "[I", true)
  | 45 => ("FarKeysModel", "pairTally", "[I", true)
  | 46 => ("FarKeysModel", "oneGain", "[I", true)
  | 47 => ("FarKeysModel", "otherGain", "[I", true)
  | 48 => ("FarKeysModel", "scratchRow", "[I", true)
  | 49 => ("FarKeysModel", "scratches", "I", false)
  | 50 => ("FarKeysModel", "asideTurn", "[I", true)
  | 51 => ("FarKeysModel", "draws", "J", false)
  | 52 => ("FarKeysModel", "nights", "I", false)
  | 53 => ("FarKeysModel", "nightTurn", "[I", true)
  | 54 => ("FarKeysModel", "nightOpened", "[Z", true)
  | 55 => ("FarKeysModel", "nightDraws", "[J", true)
  | 56 => ("FarKeysModel", "isImage", "Z", false)
  | 57 => ("FarKeysModel", "imageNights", "I", false)
  | 58 => ("FarKeysModel", "imageScratches", "I", false)
  | 59 => ("FarKeysModel", "imageDraws", "J", false)
  | 60 => ("FarKeysModel", "imagePlan", "[I", true)
  | 61 => ("FarKeysModel", "imageScratch", "[I", true)
  | 62 => ("FarKeysModel", "imageTurn", "[I", true)
  | 63 => ("FarKeysModel", "imageOpened", "[Z", true)
  | _ => ("FarKeysModel", "imageBefore", "[J", true)
def tyX12 : Nat → FieldType := fun k => match k with
  | 0 => .int
  | 1 => .array .int
  | 2 => .int
  | 3 => .int
  | 4 => .int
  | 5 => .int
  | 6 => .int
  | 7 => .int
  | 8 => .int
  | 9 => .array .int
  | 10 => .array .int
  | 11 => .array .int
  | 12 => .int
  | 13 => .int
  | 14 => .array .int
  | 15 => .int
  | 16 => .array .int
  | 17 => .int
  | 18 => .boolean
  | 19 => .int
  | 20 => .int
  | 21 => .int
  | 22 => .int
  | 23 => .array .int
  | 24 => .array .int
  | 25 => .array .int
  | 26 => .array .int
  | 27 => .array .int
  | 28 => .array .int
  | 29 => .array .int
  | 30 => .array .int
  | 31 => .int
  | 32 => .array .int
  | 33 => .array .int
  | 34 => .array .int
  | 35 => .array .int
  | 36 => .array .int
  | 37 => .array .int
  | 38 => .int
  | 39 => .array .int
  | 40 => .array .int
  | 41 => .array .int
  | 42 => .array .int
  | 43 => .array .int
  | 44 => .array .int
  | 45 => .array .int
  | 46 => .array .int
  | 47 => .array .int
  | 48 => .array .int
  | 49 => .int
  | 50 => .array .int
  | 51 => .long
  | 52 => .int
  | 53 => .array .int
  | 54 => .array .boolean
  | 55 => .array .long
  | 56 => .boolean
  | 57 => .int
  | 58 => .int
  | 59 => .long
  | 60 => .array .int
  | 61 => .array .int
  | 62 => .array .int
  | 63 => .array .boolean
  | _ => .array .long
theorem nmX12 : ∀ a, a < 65 → ∀ b, b < 65 → a ≠ b → (TX12 a).2.1 ≠ (TX12 b).2.1 := by decide +kernel
theorem tyX12_ok : ∀ k, k < 65 → parseFieldDescriptor (TX12 k).2.2.1 = some (tyX12 k) := by decide +kernel
abbrev vwCl : List vw_C := [(RX0, TX0, 10), (RX1, TX1, 13), (RX2, TX2, 15), (RX3, TX3, 3), (RX4, TX4, 6), (RX5, TX5, 6), (RX6, TX6, 5), (RX7, TX7, 2), (RX8, TX8, 14), (RX9, TX9, 4), (RX10, TX10, 10), (RX11, TX11, 15), (RX12, TX12, 65)]
def tyCl : List (Nat → FieldType) := [tyX0, tyX1, tyX2, tyX3, tyX4, tyX5, tyX6, tyX7, tyX8, tyX9, tyX10, tyX11, tyX12]
def clNm : List String := ["FarKeys$Book", "FarKeys$Duel", "FarKeys$Land", "FarKeys$LandReader", "FarKeys$PlanReader", "FarKeys$Plans", "FarKeys$Row", "FarKeys$Solo", "FarKeys$Survey", "FarKeys$Tape", "FarKeys$Walk", "FarKeys", "FarKeysModel", "java/lang/Math", "java/lang/Integer"]
def clN (n : Nat) : String := clNm.getD n ""
def G : List Cond := lw_tbl.filter goodWord
theorem mG {w : Cond} (i : Nat) (h : lw_tbl[i]? = some w) (hg : goodWord w = true) : w ∈ G := List.mem_filter.mpr ⟨List.mem_of_getElem? h, hg⟩
theorem mGl {ws : List Cond} (ps : List Nat) (h : ws = ps.filterMap (fun i => lw_tbl[i]?)) (hg : ws.all goodWord = true) : ∀ w ∈ ws, w ∈ G := by
  intro w hw
  have h1 := List.all_eq_true.mp hg w hw
  rw [h] at hw
  obtain ⟨i, -, hi⟩ := List.mem_filterMap.mp hw
  exact mG i hi h1
theorem G_good : ∀ w ∈ G, goodWord w = true := fun w h => (List.mem_filter.mp h).2
theorem uX0 : ∀ w ∈ u_ws RX0 TX0 10, w ∈ G := mGl [313, 315, 317, 319, 321, 323, 325, 327, 329, 331] (by decide +kernel) (by decide +kernel)
theorem uX1 : ∀ w ∈ u_ws RX1 TX1 13, w ∈ G := mGl [518, 520, 522, 524, 526, 528, 530, 532, 534, 536, 538, 540, 542] (by decide +kernel) (by decide +kernel)
theorem uX2 : ∀ w ∈ u_ws RX2 TX2 15, w ∈ G := mGl [193, 195, 197, 199, 201, 203, 205, 207, 209, 211, 213, 215, 217, 219, 221] (by decide +kernel) (by decide +kernel)
theorem uX3 : ∀ w ∈ u_ws RX3 TX3 3, w ∈ G := mGl [228, 230, 232] (by decide +kernel) (by decide +kernel)
theorem uX4 : ∀ w ∈ u_ws RX4 TX4 6, w ∈ G := mGl [250, 252, 254, 256, 258, 260] (by decide +kernel) (by decide +kernel)
theorem uX5 : ∀ w ∈ u_ws RX5 TX5 6, w ∈ G := mGl [276, 278, 280, 282, 284, 286] (by decide +kernel) (by decide +kernel)
theorem uX6 : ∀ w ∈ u_ws RX6 TX6 5, w ∈ G := mGl [359, 361, 363, 365, 367] (by decide +kernel) (by decide +kernel)
theorem uX7 : ∀ w ∈ u_ws RX7 TX7 2, w ∈ G := mGl [488, 490] (by decide +kernel) (by decide +kernel)
theorem uX8 : ∀ w ∈ u_ws RX8 TX8 14, w ∈ G := mGl [449, 451, 453, 455, 457, 459, 461, 463, 465, 467, 469, 471, 473, 475] (by decide +kernel) (by decide +kernel)
theorem uX9 : ∀ w ∈ u_ws RX9 TX9 4, w ∈ G := mGl [125, 127, 129, 131] (by decide +kernel) (by decide +kernel)
theorem uX10 : ∀ w ∈ u_ws RX10 TX10 10, w ∈ G := mGl [395, 397, 399, 401, 403, 405, 407, 409, 411, 413] (by decide +kernel) (by decide +kernel)
theorem uX11 : ∀ w ∈ u_ws RX11 TX11 15, w ∈ G := mGl [560, 562, 564, 566, 568, 570, 572, 574, 576, 578, 580, 582, 584, 586, 588] (by decide +kernel) (by decide +kernel)
theorem uX12 : ∀ w ∈ u_ws RX12 TX12 65, w ∈ G := mGl [1408, 1410, 1412, 1414, 1416, 1418, 1420, 1422, 1424, 1426, 1428, 1430, 1432, 1434, 1436, 1438, 1440, 1442, 1444, 1446, 1448, 1450, 1452, 1454, 1456, 1458, 1460, 1462, 1464, 1466, 1468, 1470, 1472, 1474, 1476, 1478, 1480, 1482, 1484, 1486, 1488, 1490, 1492, 1494, 1496, 1498, 1500, 1502, 1504, 1506, 1508, 1510, 1512, 1514, 1516, 1518, 1520, 1522, 1524, 1526, 1528, 1530, 1532, 1534, 1536] (by decide +kernel) (by decide +kernel)
abbrev Shp : Type := (Nat × List (Nat × Nat × Nat × Int)) ⊕ (Nat × Nat × Int)
def shp0 : List Shp := [.inl (12, [(0, 0, 0, 0), (2, 1, 0, 1), (0, 0, 0, 2), (0, 0, 0, 3), (0, 0, 0, 4), (0, 0, 0, 5), (0, 0, 0, 6), (0, 0, 0, 7), (0, 0, 0, 8), (2, 2, 0, 9), (2, 3, 0, 10), (2, 4, 0, 11), (0, 0, 0, 12), (0, 0, 0, 13), (2, 5, 0, 14), (0, 0, 0, 15), (2, 6, 0, 16), (0, 0, 0, 17), (3, 0, 0, 18), (0, 0, 0, 19), (0, 0, 0, 20), (0, 0, 0, 21), (0, 0, 0, 22), (2, 7, 0, 23), (2, 8, 0, 24), (2, 9, 0, 25), (2, 10, 0, 26), (2, 11, 0, 27), (2, 12, 0, 28), (2, 13, 0, 29), (2, 14, 0, 30), (0, 0, 0, 31), (2, 15, 0, 32), (2, 16, 0, 33), (2, 17, 0, 34), (2, 18, 0, 35), (2, 19, 0, 36), (2, 20, 0, 37), (0, 0, 0, 38), (2, 21, 0, 39), (2, 22, 0, 40), (2, 23, 0, 41), (2, 24, 0, 42), (2, 25, 0, 43), (2, 26, 0, 44), (2, 27, 0, 45), (2, 28, 0, 46), (2, 29, 0, 47), (2, 30, 0, 48), (0, 0, 0, 49), (2, 31, 0, 50), (1, 0, 0, 51), (0, 0, 0, 52), (2, 32, 0, 53), (2, 33, 0, 54), (2, 34, 0, 55), (3, 0, 0, 56), (0, 0, 0, 57), (0, 0, 0, 58), (1, 0, 0, 59), (2, 35, 0, 60), (2, 36, 0, 61), (2, 37, 0, 62), (2, 38, 0, 63), (2, 39, 0, 64)]), .inr (0, 160, 160), .inr (0, 8, 8), .inr (0, 20, 20), .inr (0, 36, 36), .inr (0, 160, 160), .inr (0, 160, 160), .inr (0, 4, 4), .inr (0, 4, 4), .inr (0, 4, 4), .inr (0, 5, 5), .inr (0, 5, 5), .inr (0, 5, 5), .inr (0, 5, 5), .inr (0, 20, 20), .inr (0, 1280, 1280)]
def shp1 : List Shp := [.inr (0, 8, 8), .inr (0, 5, 5), .inr (0, 5, 5), .inr (0, 20, 20), .inr (0, 4, 4), .inr (0, 5, 5), .inr (0, 5, 5), .inr (0, 4, 4), .inr (0, 160, 160), .inr (0, 4, 4), .inr (0, 50, 50), .inr (0, 2500, 2500), .inr (0, 2500, 2500), .inr (0, 2500, 2500), .inr (0, 30, 30), .inr (0, 4, 4)]
def shp2 : List Shp := [.inr (0, 160, 160), .inr (2, 40, 40), .inr (1, 40, 40), .inr (0, 4, 4), .inr (0, 30, 30), .inr (0, 160, 160), .inr (2, 40, 40), .inr (1, 40, 40), .inl (11, [(2, 43, 0, 0), (2, 45, 0, 1), (2, 55, 0, 2), (2, 57, 0, 3), (2, 63, 0, 4), (2, 71, 0, 5), (2, 41, 0, 6), (2, 42, 0, 7), (2, 79, 0, 8), (2, 87, 0, 9), (3, 0, 0, 10), (2, 95, 0, 11), (2, 106, 0, 12), (2, 111, 0, 13), (2, 117, 0, 14)]), .inr (0, 4, 4), .inr (0, 5, 5), .inl (9, [(2, 44, 0, 0), (0, 0, 0, 1), (0, 0, 0, 2), (0, 0, 0, 3)]), .inr (0, 160, 160), .inl (3, [(2, 43, 0, 0), (2, 47, 0, 1), (2, 46, 0, 2)]), .inr (0, 4, 4), .inl (2, [(0, 0, 0, 0), (0, 0, 0, 1), (0, 0, 0, 2), (0, 0, 0, 3), (0, 0, 0, 4), (0, 0, 0, 5), (3, 0, 0, 6), (0, 0, 0, 7), (2, 48, 0, 8), (2, 49, 0, 9), (2, 50, 0, 10), (2, 51, 0, 11), (2, 52, 0, 12), (2, 53, 0, 13), (2, 54, 0, 14)])]
def shp3 : List Shp := [.inr (0, 4, 4), .inr (0, 4, 4), .inr (0, 5, 5), .inr (0, 5, 5), .inr (0, 5, 5), .inr (0, 5, 5), .inr (0, 20, 20), .inl (4, [(2, 43, 0, 0), (2, 56, 0, 1), (0, 0, 0, 2), (0, 0, 0, 3), (0, 0, 0, 4), (3, 0, 0, 5)]), .inr (0, 160, 160), .inl (5, [(2, 58, 0, 0), (2, 59, 0, 1), (2, 60, 0, 2), (0, 0, 0, 3), (2, 61, 0, 4), (2, 62, 0, 5)]), .inr (0, 1280, 1280), .inr (0, 8, 8), .inr (0, 8, 8), .inr (0, 7, 7), .inr (0, 7, 7), .inl (2, [(0, 0, 0, 0), (0, 0, 0, 1), (0, 0, 0, 2), (0, 0, 0, 3), (0, 0, 0, 4), (0, 0, 0, 5), (3, 0, 0, 6), (0, 0, 0, 7), (2, 64, 0, 8), (2, 65, 0, 9), (2, 66, 0, 10), (2, 67, 0, 11), (2, 68, 0, 12), (2, 69, 0, 13), (2, 70, 0, 14)])]
def shp4 : List Shp := [.inr (0, 4, 4), .inr (0, 4, 4), .inr (0, 5, 5), .inr (0, 5, 5), .inr (0, 5, 5), .inr (0, 5, 5), .inr (0, 20, 20), .inl (2, [(0, 0, 0, 0), (0, 0, 0, 1), (0, 0, 0, 2), (0, 0, 0, 3), (0, 0, 0, 4), (0, 0, 0, 5), (3, 0, 0, 6), (0, 0, 0, 7), (2, 72, 0, 8), (2, 73, 0, 9), (2, 74, 0, 10), (2, 75, 0, 11), (2, 76, 0, 12), (2, 77, 0, 13), (2, 78, 0, 14)]), .inr (0, 4, 4), .inr (0, 4, 4), .inr (0, 5, 5), .inr (0, 5, 5), .inr (0, 5, 5), .inr (0, 5, 5), .inr (0, 20, 20), .inl (0, [(2, 80, 0, 0), (0, 0, 0, 1), (2, 81, 0, 2), (2, 82, 0, 3), (2, 83, 0, 4), (0, 0, 0, 5), (2, 84, 0, 6), (2, 85, 0, 7), (2, 86, 0, 8), (1, 0, 0, 9)])]
def shp5 : List Shp := [.inr (0, 4, 4), .inr (0, 10, 10), .inr (0, 10, 10), .inr (0, 10, 10), .inr (0, 160, 160), .inr (0, 40, 40), .inr (1, 40, 40), .inl (0, [(2, 88, 0, 0), (0, 0, 0, 1), (2, 89, 0, 2), (2, 90, 0, 3), (2, 91, 0, 4), (0, 0, 0, 5), (2, 92, 0, 6), (2, 93, 0, 7), (2, 94, 0, 8), (1, 0, 0, 9)]), .inr (0, 4, 4), .inr (0, 10, 10), .inr (0, 10, 10), .inr (0, 10, 10), .inr (0, 160, 160), .inr (0, 40, 40), .inr (1, 40, 40), .inl (10, [(2, 57, 0, 0), (4, 63, 71, 1), (0, 0, 0, 2), (2, 96, 0, 3), (2, 97, 0, 4), (2, 98, 0, 5), (2, 99, 0, 6), (2, 100, 0, 7), (2, 101, 0, 8), (2, 102, 0, 9)])]
def shp6 : List Shp := [.inr (0, 4, 4), .inr (0, 4, 4), .inr (0, 5, 5), .inr (0, 5, 5), .inr (0, 5, 5), .inr (0, 4, 4), .inl (6, [(2, 103, 0, 0), (0, 0, 0, 1), (2, 104, 0, 2), (2, 105, 0, 3), (0, 0, 0, 4)]), .inr (0, 4, 4), .inr (0, 4, 4), .inr (0, 4, 4), .inl (8, [(3, 0, 0, 0), (3, 0, 0, 1), (0, 0, 0, 2), (2, 107, 0, 3), (2, 108, 0, 4), (2, 109, 0, 5), (2, 110, 0, 6), (0, 0, 0, 7), (0, 0, 0, 8), (3, 0, 0, 9), (0, 0, 0, 10), (0, 0, 0, 11), (0, 0, 0, 12), (0, 0, 0, 13)]), .inr (0, 4, 4), .inr (0, 4, 4), .inr (0, 4, 4), .inr (0, 4, 4), .inl (7, [(2, 112, 0, 0), (2, 113, 0, 1)])]
def shp7 : List Shp := [.inr (0, 50, 50), .inl (6, [(2, 114, 0, 0), (0, 0, 0, 1), (2, 115, 0, 2), (2, 116, 0, 3), (0, 0, 0, 4)]), .inr (0, 4, 4), .inr (0, 4, 4), .inr (0, 4, 4), .inl (1, [(3, 0, 0, 0), (0, 0, 0, 1), (0, 0, 0, 2), (2, 118, 0, 3), (2, 119, 0, 4), (2, 120, 0, 5), (2, 121, 0, 6), (2, 122, 0, 7), (2, 123, 0, 8), (2, 127, 0, 9), (0, 0, 0, 10), (0, 0, 0, 11), (0, 0, 0, 12)]), .inr (0, 2500, 2500), .inr (0, 2500, 2500), .inr (0, 2500, 2500), .inr (0, 50, 50), .inr (0, 50, 50), .inl (6, [(2, 124, 0, 0), (0, 0, 0, 1), (2, 125, 0, 2), (2, 126, 0, 3), (0, 0, 0, 4)]), .inr (0, 4, 4), .inr (0, 4, 4), .inr (0, 4, 4), .inl (6, [(2, 128, 0, 0), (0, 0, 0, 1), (2, 129, 0, 2), (2, 130, 0, 3), (0, 0, 0, 4)])]
def shp8 : List Shp := [.inr (0, 4, 4), .inr (0, 4, 4), .inr (0, 4, 4), .inr (1, 1, 1), .inr (9, 0, 0), .inr (9, 0, 0), .inr (9, 0, 0), .inr (9, 0, 0), .inr (9, 0, 0), .inr (9, 0, 0), .inr (9, 0, 0), .inr (9, 0, 0), .inr (9, 0, 0), .inr (9, 0, 0), .inr (9, 0, 0), .inr (9, 0, 0)]
def shp9 : List Shp := [.inr (5, 0, 16), .inr (6, 1, 16), .inr (5, 2, 16), .inr (5, 3, 16), .inr (9, 0, 0), .inr (9, 0, 0), .inr (9, 0, 0), .inr (9, 0, 0), .inr (9, 0, 0), .inr (9, 0, 0), .inr (9, 0, 0), .inr (9, 0, 0), .inr (9, 0, 0), .inr (9, 0, 0), .inr (9, 0, 0), .inr (9, 0, 0)]
def shpT : List (List Shp) := [shp0, shp1, shp2, shp3, shp4, shp5, shp6, shp7, shp8, shp9]
def shp (c : Nat) : Shp := (shpT.getD (c / 16) []).getD (c % 16) (.inr (9, 0, 0))
def nC : Nat := 132
def cstT : List (List Int) := [[10, 0, 0, 0, 0, 0, -1, 0, 0, 0, 0, 0, 2, 1, 0, 0], [112, 116, 0, 0, 116, 101, 111, 118, 115, 103, 100, 0, 110, 119, 0, 0], [0, 0, 0, 0, 0, 0, 0, 0, 0, 0, 0, 0, 2, 0, 0, 0], [99, 99, 0, 0, 59, 3, 0, 3, 4, 3, 9, 0, 4, 9, 0, 0]]
def cst (n : Nat) (i : Int) : Int := (cstT.getD n []).getD i.toNat 0
/-- a method: class number, name, code, locals, answer, frames and words below it, receiver (1) or none, arguments -/
abbrev Hd : Type := Nat × MethodName × ByteArray × Nat × Option FieldType × Nat × Nat × Nat × Nat
def H_Book_copy : Hd := (0, ⟨"FarKeys$Book", "copy", "(LFarKeys$Book;)V"⟩, prog_2_method_2_code, 2, none, 1, 26, 1, 1)
def H_Book_leaveLand : Hd := (0, ⟨"FarKeys$Book", "leaveLand", "()V"⟩, prog_2_method_3_code, 2, none, 0, 0, 1, 0)
def H_Book_addScratch : Hd := (0, ⟨"FarKeys$Book", "addScratch", "(III)V"⟩, prog_2_method_4_code, 4, none, 0, 0, 1, 3)
def H_Book_scratchedSigns : Hd := (0, ⟨"FarKeys$Book", "scratchedSigns", "()I"⟩, prog_2_method_5_code, 3, some (.int), 0, 0, 1, 0)
def H_Book_unlike : Hd := (0, ⟨"FarKeys$Book", "unlike", "(LFarKeys$Walk;)I"⟩, prog_2_method_6_code, 6, some (.int), 1, 22, 1, 1)
def H_Book_draw : Hd := (0, ⟨"FarKeys$Book", "draw", "(I)I"⟩, prog_2_method_7_code, 2, some (.int), 0, 0, 1, 1)
def H_Book_addNight : Hd := (0, ⟨"FarKeys$Book", "addNight", "(J[II)I"⟩, prog_2_method_8_code, 5, some (.int), 1, 26, 1, 3)
def H_Book_dropNight : Hd := (0, ⟨"FarKeys$Book", "dropNight", "()I"⟩, prog_2_method_9_code, 1, some (.int), 0, 0, 1, 0)
def H_Book_countOpened : Hd := (0, ⟨"FarKeys$Book", "countOpened", "()I"⟩, prog_2_method_10_code, 3, some (.int), 0, 0, 1, 0)
def H_Duel_fill : Hd := (1, ⟨"FarKeys$Duel", "fill", "(LFarKeys$Walk;LFarKeys$Land;[III)V"⟩, prog_3_method_2_code, 9, none, 4, 101, 1, 5)
def H_Duel_mostOpen : Hd := (1, ⟨"FarKeys$Duel", "mostOpen", "()I"⟩, prog_3_method_3_code, 4, some (.int), 0, 0, 1, 0)
def H_Duel_codeOf : Hd := (1, ⟨"FarKeys$Duel", "codeOf", "(I)I"⟩, prog_3_method_4_code, 2, some (.int), 0, 0, 1, 1)
def H_Duel_countOpenIn : Hd := (1, ⟨"FarKeys$Duel", "countOpenIn", "(I)I"⟩, prog_3_method_5_code, 5, some (.int), 0, 0, 1, 1)
def H_Duel_findRest : Hd := (1, ⟨"FarKeys$Duel", "findRest", "(LFarKeys$Land;I)I"⟩, prog_3_method_6_code, 7, some (.int), 3, 69, 1, 2)
def H_Duel_addSpan : Hd := (1, ⟨"FarKeys$Duel", "addSpan", "([IIIII)V"⟩, prog_3_method_7_code, 7, none, 1, 21, 0, 5)
def H_Duel_findMosts : Hd := (1, ⟨"FarKeys$Duel", "findMosts", "(LFarKeys$Land;)V"⟩, prog_3_method_8_code, 5, none, 2, 45, 1, 1)
def H_Duel_gainOfOne : Hd := (1, ⟨"FarKeys$Duel", "gainOfOne", "(LFarKeys$Land;I)I"⟩, prog_3_method_9_code, 3, some (.int), 1, 23, 1, 2)
def H_Duel_gainOfOther : Hd := (1, ⟨"FarKeys$Duel", "gainOfOther", "(LFarKeys$Land;I)I"⟩, prog_3_method_10_code, 3, some (.int), 1, 23, 1, 2)
def H_Duel_tryPlan : Hd := (1, ⟨"FarKeys$Duel", "tryPlan", "(LFarKeys$Walk;I)V"⟩, prog_3_method_11_code, 7, none, 3, 75, 1, 2)
def H_Duel_findFirst : Hd := (1, ⟨"FarKeys$Duel", "findFirst", "(LFarKeys$Walk;I)V"⟩, prog_3_method_12_code, 5, none, 0, 0, 1, 2)
def H_Duel_addWay : Hd := (1, ⟨"FarKeys$Duel", "addWay", "(IIII)V"⟩, prog_3_method_13_code, 9, none, 2, 47, 1, 4)
def H_Land_clear : Hd := (2, ⟨"FarKeys$Land", "clear", "()V"⟩, prog_4_method_2_code, 2, none, 0, 0, 1, 0)
def H_Land_copy : Hd := (2, ⟨"FarKeys$Land", "copy", "(LFarKeys$Land;)V"⟩, prog_4_method_3_code, 2, none, 1, 26, 1, 1)
def H_Land_isFull : Hd := (2, ⟨"FarKeys$Land", "isFull", "(I)Z"⟩, prog_4_method_4_code, 2, some (.boolean), 0, 0, 1, 1)
def H_Land_take : Hd := (2, ⟨"FarKeys$Land", "take", "(I[I)V"⟩, prog_4_method_5_code, 4, none, 1, 21, 1, 2)
def H_Land_isWhole : Hd := (2, ⟨"FarKeys$Land", "isWhole", "()Z"⟩, prog_4_method_6_code, 3, some (.boolean), 0, 0, 1, 0)
def H_Land_allWays : Hd := (2, ⟨"FarKeys$Land", "allWays", "()I"⟩, prog_4_method_7_code, 3, some (.int), 0, 0, 1, 0)
def H_Land_heardBy : Hd := (2, ⟨"FarKeys$Land", "heardBy", "(I)I"⟩, prog_4_method_8_code, 4, some (.int), 0, 0, 1, 1)
def H_Land_makeDeaf : Hd := (2, ⟨"FarKeys$Land", "makeDeaf", "(I)V"⟩, prog_4_method_9_code, 3, none, 0, 0, 1, 1)
def H_Land_countAhead : Hd := (2, ⟨"FarKeys$Land", "countAhead", "(I)I"⟩, prog_4_method_10_code, 5, some (.int), 0, 0, 1, 1)
def H_Land_timeOf : Hd := (2, ⟨"FarKeys$Land", "timeOf", "(I[II)I"⟩, prog_4_method_11_code, 7, some (.int), 0, 0, 1, 3)
def H_Land_gainOf : Hd := (2, ⟨"FarKeys$Land", "gainOf", "(III)I"⟩, prog_4_method_12_code, 4, some (.int), 0, 0, 1, 3)
def H_LandReader_read : Hd := (3, ⟨"FarKeys$LandReader", "read", "()I"⟩, prog_5_method_2_code, 2, some (.int), 4, 94, 1, 0)
def H_LandReader_readClause : Hd := (3, ⟨"FarKeys$LandReader", "readClause", "()V"⟩, prog_5_method_3_code, 4, none, 3, 71, 1, 0)
def H_LandReader_isClauseOver : Hd := (3, ⟨"FarKeys$LandReader", "isClauseOver", "()Z"⟩, prog_5_method_4_code, 2, some (.boolean), 1, 20, 1, 0)
def H_LandReader_readItem : Hd := (3, ⟨"FarKeys$LandReader", "readItem", "(II)I"⟩, prog_5_method_5_code, 6, some (.int), 2, 46, 1, 2)
def H_LandReader_kindOf : Hd := (3, ⟨"FarKeys$LandReader", "kindOf", "(I)I"⟩, prog_5_method_6_code, 1, some (.int), 0, 0, 0, 1)
def H_LandReader_itemOf : Hd := (3, ⟨"FarKeys$LandReader", "itemOf", "(II)I"⟩, prog_5_method_7_code, 3, some (.int), 0, 0, 0, 2)
def H_PlanReader_read : Hd := (4, ⟨"FarKeys$PlanReader", "read", "()I"⟩, prog_6_method_2_code, 2, some (.int), 4, 89, 1, 0)
def H_PlanReader_readUnit : Hd := (4, ⟨"FarKeys$PlanReader", "readUnit", "()V"⟩, prog_6_method_3_code, 2, none, 3, 68, 1, 0)
def H_PlanReader_readLetter : Hd := (4, ⟨"FarKeys$PlanReader", "readLetter", "(I)V"⟩, prog_6_method_4_code, 3, none, 2, 46, 1, 1)
def H_PlanReader_readBehindUnit : Hd := (4, ⟨"FarKeys$PlanReader", "readBehindUnit", "()V"⟩, prog_6_method_5_code, 2, none, 1, 21, 1, 0)
def H_PlanReader_write : Hd := (4, ⟨"FarKeys$PlanReader", "write", "(I)V"⟩, prog_6_method_6_code, 2, none, 0, 0, 1, 1)
def H_Plans_add : Hd := (5, ⟨"FarKeys$Plans", "add", "(LFarKeys$PlanReader;)V"⟩, prog_7_method_2_code, 2, none, 1, 26, 1, 1)
def H_Plans_lettersOf : Hd := (5, ⟨"FarKeys$Plans", "lettersOf", "(I)I"⟩, prog_7_method_3_code, 2, some (.int), 0, 0, 1, 1)
def H_Plans_turnOf : Hd := (5, ⟨"FarKeys$Plans", "turnOf", "(I[I[II)I"⟩, prog_7_method_4_code, 11, some (.int), 1, 21, 1, 4)
def H_Plans_openLevel : Hd := (5, ⟨"FarKeys$Plans", "openLevel", "(I)V"⟩, prog_7_method_5_code, 2, none, 0, 0, 1, 1)
def H_Row_gather : Hd := (6, ⟨"FarKeys$Row", "gather", "([IIII)V"⟩, prog_8_method_2_code, 6, none, 1, 22, 1, 4)
def H_Row_copy : Hd := (6, ⟨"FarKeys$Row", "copy", "(LFarKeys$Row;)V"⟩, prog_8_method_3_code, 3, none, 0, 0, 1, 1)
def H_Row_put : Hd := (6, ⟨"FarKeys$Row", "put", "(I)V"⟩, prog_8_method_4_code, 3, none, 0, 0, 1, 1)
def H_Row_spread : Hd := (6, ⟨"FarKeys$Row", "spread", "(I)I"⟩, prog_8_method_5_code, 4, some (.int), 1, 21, 1, 1)
def H_Row_momentOf : Hd := (6, ⟨"FarKeys$Row", "momentOf", "(II)I"⟩, prog_8_method_6_code, 4, some (.int), 0, 0, 1, 2)
def H_Row_findSpans : Hd := (6, ⟨"FarKeys$Row", "findSpans", "(II)V"⟩, prog_8_method_7_code, 6, none, 2, 44, 1, 2)
def H_Row_addSpan : Hd := (6, ⟨"FarKeys$Row", "addSpan", "(II)V"⟩, prog_8_method_8_code, 3, none, 0, 0, 1, 2)
def H_Solo_trySimple : Hd := (7, ⟨"FarKeys$Solo", "trySimple", "(LFarKeys$Walk;LFarKeys$Land;[IIZ)V"⟩, prog_9_method_2_code, 11, none, 4, 101, 1, 5)
def H_Solo_tryWaiting : Hd := (7, ⟨"FarKeys$Solo", "tryWaiting", "(LFarKeys$Walk;LFarKeys$Land;[II)V"⟩, prog_9_method_3_code, 7, none, 4, 101, 1, 4)
def H_Solo_answer : Hd := (7, ⟨"FarKeys$Solo", "answer", "(II)I"⟩, prog_9_method_4_code, 5, some (.int), 0, 0, 1, 2)
def H_Solo_clear : Hd := (7, ⟨"FarKeys$Solo", "clear", "()V"⟩, prog_9_method_5_code, 2, none, 0, 0, 1, 0)
def H_Solo_findSpans : Hd := (7, ⟨"FarKeys$Solo", "findSpans", "(LFarKeys$Walk;I)V"⟩, prog_9_method_6_code, 3, none, 3, 69, 1, 2)
def H_Solo_addOpen : Hd := (7, ⟨"FarKeys$Solo", "addOpen", "(III)V"⟩, prog_9_method_7_code, 5, none, 2, 47, 1, 3)
def H_Survey_take : Hd := (8, ⟨"FarKeys$Survey", "take", "(LFarKeys$Walk;LFarKeys$Land;[I)V"⟩, prog_10_method_2_code, 7, none, 4, 101, 1, 3)
def H_Survey_openSets : Hd := (8, ⟨"FarKeys$Survey", "openSets", "(LFarKeys$Walk;LFarKeys$Land;[I)I"⟩, prog_10_method_3_code, 8, some (.int), 4, 101, 1, 3)
def H_Survey_clear : Hd := (8, ⟨"FarKeys$Survey", "clear", "()V"⟩, prog_10_method_4_code, 2, none, 0, 0, 1, 0)
def H_Survey_seeTurns : Hd := (8, ⟨"FarKeys$Survey", "seeTurns", "(LFarKeys$Walk;)V"⟩, prog_10_method_5_code, 5, none, 1, 21, 1, 1)
def H_Survey_seeSpread : Hd := (8, ⟨"FarKeys$Survey", "seeSpread", "(I)V"⟩, prog_10_method_6_code, 2, none, 1, 21, 1, 1)
def H_Survey_seeMoment : Hd := (8, ⟨"FarKeys$Survey", "seeMoment", "(II)V"⟩, prog_10_method_7_code, 3, none, 1, 21, 1, 2)
def H_Survey_seeFirst : Hd := (8, ⟨"FarKeys$Survey", "seeFirst", "(LFarKeys$Walk;)V"⟩, prog_10_method_8_code, 5, none, 0, 0, 1, 1)
def H_Tape_filled : Hd := (9, ⟨"FarKeys$Tape", "filled", "(I)I"⟩, prog_11_method_2_code, 3, some (.int), 0, 0, 0, 1)
def H_Tape_add : Hd := (9, ⟨"FarKeys$Tape", "add", "(I)V"⟩, prog_11_method_3_code, 4, none, 0, 0, 1, 1)
def H_Tape_rewind : Hd := (9, ⟨"FarKeys$Tape", "rewind", "()V"⟩, prog_11_method_4_code, 1, none, 0, 0, 1, 0)
def H_Tape_fail : Hd := (9, ⟨"FarKeys$Tape", "fail", "(I)V"⟩, prog_11_method_5_code, 2, none, 0, 0, 1, 1)
def H_Tape_isFine : Hd := (9, ⟨"FarKeys$Tape", "isFine", "()Z"⟩, prog_11_method_6_code, 1, some (.boolean), 0, 0, 1, 0)
def H_Tape_next : Hd := (9, ⟨"FarKeys$Tape", "next", "()I"⟩, prog_11_method_7_code, 1, some (.int), 0, 0, 1, 0)
def H_Tape_number : Hd := (9, ⟨"FarKeys$Tape", "number", "(II)I"⟩, prog_11_method_8_code, 6, some (.int), 1, 21, 1, 2)
def H_Tape_isDigitAt : Hd := (9, ⟨"FarKeys$Tape", "isDigitAt", "(I)Z"⟩, prog_11_method_9_code, 2, some (.boolean), 0, 0, 1, 1)
def H_Walk_place : Hd := (10, ⟨"FarKeys$Walk", "place", "(LFarKeys$Land;[I[I)V"⟩, prog_12_method_2_code, 5, none, 3, 73, 1, 3)
def H_Walk_start : Hd := (10, ⟨"FarKeys$Walk", "start", "(LFarKeys$Land;[II)I"⟩, prog_12_method_3_code, 9, some (.int), 3, 73, 1, 3)
def H_Walk_step : Hd := (10, ⟨"FarKeys$Walk", "step", "()V"⟩, prog_12_method_4_code, 2, none, 3, 73, 1, 0)
def H_Walk_isOpen : Hd := (10, ⟨"FarKeys$Walk", "isOpen", "()Z"⟩, prog_12_method_5_code, 1, some (.boolean), 2, 47, 1, 0)
def H_Walk_isOpenBy : Hd := (10, ⟨"FarKeys$Walk", "isOpenBy", "(I)Z"⟩, prog_12_method_6_code, 3, some (.boolean), 2, 44, 1, 1)
def H_Walk_tally : Hd := (10, ⟨"FarKeys$Walk", "tally", "(LFarKeys$Land;[I)I"⟩, prog_12_method_7_code, 6, some (.int), 4, 101, 1, 2)
def H_Walk_hearing : Hd := (10, ⟨"FarKeys$Walk", "hearing", "(II)I"⟩, prog_12_method_8_code, 3, some (.int), 0, 0, 1, 2)
def H_Walk_offBits : Hd := (10, ⟨"FarKeys$Walk", "offBits", "(I)I"⟩, prog_12_method_9_code, 5, some (.int), 0, 0, 1, 1)
def H_Walk_enter : Hd := (10, ⟨"FarKeys$Walk", "enter", "(LFarKeys$Land;[I)V"⟩, prog_12_method_10_code, 4, none, 1, 23, 1, 2)
def H_Walk_neededSigns : Hd := (10, ⟨"FarKeys$Walk", "neededSigns", "(I)I"⟩, prog_12_method_11_code, 5, some (.int), 0, 0, 1, 1)
def H_Walk_settle : Hd := (10, ⟨"FarKeys$Walk", "settle", "(I)V"⟩, prog_12_method_12_code, 3, none, 2, 51, 1, 1)
def H_X_feed : Hd := (11, ⟨"FarKeys", "feed", "(IIIII)I"⟩, prog_1_method_2_code, 7, some (.int), 1, 23, 1, 5)
def H_X_end : Hd := (11, ⟨"FarKeys", "end", "(I)Z"⟩, prog_1_method_3_code, 2, some (.boolean), 0, 0, 1, 1)
def H_X_fault : Hd := (11, ⟨"FarKeys", "fault", "(I)I"⟩, prog_1_method_4_code, 2, some (.int), 5, 115, 1, 1)
def H_X_text : Hd := (11, ⟨"FarKeys", "text", "(I)I"⟩, prog_1_method_5_code, 2, some (.int), 6, 135, 1, 1)
def H_X_guard : Hd := (11, ⟨"FarKeys", "guard", "(II)I"⟩, prog_1_method_7_code, 3, some (.int), 1, 21, 1, 2)
def H_X_hears : Hd := (11, ⟨"FarKeys", "hears", "(II)I"⟩, prog_1_method_8_code, 4, some (.int), 1, 21, 1, 2)
def H_X_plan : Hd := (11, ⟨"FarKeys", "plan", "(II)Z"⟩, prog_1_method_9_code, 3, some (.boolean), 1, 21, 1, 2)
def H_X_ways : Hd := (11, ⟨"FarKeys", "ways", "(I)I"⟩, prog_1_method_10_code, 2, some (.int), 6, 147, 1, 1)
def H_X_odds : Hd := (11, ⟨"FarKeys", "odds", "(I)I"⟩, prog_1_method_11_code, 2, some (.int), 6, 147, 1, 1)
def H_X_turnsAt : Hd := (11, ⟨"FarKeys", "turnsAt", "(II)I"⟩, prog_1_method_12_code, 3, some (.int), 4, 97, 1, 2)
def H_X_opens : Hd := (11, ⟨"FarKeys", "opens", "(I)I"⟩, prog_1_method_13_code, 2, some (.int), 4, 97, 1, 1)
def H_X_when : Hd := (11, ⟨"FarKeys", "when", "(II)I"⟩, prog_1_method_14_code, 4, some (.int), 6, 147, 1, 2)
def H_X_near : Hd := (11, ⟨"FarKeys", "near", "(I)I"⟩, prog_1_method_15_code, 3, some (.int), 6, 147, 1, 1)
def H_X_enough : Hd := (11, ⟨"FarKeys", "enough", "()I"⟩, prog_1_method_16_code, 2, some (.int), 6, 147, 1, 0)
def H_X_best : Hd := (11, ⟨"FarKeys", "best", "(II)I"⟩, prog_1_method_17_code, 3, some (.int), 5, 131, 1, 2)
def H_X_pair : Hd := (11, ⟨"FarKeys", "pair", "(III)I"⟩, prog_1_method_18_code, 6, some (.int), 6, 151, 1, 3)
def H_X_sure : Hd := (11, ⟨"FarKeys", "sure", "(II)I"⟩, prog_1_method_19_code, 3, some (.int), 6, 151, 1, 2)
def H_X_idle : Hd := (11, ⟨"FarKeys", "idle", "()I"⟩, prog_1_method_20_code, 4, some (.int), 6, 147, 1, 0)
def H_X_shift : Hd := (11, ⟨"FarKeys", "shift", "(II)I"⟩, prog_1_method_21_code, 3, some (.int), 5, 126, 1, 2)
def H_X_waits : Hd := (11, ⟨"FarKeys", "waits", "(II)I"⟩, prog_1_method_22_code, 3, some (.int), 5, 127, 1, 2)
def H_X_gain : Hd := (11, ⟨"FarKeys", "gain", "(I)I"⟩, prog_1_method_23_code, 3, some (.int), 6, 147, 1, 1)
def H_X_rest : Hd := (11, ⟨"FarKeys", "rest", "(III)I"⟩, prog_1_method_24_code, 4, some (.int), 6, 151, 1, 3)
def H_X_thief : Hd := (11, ⟨"FarKeys", "thief", "(II)I"⟩, prog_1_method_25_code, 3, some (.int), 5, 131, 1, 2)
def H_X_scratch : Hd := (11, ⟨"FarKeys", "scratch", "(III)I"⟩, prog_1_method_26_code, 4, some (.int), 1, 23, 1, 3)
def H_X_fits : Hd := (11, ⟨"FarKeys", "fits", "(I)I"⟩, prog_1_method_27_code, 6, some (.int), 4, 101, 1, 1)
def H_X_lies : Hd := (11, ⟨"FarKeys", "lies", "()I"⟩, prog_1_method_28_code, 6, some (.int), 4, 101, 1, 0)
def H_X_sets : Hd := (11, ⟨"FarKeys", "sets", "(I)I"⟩, prog_1_method_29_code, 5, some (.int), 6, 147, 1, 1)
def H_X_moment : Hd := (11, ⟨"FarKeys", "moment", "(I)I"⟩, prog_1_method_30_code, 2, some (.int), 6, 147, 1, 1)
def H_X_better : Hd := (11, ⟨"FarKeys", "better", "(III)I"⟩, prog_1_method_31_code, 4, some (.int), 6, 149, 1, 3)
def H_X_exact : Hd := (11, ⟨"FarKeys", "exact", "(I)I"⟩, prog_1_method_32_code, 8, some (.int), 5, 126, 1, 1)
def H_X_lossy : Hd := (11, ⟨"FarKeys", "lossy", "(I)I"⟩, prog_1_method_33_code, 9, some (.int), 5, 126, 1, 1)
def H_X_route : Hd := (11, ⟨"FarKeys", "route", "(II)I"⟩, prog_1_method_34_code, 4, some (.int), 4, 97, 1, 2)
def H_X_deaf : Hd := (11, ⟨"FarKeys", "deaf", "()I"⟩, prog_1_method_35_code, 4, some (.int), 6, 147, 1, 0)
def H_X_helper : Hd := (11, ⟨"FarKeys", "helper", "(I)I"⟩, prog_1_method_36_code, 7, some (.int), 6, 149, 1, 1)
def H_X_seed : Hd := (11, ⟨"FarKeys", "seed", "(J)Z"⟩, prog_1_method_37_code, 3, some (.boolean), 0, 0, 1, 1)
def H_X_night : Hd := (11, ⟨"FarKeys", "night", "()I"⟩, prog_1_method_38_code, 4, some (.int), 4, 97, 1, 0)
def H_X_turned : Hd := (11, ⟨"FarKeys", "turned", "(II)I"⟩, prog_1_method_39_code, 3, some (.int), 1, 21, 1, 2)
def H_X_opened : Hd := (11, ⟨"FarKeys", "opened", "(I)I"⟩, prog_1_method_40_code, 2, some (.int), 1, 21, 1, 1)
def H_X_undo : Hd := (11, ⟨"FarKeys", "undo", "()I"⟩, prog_1_method_41_code, 1, some (.int), 1, 20, 1, 0)
def H_X_image : Hd := (11, ⟨"FarKeys", "image", "()I"⟩, prog_1_method_42_code, 1, some (.int), 2, 47, 1, 0)
def H_X_back : Hd := (11, ⟨"FarKeys", "back", "()I"⟩, prog_1_method_43_code, 1, some (.int), 2, 47, 1, 0)
def H_X_count : Hd := (11, ⟨"FarKeys", "count", "(I)I"⟩, prog_1_method_44_code, 2, some (.int), 1, 22, 1, 1)
def H_X_isTold : Hd := (11, ⟨"FarKeys", "isTold", "()Z"⟩, prog_1_method_45_code, 1, some (.boolean), 0, 0, 1, 0)
def H_X_isGuard : Hd := (11, ⟨"FarKeys", "isGuard", "(I)Z"⟩, prog_1_method_46_code, 2, some (.boolean), 0, 0, 1, 1)
def H_X_isSign : Hd := (11, ⟨"FarKeys", "isSign", "(I)Z"⟩, prog_1_method_47_code, 2, some (.boolean), 0, 0, 1, 1)
def H_X_isPlan : Hd := (11, ⟨"FarKeys", "isPlan", "(I)Z"⟩, prog_1_method_48_code, 2, some (.boolean), 0, 0, 1, 1)
def H_X_isNight : Hd := (11, ⟨"FarKeys", "isNight", "(I)Z"⟩, prog_1_method_49_code, 2, some (.boolean), 0, 0, 1, 1)
def H_X_isPair : Hd := (11, ⟨"FarKeys", "isPair", "(II)Z"⟩, prog_1_method_50_code, 3, some (.boolean), 1, 22, 1, 2)
def H_X_isWithin : Hd := (11, ⟨"FarKeys", "isWithin", "(II)Z"⟩, prog_1_method_51_code, 2, some (.boolean), 0, 0, 0, 2)
def H_X_orHidden : Hd := (11, ⟨"FarKeys", "orHidden", "(I)I"⟩, prog_1_method_52_code, 1, some (.int), 0, 0, 0, 1)
def H_X_takeLand : Hd := (11, ⟨"FarKeys", "takeLand", "()I"⟩, prog_1_method_53_code, 1, some (.int), 5, 115, 1, 0)
def H_X_takePlan : Hd := (11, ⟨"FarKeys", "takePlan", "()I"⟩, prog_1_method_54_code, 1, some (.int), 5, 110, 1, 0)
def H_X_forgetAnswers : Hd := (11, ⟨"FarKeys", "forgetAnswers", "()V"⟩, prog_1_method_55_code, 1, none, 0, 0, 1, 0)
def H_X_surveyed : Hd := (11, ⟨"FarKeys", "surveyed", "()LFarKeys$Survey;"⟩, prog_1_method_56_code, 1, some (.object "FarKeys$Survey"), 5, 127, 1, 0)
def H_X_dueled : Hd := (11, ⟨"FarKeys", "dueled", "(II)LFarKeys$Duel;"⟩, prog_1_method_57_code, 3, some (.object "FarKeys$Duel"), 5, 129, 1, 2)
def H_X_readOffs : Hd := (11, ⟨"FarKeys", "readOffs", "(I)Z"⟩, prog_1_method_58_code, 5, some (.boolean), 0, 0, 1, 1)
def H_X_tallyWithPlan : Hd := (11, ⟨"FarKeys", "tallyWithPlan", "(II)I"⟩, prog_1_method_59_code, 4, some (.int), 5, 126, 1, 2)
def H_X_tallyWithHearing : Hd := (11, ⟨"FarKeys", "tallyWithHearing", "(II)I"⟩, prog_1_method_60_code, 4, some (.int), 5, 126, 1, 2)
def H_X_partsOfSet : Hd := (11, ⟨"FarKeys", "partsOfSet", "(II)J"⟩, prog_1_method_61_code, 8, some (.long), 0, 0, 1, 2)
def H_X_partOfFraction : Hd := (11, ⟨"FarKeys", "partOfFraction", "(III)I"⟩, prog_1_method_62_code, 4, some (.int), 1, 25, 0, 3)
def H_X_commonDivisor : Hd := (11, ⟨"FarKeys", "commonDivisor", "(II)I"⟩, prog_1_method_63_code, 6, some (.int), 0, 0, 0, 2)
def H_M_thrown : Hd := (12, ⟨"FarKeysModel", "thrown", "()I"⟩, prog_14_method_1_code, 1, some (.int), 0, 0, 1, 0)
def H_M_feed : Hd := (12, ⟨"FarKeysModel", "feed", "(IIIII)I"⟩, prog_14_method_3_code, 6, some (.int), 1, 23, 1, 5)
def H_M_lives : Hd := (12, ⟨"FarKeysModel", "lives", "(I)I"⟩, prog_14_method_4_code, 3, some (.int), 0, 0, 0, 1)
def H_M_comes : Hd := (12, ⟨"FarKeysModel", "comes", "(I)V"⟩, prog_14_method_5_code, 4, none, 0, 0, 1, 1)
def H_M_end : Hd := (12, ⟨"FarKeysModel", "end", "(I)Z"⟩, prog_14_method_6_code, 2, some (.boolean), 0, 0, 1, 1)
def H_M_sees : Hd := (12, ⟨"FarKeysModel", "sees", "()I"⟩, prog_14_method_7_code, 1, some (.int), 0, 0, 1, 0)
def H_M_isDigit : Hd := (12, ⟨"FarKeysModel", "isDigit", "(I)Z"⟩, prog_14_method_8_code, 1, some (.boolean), 0, 0, 0, 1)
def H_M_reads : Hd := (12, ⟨"FarKeysModel", "reads", "(II)I"⟩, prog_14_method_9_code, 5, some (.int), 1, 20, 1, 2)
def H_M_wrongLand : Hd := (12, ⟨"FarKeysModel", "wrongLand", "()I"⟩, prog_14_method_10_code, 2, some (.int), 4, 92, 1, 0)
def H_M_isWhole : Hd := (12, ⟨"FarKeysModel", "isWhole", "()Z"⟩, prog_14_method_11_code, 3, some (.boolean), 0, 0, 1, 0)
def H_M_readsClause : Hd := (12, ⟨"FarKeysModel", "readsClause", "()V"⟩, prog_14_method_12_code, 6, none, 3, 67, 1, 0)
def H_M_isItem : Hd := (12, ⟨"FarKeysModel", "isItem", "(II)Z"⟩, prog_14_method_13_code, 2, some (.boolean), 0, 0, 0, 2)
def H_M_readsItem : Hd := (12, ⟨"FarKeysModel", "readsItem", "(II)V"⟩, prog_14_method_14_code, 4, none, 2, 44, 1, 2)
def H_M_comesOut : Hd := (12, ⟨"FarKeysModel", "comesOut", "(I)V"⟩, prog_14_method_15_code, 2, none, 0, 0, 1, 1)
def H_M_wrongPlan : Hd := (12, ⟨"FarKeysModel", "wrongPlan", "()I"⟩, prog_14_method_16_code, 4, some (.int), 2, 44, 1, 0)
def H_M_fault : Hd := (12, ⟨"FarKeysModel", "fault", "(I)I"⟩, prog_14_method_17_code, 2, some (.int), 5, 113, 1, 1)
def H_M_wipes : Hd := (12, ⟨"FarKeysModel", "wipes", "()V"⟩, prog_14_method_18_code, 2, none, 0, 0, 1, 0)
def H_M_text : Hd := (12, ⟨"FarKeysModel", "text", "(I)I"⟩, prog_14_method_19_code, 3, some (.int), 5, 113, 1, 1)
def H_M_laysLand : Hd := (12, ⟨"FarKeysModel", "laysLand", "()V"⟩, prog_14_method_20_code, 2, none, 1, 21, 1, 0)
def H_M_isGuard : Hd := (12, ⟨"FarKeysModel", "isGuard", "(I)Z"⟩, prog_14_method_21_code, 2, some (.boolean), 0, 0, 1, 1)
def H_M_isSign : Hd := (12, ⟨"FarKeysModel", "isSign", "(I)Z"⟩, prog_14_method_22_code, 2, some (.boolean), 0, 0, 1, 1)
def H_M_isPart : Hd := (12, ⟨"FarKeysModel", "isPart", "(II)Z"⟩, prog_14_method_23_code, 2, some (.boolean), 0, 0, 0, 2)
def H_M_sign : Hd := (12, ⟨"FarKeysModel", "sign", "(II)I"⟩, prog_14_method_24_code, 3, some (.int), 1, 21, 1, 2)
def H_M_guard : Hd := (12, ⟨"FarKeysModel", "guard", "(II)I"⟩, prog_14_method_25_code, 3, some (.int), 1, 21, 1, 2)
def H_M_hears : Hd := (12, ⟨"FarKeysModel", "hears", "(II)I"⟩, prog_14_method_26_code, 3, some (.int), 1, 21, 1, 2)
def H_M_plan : Hd := (12, ⟨"FarKeysModel", "plan", "(II)Z"⟩, prog_14_method_27_code, 3, some (.boolean), 1, 21, 1, 2)
def H_M_asTold : Hd := (12, ⟨"FarKeysModel", "asTold", "()V"⟩, prog_14_method_28_code, 2, none, 0, 0, 1, 0)
def H_M_allWays : Hd := (12, ⟨"FarKeysModel", "allWays", "()I"⟩, prog_14_method_29_code, 3, some (.int), 0, 0, 1, 0)
def H_M_firstWay : Hd := (12, ⟨"FarKeysModel", "firstWay", "()V"⟩, prog_14_method_30_code, 2, none, 3, 73, 1, 0)
def H_M_nextWay : Hd := (12, ⟨"FarKeysModel", "nextWay", "()Z"⟩, prog_14_method_31_code, 2, some (.boolean), 3, 73, 1, 0)
def H_M_heardAt : Hd := (12, ⟨"FarKeysModel", "heardAt", "(II)I"⟩, prog_14_method_32_code, 4, some (.int), 0, 0, 1, 2)
def H_M_goes : Hd := (12, ⟨"FarKeysModel", "goes", "()V"⟩, prog_14_method_33_code, 3, none, 2, 51, 1, 0)
def H_M_byPlan : Hd := (12, ⟨"FarKeysModel", "byPlan", "(II)I"⟩, prog_14_method_34_code, 9, some (.int), 1, 23, 1, 2)
def H_M_apart : Hd := (12, ⟨"FarKeysModel", "apart", "()I"⟩, prog_14_method_35_code, 4, some (.int), 1, 23, 1, 0)
def H_M_sorts : Hd := (12, ⟨"FarKeysModel", "sorts", "()V"⟩, prog_14_method_36_code, 4, none, 0, 0, 1, 0)
def H_M_doesOpen : Hd := (12, ⟨"FarKeysModel", "doesOpen", "()Z"⟩, prog_14_method_37_code, 1, some (.boolean), 2, 46, 1, 0)
def H_M_openings : Hd := (12, ⟨"FarKeysModel", "openings", "()I"⟩, prog_14_method_38_code, 2, some (.int), 4, 94, 1, 0)
def H_M_divisor : Hd := (12, ⟨"FarKeysModel", "divisor", "(II)I"⟩, prog_14_method_39_code, 5, some (.int), 0, 0, 0, 2)
def H_M_ways : Hd := (12, ⟨"FarKeysModel", "ways", "(I)I"⟩, prog_14_method_40_code, 2, some (.int), 5, 115, 1, 1)
def H_M_odds : Hd := (12, ⟨"FarKeysModel", "odds", "(I)I"⟩, prog_14_method_41_code, 5, some (.int), 5, 115, 1, 1)
def H_M_laysWay : Hd := (12, ⟨"FarKeysModel", "laysWay", "(I)Z"⟩, prog_14_method_42_code, 4, some (.boolean), 3, 73, 1, 1)
def H_M_turnsAt : Hd := (12, ⟨"FarKeysModel", "turnsAt", "(II)I"⟩, prog_14_method_43_code, 3, some (.int), 4, 96, 1, 2)
def H_M_opens : Hd := (12, ⟨"FarKeysModel", "opens", "(I)I"⟩, prog_14_method_44_code, 2, some (.int), 4, 96, 1, 1)
def H_M_when : Hd := (12, ⟨"FarKeysModel", "when", "(II)I"⟩, prog_14_method_45_code, 7, some (.int), 4, 94, 1, 2)
def H_M_near : Hd := (12, ⟨"FarKeysModel", "near", "(I)I"⟩, prog_14_method_46_code, 5, some (.int), 4, 94, 1, 1)
def H_M_enough : Hd := (12, ⟨"FarKeysModel", "enough", "()I"⟩, prog_14_method_47_code, 3, some (.int), 4, 94, 1, 0)
def H_M_firstMost : Hd := (12, ⟨"FarKeysModel", "firstMost", "()I"⟩, prog_14_method_48_code, 3, some (.int), 0, 0, 1, 0)
def H_M_talliesOne : Hd := (12, ⟨"FarKeysModel", "talliesOne", "(IZ)V"⟩, prog_14_method_49_code, 7, none, 4, 94, 1, 2)
def H_M_best : Hd := (12, ⟨"FarKeysModel", "best", "(II)I"⟩, prog_14_method_50_code, 4, some (.int), 5, 120, 1, 2)
def H_M_thief : Hd := (12, ⟨"FarKeysModel", "thief", "(II)I"⟩, prog_14_method_51_code, 4, some (.int), 5, 120, 1, 2)
def H_M_isPair : Hd := (12, ⟨"FarKeysModel", "isPair", "(II)Z"⟩, prog_14_method_52_code, 3, some (.boolean), 1, 22, 1, 2)
def H_M_talliesPairs : Hd := (12, ⟨"FarKeysModel", "talliesPairs", "(II)V"⟩, prog_14_method_53_code, 9, none, 4, 94, 1, 2)
def H_M_firstToTurn : Hd := (12, ⟨"FarKeysModel", "firstToTurn", "()I"⟩, prog_14_method_54_code, 3, some (.int), 0, 0, 1, 0)
def H_M_pair : Hd := (12, ⟨"FarKeysModel", "pair", "(III)I"⟩, prog_14_method_55_code, 7, some (.int), 5, 122, 1, 3)
def H_M_sure : Hd := (12, ⟨"FarKeysModel", "sure", "(II)I"⟩, prog_14_method_56_code, 6, some (.int), 5, 122, 1, 2)
def H_M_isRest : Hd := (12, ⟨"FarKeysModel", "isRest", "(II)Z"⟩, prog_14_method_57_code, 4, some (.boolean), 0, 0, 1, 2)
def H_M_rest : Hd := (12, ⟨"FarKeysModel", "rest", "(III)I"⟩, prog_14_method_58_code, 7, some (.int), 5, 122, 1, 3)
def H_M_idle : Hd := (12, ⟨"FarKeysModel", "idle", "()I"⟩, prog_14_method_59_code, 4, some (.int), 5, 115, 1, 0)
def H_M_shift : Hd := (12, ⟨"FarKeysModel", "shift", "(II)I"⟩, prog_14_method_60_code, 3, some (.int), 5, 115, 1, 2)
def H_M_waits : Hd := (12, ⟨"FarKeysModel", "waits", "(II)I"⟩, prog_14_method_61_code, 5, some (.int), 4, 94, 1, 2)
def H_M_gain : Hd := (12, ⟨"FarKeysModel", "gain", "(I)I"⟩, prog_14_method_62_code, 3, some (.int), 4, 94, 1, 1)
def H_M_scratch : Hd := (12, ⟨"FarKeysModel", "scratch", "(III)I"⟩, prog_14_method_63_code, 4, some (.int), 1, 21, 1, 3)
def H_M_misfits : Hd := (12, ⟨"FarKeysModel", "misfits", "()I"⟩, prog_14_method_64_code, 6, some (.int), 1, 23, 1, 0)
def H_M_fits : Hd := (12, ⟨"FarKeysModel", "fits", "(I)I"⟩, prog_14_method_65_code, 4, some (.int), 4, 94, 1, 1)
def H_M_bitsOf : Hd := (12, ⟨"FarKeysModel", "bitsOf", "(I)I"⟩, prog_14_method_66_code, 3, some (.int), 0, 0, 0, 1)
def H_M_lies : Hd := (12, ⟨"FarKeysModel", "lies", "()I"⟩, prog_14_method_67_code, 3, some (.int), 4, 94, 1, 0)
def H_M_setBits : Hd := (12, ⟨"FarKeysModel", "setBits", "()I"⟩, prog_14_method_68_code, 4, some (.int), 4, 94, 1, 0)
def H_M_sets : Hd := (12, ⟨"FarKeysModel", "sets", "(I)I"⟩, prog_14_method_69_code, 5, some (.int), 5, 117, 1, 1)
def H_M_opening : Hd := (12, ⟨"FarKeysModel", "opening", "()I"⟩, prog_14_method_70_code, 2, some (.int), 1, 23, 1, 0)
def H_M_moment : Hd := (12, ⟨"FarKeysModel", "moment", "(I)I"⟩, prog_14_method_71_code, 6, some (.int), 4, 94, 1, 1)
def H_M_better : Hd := (12, ⟨"FarKeysModel", "better", "(III)I"⟩, prog_14_method_72_code, 5, some (.int), 5, 115, 1, 3)
def H_M_exact : Hd := (12, ⟨"FarKeysModel", "exact", "(I)I"⟩, prog_14_method_73_code, 8, some (.int), 5, 115, 1, 1)
def H_M_lossy : Hd := (12, ⟨"FarKeysModel", "lossy", "(I)I"⟩, prog_14_method_74_code, 12, some (.int), 5, 115, 1, 1)
def H_M_route : Hd := (12, ⟨"FarKeysModel", "route", "(II)I"⟩, prog_14_method_75_code, 8, some (.int), 1, 21, 1, 2)
def H_M_deaf : Hd := (12, ⟨"FarKeysModel", "deaf", "()I"⟩, prog_14_method_76_code, 5, some (.int), 5, 115, 1, 0)
def H_M_helper : Hd := (12, ⟨"FarKeysModel", "helper", "(I)I"⟩, prog_14_method_77_code, 7, some (.int), 5, 115, 1, 1)
def H_M_draw : Hd := (12, ⟨"FarKeysModel", "draw", "(I)I"⟩, prog_14_method_78_code, 2, some (.int), 0, 0, 1, 1)
def H_M_seed : Hd := (12, ⟨"FarKeysModel", "seed", "(J)Z"⟩, prog_14_method_79_code, 3, some (.boolean), 0, 0, 1, 1)
def H_M_night : Hd := (12, ⟨"FarKeysModel", "night", "()I"⟩, prog_14_method_80_code, 2, some (.int), 3, 73, 1, 0)
def H_M_isNight : Hd := (12, ⟨"FarKeysModel", "isNight", "(I)Z"⟩, prog_14_method_81_code, 2, some (.boolean), 0, 0, 1, 1)
def H_M_turned : Hd := (12, ⟨"FarKeysModel", "turned", "(II)I"⟩, prog_14_method_82_code, 3, some (.int), 1, 21, 1, 2)
def H_M_opened : Hd := (12, ⟨"FarKeysModel", "opened", "(I)I"⟩, prog_14_method_83_code, 2, some (.int), 1, 21, 1, 1)
def H_M_undo : Hd := (12, ⟨"FarKeysModel", "undo", "()I"⟩, prog_14_method_84_code, 1, some (.int), 1, 21, 1, 0)
def H_M_image : Hd := (12, ⟨"FarKeysModel", "image", "()I"⟩, prog_14_method_85_code, 2, some (.int), 0, 0, 1, 0)
def H_M_back : Hd := (12, ⟨"FarKeysModel", "back", "()I"⟩, prog_14_method_86_code, 2, some (.int), 0, 0, 1, 0)
def H_M_count : Hd := (12, ⟨"FarKeysModel", "count", "(I)I"⟩, prog_14_method_87_code, 4, some (.int), 0, 0, 1, 1)
def H_Integer_bitCount : Hd := (14, ⟨"java/lang/Integer", "bitCount", "(I)I"⟩, prog_17_method_49_code, 1, some (.int), 0, 0, 0, 1)
def hd0 : List Hd := [H_Book_copy, H_Book_leaveLand, H_Book_addScratch, H_Book_scratchedSigns, H_Book_unlike, H_Book_draw, H_Book_addNight, H_Book_dropNight, H_Book_countOpened, H_Duel_fill, H_Duel_mostOpen, H_Duel_codeOf, H_Duel_countOpenIn, H_Duel_findRest, H_Duel_addSpan, H_Duel_findMosts]
def hd1 : List Hd := [H_Duel_gainOfOne, H_Duel_gainOfOther, H_Duel_tryPlan, H_Duel_findFirst, H_Duel_addWay, H_Land_clear, H_Land_copy, H_Land_isFull, H_Land_take, H_Land_isWhole, H_Land_allWays, H_Land_heardBy, H_Land_makeDeaf, H_Land_countAhead, H_Land_timeOf, H_Land_gainOf]
def hd2 : List Hd := [H_LandReader_read, H_LandReader_readClause, H_LandReader_isClauseOver, H_LandReader_readItem, H_LandReader_kindOf, H_LandReader_itemOf, H_PlanReader_read, H_PlanReader_readUnit, H_PlanReader_readLetter, H_PlanReader_readBehindUnit, H_PlanReader_write, H_Plans_add, H_Plans_lettersOf, H_Plans_turnOf, H_Plans_openLevel, H_Row_gather]
def hd3 : List Hd := [H_Row_copy, H_Row_put, H_Row_spread, H_Row_momentOf, H_Row_findSpans, H_Row_addSpan, H_Solo_trySimple, H_Solo_tryWaiting, H_Solo_answer, H_Solo_clear, H_Solo_findSpans, H_Solo_addOpen, H_Survey_take, H_Survey_openSets, H_Survey_clear, H_Survey_seeTurns]
def hd4 : List Hd := [H_Survey_seeSpread, H_Survey_seeMoment, H_Survey_seeFirst, H_Tape_filled, H_Tape_add, H_Tape_rewind, H_Tape_fail, H_Tape_isFine, H_Tape_next, H_Tape_number, H_Tape_isDigitAt, H_Walk_place, H_Walk_start, H_Walk_step, H_Walk_isOpen, H_Walk_isOpenBy]
def hd5 : List Hd := [H_Walk_tally, H_Walk_hearing, H_Walk_offBits, H_Walk_enter, H_Walk_neededSigns, H_Walk_settle, H_X_feed, H_X_end, H_X_fault, H_X_text, H_X_guard, H_X_hears, H_X_plan, H_X_ways, H_X_odds, H_X_turnsAt]
def hd6 : List Hd := [H_X_opens, H_X_when, H_X_near, H_X_enough, H_X_best, H_X_pair, H_X_sure, H_X_idle, H_X_shift, H_X_waits, H_X_gain, H_X_rest, H_X_thief, H_X_scratch, H_X_fits, H_X_lies]
def hd7 : List Hd := [H_X_sets, H_X_moment, H_X_better, H_X_exact, H_X_lossy, H_X_route, H_X_deaf, H_X_helper, H_X_seed, H_X_night, H_X_turned, H_X_opened, H_X_undo, H_X_image, H_X_back, H_X_count]
def hd8 : List Hd := [H_X_isTold, H_X_isGuard, H_X_isSign, H_X_isPlan, H_X_isNight, H_X_isPair, H_X_isWithin, H_X_orHidden, H_X_takeLand, H_X_takePlan, H_X_forgetAnswers, H_X_surveyed, H_X_dueled, H_X_readOffs, H_X_tallyWithPlan, H_X_tallyWithHearing]
def hd9 : List Hd := [H_X_partsOfSet, H_X_partOfFraction, H_X_commonDivisor, H_M_thrown, H_M_feed, H_M_lives, H_M_comes, H_M_end, H_M_sees, H_M_isDigit, H_M_reads, H_M_wrongLand, H_M_isWhole, H_M_readsClause, H_M_isItem, H_M_readsItem]
def hd10 : List Hd := [H_M_comesOut, H_M_wrongPlan, H_M_fault, H_M_wipes, H_M_text, H_M_laysLand, H_M_isGuard, H_M_isSign, H_M_isPart, H_M_sign, H_M_guard, H_M_hears, H_M_plan, H_M_asTold, H_M_allWays, H_M_firstWay]
def hd11 : List Hd := [H_M_nextWay, H_M_heardAt, H_M_goes, H_M_byPlan, H_M_apart, H_M_sorts, H_M_doesOpen, H_M_openings, H_M_divisor, H_M_ways, H_M_odds, H_M_laysWay, H_M_turnsAt, H_M_opens, H_M_when, H_M_near]
def hd12 : List Hd := [H_M_enough, H_M_firstMost, H_M_talliesOne, H_M_best, H_M_thief, H_M_isPair, H_M_talliesPairs, H_M_firstToTurn, H_M_pair, H_M_sure, H_M_isRest, H_M_rest, H_M_idle, H_M_shift, H_M_waits, H_M_gain]
def hd13 : List Hd := [H_M_scratch, H_M_misfits, H_M_fits, H_M_bitsOf, H_M_lies, H_M_setBits, H_M_sets, H_M_opening, H_M_moment, H_M_better, H_M_exact, H_M_lossy, H_M_route, H_M_deaf, H_M_helper, H_M_draw]
def hd14 : List Hd := [H_M_seed, H_M_night, H_M_isNight, H_M_turned, H_M_opened, H_M_undo, H_M_image, H_M_back, H_M_count, H_Integer_bitCount]
def hdT : List (List Hd) := [hd0, hd1, hd2, hd3, hd4, hd5, hd6, hd7, hd8, hd9, hd10, hd11, hd12, hd13, hd14]
def hdTab (n : Nat) : Hd := (hdT.getD (n / 16) []).getD (n % 16) H_Book_copy
end
section
theorem hn_0 : plainName (clN 0) = true := by decide +kernel
theorem hn_1 : plainName (clN 1) = true := by decide +kernel
theorem hn_2 : plainName (clN 2) = true := by decide +kernel
theorem hn_3 : plainName (clN 3) = true := by decide +kernel
theorem hn_4 : plainName (clN 4) = true := by decide +kernel
theorem hn_5 : plainName (clN 5) = true := by decide +kernel
theorem hn_6 : plainName (clN 6) = true := by decide +kernel
theorem hn_7 : plainName (clN 7) = true := by decide +kernel
theorem hn_8 : plainName (clN 8) = true := by decide +kernel
theorem hn_9 : plainName (clN 9) = true := by decide +kernel
theorem hn_10 : plainName (clN 10) = true := by decide +kernel
theorem hn_11 : plainName (clN 11) = true := by decide +kernel
theorem hn_12 : plainName (clN 12) = true := by decide +kernel
theorem hn_14 : plainName (clN 14) = true := by decide +kernel
theorem hk_0 : clN 0 ≠ "java/lang/invoke/MethodHandle" ∧ clN 0 ≠ "java/lang/invoke/VarHandle" := by decide +kernel
theorem hk_1 : clN 1 ≠ "java/lang/invoke/MethodHandle" ∧ clN 1 ≠ "java/lang/invoke/VarHandle" := by decide +kernel
theorem hk_2 : clN 2 ≠ "java/lang/invoke/MethodHandle" ∧ clN 2 ≠ "java/lang/invoke/VarHandle" := by decide +kernel
theorem hk_3 : clN 3 ≠ "java/lang/invoke/MethodHandle" ∧ clN 3 ≠ "java/lang/invoke/VarHandle" := by decide +kernel
theorem hk_4 : clN 4 ≠ "java/lang/invoke/MethodHandle" ∧ clN 4 ≠ "java/lang/invoke/VarHandle" := by decide +kernel
theorem hk_5 : clN 5 ≠ "java/lang/invoke/MethodHandle" ∧ clN 5 ≠ "java/lang/invoke/VarHandle" := by decide +kernel
theorem hk_6 : clN 6 ≠ "java/lang/invoke/MethodHandle" ∧ clN 6 ≠ "java/lang/invoke/VarHandle" := by decide +kernel
theorem hk_7 : clN 7 ≠ "java/lang/invoke/MethodHandle" ∧ clN 7 ≠ "java/lang/invoke/VarHandle" := by decide +kernel
theorem hk_8 : clN 8 ≠ "java/lang/invoke/MethodHandle" ∧ clN 8 ≠ "java/lang/invoke/VarHandle" := by decide +kernel
theorem hk_9 : clN 9 ≠ "java/lang/invoke/MethodHandle" ∧ clN 9 ≠ "java/lang/invoke/VarHandle" := by decide +kernel
theorem hk_10 : clN 10 ≠ "java/lang/invoke/MethodHandle" ∧ clN 10 ≠ "java/lang/invoke/VarHandle" := by decide +kernel
theorem hk_11 : clN 11 ≠ "java/lang/invoke/MethodHandle" ∧ clN 11 ≠ "java/lang/invoke/VarHandle" := by decide +kernel
theorem hk_12 : clN 12 ≠ "java/lang/invoke/MethodHandle" ∧ clN 12 ≠ "java/lang/invoke/VarHandle" := by decide +kernel
theorem hk_13 : clN 13 ≠ "java/lang/invoke/MethodHandle" ∧ clN 13 ≠ "java/lang/invoke/VarHandle" := by decide +kernel
theorem hk_14 : clN 14 ≠ "java/lang/invoke/MethodHandle" ∧ clN 14 ≠ "java/lang/invoke/VarHandle" := by decide +kernel
theorem hi_0 : Cond.initialized (clN 0) ∈ G := mG 86 (by decide +kernel) rfl
theorem hi_1 : Cond.initialized (clN 1) ∈ G := mG 91 (by decide +kernel) rfl
theorem hi_2 : Cond.initialized (clN 2) ∈ G := mG 83 (by decide +kernel) rfl
theorem hi_3 : Cond.initialized (clN 3) ∈ G := mG 82 (by decide +kernel) rfl
theorem hi_4 : Cond.initialized (clN 4) ∈ G := mG 84 (by decide +kernel) rfl
theorem hi_5 : Cond.initialized (clN 5) ∈ G := mG 85 (by decide +kernel) rfl
theorem hi_6 : Cond.initialized (clN 6) ∈ G := mG 88 (by decide +kernel) rfl
theorem hi_7 : Cond.initialized (clN 7) ∈ G := mG 90 (by decide +kernel) rfl
theorem hi_8 : Cond.initialized (clN 8) ∈ G := mG 89 (by decide +kernel) rfl
theorem hi_9 : Cond.initialized (clN 9) ∈ G := mG 81 (by decide +kernel) rfl
theorem hi_10 : Cond.initialized (clN 10) ∈ G := mG 87 (by decide +kernel) rfl
theorem hi_11 : Cond.initialized (clN 11) ∈ G := mG 80 (by decide +kernel) rfl
theorem hi_12 : Cond.initialized (clN 12) ∈ G := mG 92 (by decide +kernel) rfl
theorem hi_13 : Cond.initialized (clN 13) ∈ G := mG 98 (by decide +kernel) rfl
theorem hi_14 : Cond.initialized (clN 14) ∈ G := mG 99 (by decide +kernel) rfl
/-- what the tables say of a method -/
def hdOk (h : Hd) : Prop := Cond.code h.2.1 h.2.2.1 h.2.2.2.1 h.2.2.2.2.1 ∈ G ∧ Cond.initialized h.2.1.cls ∈ G ∧ h.2.1.cls = clN h.1 ∧ plainName h.2.1.cls = true ∧ (h.2.1.cls ≠ "java/lang/invoke/MethodHandle" ∧ h.2.1.cls ≠ "java/lang/invoke/VarHandle" ∧ (parseMethodDescriptor h.2.1.desc).map (fun d => d.parameters.length) = some h.2.2.2.2.2.2.2.2) ∧ ((h.2.2.2.2.2.2.2.1 = 0 ∧ Cond.static h.2.1 ∈ G) ∨ (¬ h.2.2.2.2.2.2.2.1 = 0 ∧ Cond.instanceMethod h.2.1 ∈ G ∧ Cond.selects h.2.1.cls h.2.1 h.2.1 ∈ G))
set_option maxRecDepth 20000 in
theorem ho_0 : hdOk H_Book_copy := ⟨mG 1242 rfl rfl, hi_0, rfl, hn_0, ⟨hk_0.1, hk_0.2, by decide +kernel⟩, Or.inr ⟨by decide, mG 1240 (by decide +kernel) rfl, mG 1241 (by decide +kernel) rfl⟩⟩
set_option maxRecDepth 20000 in
theorem ho_1 : hdOk H_Book_leaveLand := ⟨mG 728 rfl rfl, hi_0, rfl, hn_0, ⟨hk_0.1, hk_0.2, by decide +kernel⟩, Or.inr ⟨by decide, mG 726 (by decide +kernel) rfl, mG 727 (by decide +kernel) rfl⟩⟩
set_option maxRecDepth 20000 in
theorem ho_2 : hdOk H_Book_addScratch := ⟨mG 1102 rfl rfl, hi_0, rfl, hn_0, ⟨hk_0.1, hk_0.2, by decide +kernel⟩, Or.inr ⟨by decide, mG 1100 (by decide +kernel) rfl, mG 1101 (by decide +kernel) rfl⟩⟩
set_option maxRecDepth 20000 in
theorem ho_3 : hdOk H_Book_scratchedSigns := ⟨mG 1110 rfl rfl, hi_0, rfl, hn_0, ⟨hk_0.1, hk_0.2, by decide +kernel⟩, Or.inr ⟨by decide, mG 1108 (by decide +kernel) rfl, mG 1109 (by decide +kernel) rfl⟩⟩
set_option maxRecDepth 20000 in
theorem ho_4 : hdOk H_Book_unlike := ⟨mG 1115 rfl rfl, hi_0, rfl, hn_0, ⟨hk_0.1, hk_0.2, by decide +kernel⟩, Or.inr ⟨by decide, mG 1113 (by decide +kernel) rfl, mG 1114 (by decide +kernel) rfl⟩⟩
set_option maxRecDepth 20000 in
theorem ho_5 : hdOk H_Book_draw := ⟨mG 1207 rfl rfl, hi_0, rfl, hn_0, ⟨hk_0.1, hk_0.2, by decide +kernel⟩, Or.inr ⟨by decide, mG 1205 (by decide +kernel) rfl, mG 1206 (by decide +kernel) rfl⟩⟩
set_option maxRecDepth 20000 in
theorem ho_6 : hdOk H_Book_addNight := ⟨mG 1213 rfl rfl, hi_0, rfl, hn_0, ⟨hk_0.1, hk_0.2, by decide +kernel⟩, Or.inr ⟨by decide, mG 1211 (by decide +kernel) rfl, mG 1212 (by decide +kernel) rfl⟩⟩
set_option maxRecDepth 20000 in
theorem ho_7 : hdOk H_Book_dropNight := ⟨mG 1234 rfl rfl, hi_0, rfl, hn_0, ⟨hk_0.1, hk_0.2, by decide +kernel⟩, Or.inr ⟨by decide, mG 1232 (by decide +kernel) rfl, mG 1233 (by decide +kernel) rfl⟩⟩
set_option maxRecDepth 20000 in
theorem ho_8 : hdOk H_Book_countOpened := ⟨mG 1254 rfl rfl, hi_0, rfl, hn_0, ⟨hk_0.1, hk_0.2, by decide +kernel⟩, Or.inr ⟨by decide, mG 1252 (by decide +kernel) rfl, mG 1253 (by decide +kernel) rfl⟩⟩
set_option maxRecDepth 20000 in
theorem ho_9 : hdOk H_Duel_fill := ⟨mG 995 rfl rfl, hi_1, rfl, hn_1, ⟨hk_1.1, hk_1.2, by decide +kernel⟩, Or.inr ⟨by decide, mG 993 (by decide +kernel) rfl, mG 994 (by decide +kernel) rfl⟩⟩
set_option maxRecDepth 20000 in
theorem ho_10 : hdOk H_Duel_mostOpen := ⟨mG 1025 rfl rfl, hi_1, rfl, hn_1, ⟨hk_1.1, hk_1.2, by decide +kernel⟩, Or.inr ⟨by decide, mG 1023 (by decide +kernel) rfl, mG 1024 (by decide +kernel) rfl⟩⟩
set_option maxRecDepth 20000 in
theorem ho_11 : hdOk H_Duel_codeOf := ⟨mG 1029 rfl rfl, hi_1, rfl, hn_1, ⟨hk_1.1, hk_1.2, by decide +kernel⟩, Or.inr ⟨by decide, mG 1027 (by decide +kernel) rfl, mG 1028 (by decide +kernel) rfl⟩⟩
set_option maxRecDepth 20000 in
theorem ho_12 : hdOk H_Duel_countOpenIn := ⟨mG 1037 rfl rfl, hi_1, rfl, hn_1, ⟨hk_1.1, hk_1.2, by decide +kernel⟩, Or.inr ⟨by decide, mG 1035 (by decide +kernel) rfl, mG 1036 (by decide +kernel) rfl⟩⟩
set_option maxRecDepth 20000 in
theorem ho_13 : hdOk H_Duel_findRest := ⟨mG 1076 rfl rfl, hi_1, rfl, hn_1, ⟨hk_1.1, hk_1.2, by decide +kernel⟩, Or.inr ⟨by decide, mG 1074 (by decide +kernel) rfl, mG 1075 (by decide +kernel) rfl⟩⟩
set_option maxRecDepth 20000 in
theorem ho_14 : hdOk H_Duel_addSpan := ⟨mG 972 rfl rfl, hi_1, rfl, hn_1, ⟨hk_1.1, hk_1.2, by decide +kernel⟩, Or.inl ⟨rfl, mG 971 (by decide +kernel) rfl⟩⟩
set_option maxRecDepth 20000 in
theorem ho_15 : hdOk H_Duel_findMosts := ⟨mG 1080 rfl rfl, hi_1, rfl, hn_1, ⟨hk_1.1, hk_1.2, by decide +kernel⟩, Or.inr ⟨by decide, mG 1079 (by decide +kernel) rfl, mG 35 (by decide +kernel) rfl⟩⟩
set_option maxRecDepth 20000 in
theorem ho_16 : hdOk H_Duel_gainOfOne := ⟨mG 1084 rfl rfl, hi_1, rfl, hn_1, ⟨hk_1.1, hk_1.2, by decide +kernel⟩, Or.inr ⟨by decide, mG 1083 (by decide +kernel) rfl, mG 36 (by decide +kernel) rfl⟩⟩
set_option maxRecDepth 20000 in
theorem ho_17 : hdOk H_Duel_gainOfOther := ⟨mG 1089 rfl rfl, hi_1, rfl, hn_1, ⟨hk_1.1, hk_1.2, by decide +kernel⟩, Or.inr ⟨by decide, mG 1088 (by decide +kernel) rfl, mG 37 (by decide +kernel) rfl⟩⟩
set_option maxRecDepth 20000 in
theorem ho_18 : hdOk H_Duel_tryPlan := ⟨mG 1002 rfl rfl, hi_1, rfl, hn_1, ⟨hk_1.1, hk_1.2, by decide +kernel⟩, Or.inr ⟨by decide, mG 1001 (by decide +kernel) rfl, mG 32 (by decide +kernel) rfl⟩⟩
set_option maxRecDepth 20000 in
theorem ho_19 : hdOk H_Duel_findFirst := ⟨mG 1014 rfl rfl, hi_1, rfl, hn_1, ⟨hk_1.1, hk_1.2, by decide +kernel⟩, Or.inr ⟨by decide, mG 1013 (by decide +kernel) rfl, mG 33 (by decide +kernel) rfl⟩⟩
set_option maxRecDepth 20000 in
theorem ho_20 : hdOk H_Duel_addWay := ⟨mG 1018 rfl rfl, hi_1, rfl, hn_1, ⟨hk_1.1, hk_1.2, by decide +kernel⟩, Or.inr ⟨by decide, mG 1017 (by decide +kernel) rfl, mG 34 (by decide +kernel) rfl⟩⟩
set_option maxRecDepth 20000 in
theorem ho_21 : hdOk H_Land_clear := ⟨mG 621 rfl rfl, hi_2, rfl, hn_2, ⟨hk_2.1, hk_2.2, by decide +kernel⟩, Or.inr ⟨by decide, mG 619 (by decide +kernel) rfl, mG 620 (by decide +kernel) rfl⟩⟩
set_option maxRecDepth 20000 in
theorem ho_22 : hdOk H_Land_copy := ⟨mG 721 rfl rfl, hi_2, rfl, hn_2, ⟨hk_2.1, hk_2.2, by decide +kernel⟩, Or.inr ⟨by decide, mG 719 (by decide +kernel) rfl, mG 720 (by decide +kernel) rfl⟩⟩
set_option maxRecDepth 20000 in
theorem ho_23 : hdOk H_Land_isFull := ⟨mG 639 rfl rfl, hi_2, rfl, hn_2, ⟨hk_2.1, hk_2.2, by decide +kernel⟩, Or.inr ⟨by decide, mG 637 (by decide +kernel) rfl, mG 638 (by decide +kernel) rfl⟩⟩
set_option maxRecDepth 20000 in
theorem ho_24 : hdOk H_Land_take := ⟨mG 679 rfl rfl, hi_2, rfl, hn_2, ⟨hk_2.1, hk_2.2, by decide +kernel⟩, Or.inr ⟨by decide, mG 677 (by decide +kernel) rfl, mG 678 (by decide +kernel) rfl⟩⟩
set_option maxRecDepth 20000 in
theorem ho_25 : hdOk H_Land_isWhole := ⟨mG 684 rfl rfl, hi_2, rfl, hn_2, ⟨hk_2.1, hk_2.2, by decide +kernel⟩, Or.inr ⟨by decide, mG 682 (by decide +kernel) rfl, mG 683 (by decide +kernel) rfl⟩⟩
set_option maxRecDepth 20000 in
theorem ho_26 : hdOk H_Land_allWays := ⟨mG 881 rfl rfl, hi_2, rfl, hn_2, ⟨hk_2.1, hk_2.2, by decide +kernel⟩, Or.inr ⟨by decide, mG 879 (by decide +kernel) rfl, mG 880 (by decide +kernel) rfl⟩⟩
set_option maxRecDepth 20000 in
theorem ho_27 : hdOk H_Land_heardBy := ⟨mG 807 rfl rfl, hi_2, rfl, hn_2, ⟨hk_2.1, hk_2.2, by decide +kernel⟩, Or.inr ⟨by decide, mG 805 (by decide +kernel) rfl, mG 806 (by decide +kernel) rfl⟩⟩
set_option maxRecDepth 20000 in
theorem ho_28 : hdOk H_Land_makeDeaf := ⟨mG 1187 rfl rfl, hi_2, rfl, hn_2, ⟨hk_2.1, hk_2.2, by decide +kernel⟩, Or.inr ⟨by decide, mG 1185 (by decide +kernel) rfl, mG 1186 (by decide +kernel) rfl⟩⟩
set_option maxRecDepth 20000 in
theorem ho_29 : hdOk H_Land_countAhead := ⟨mG 1179 rfl rfl, hi_2, rfl, hn_2, ⟨hk_2.1, hk_2.2, by decide +kernel⟩, Or.inr ⟨by decide, mG 1177 (by decide +kernel) rfl, mG 1178 (by decide +kernel) rfl⟩⟩
set_option maxRecDepth 20000 in
theorem ho_30 : hdOk H_Land_timeOf := ⟨mG 816 rfl rfl, hi_2, rfl, hn_2, ⟨hk_2.1, hk_2.2, by decide +kernel⟩, Or.inr ⟨by decide, mG 814 (by decide +kernel) rfl, mG 815 (by decide +kernel) rfl⟩⟩
set_option maxRecDepth 20000 in
theorem ho_31 : hdOk H_Land_gainOf := ⟨mG 1068 rfl rfl, hi_2, rfl, hn_2, ⟨hk_2.1, hk_2.2, by decide +kernel⟩, Or.inr ⟨by decide, mG 1066 (by decide +kernel) rfl, mG 1067 (by decide +kernel) rfl⟩⟩
set_option maxRecDepth 20000 in
theorem ho_32 : hdOk H_LandReader_read := ⟨mG 613 rfl rfl, hi_3, rfl, hn_3, ⟨hk_3.1, hk_3.2, by decide +kernel⟩, Or.inr ⟨by decide, mG 611 (by decide +kernel) rfl, mG 612 (by decide +kernel) rfl⟩⟩
set_option maxRecDepth 20000 in
theorem ho_33 : hdOk H_LandReader_readClause := ⟨mG 628 rfl rfl, hi_3, rfl, hn_3, ⟨hk_3.1, hk_3.2, by decide +kernel⟩, Or.inr ⟨by decide, mG 627 (by decide +kernel) rfl, mG 0 (by decide +kernel) rfl⟩⟩
set_option maxRecDepth 20000 in
theorem ho_34 : hdOk H_LandReader_isClauseOver := ⟨mG 652 rfl rfl, hi_3, rfl, hn_3, ⟨hk_3.1, hk_3.2, by decide +kernel⟩, Or.inr ⟨by decide, mG 651 (by decide +kernel) rfl, mG 1 (by decide +kernel) rfl⟩⟩
set_option maxRecDepth 20000 in
theorem ho_35 : hdOk H_LandReader_readItem := ⟨mG 656 rfl rfl, hi_3, rfl, hn_3, ⟨hk_3.1, hk_3.2, by decide +kernel⟩, Or.inr ⟨by decide, mG 655 (by decide +kernel) rfl, mG 2 (by decide +kernel) rfl⟩⟩
set_option maxRecDepth 20000 in
theorem ho_36 : hdOk H_LandReader_kindOf := ⟨mG 635 rfl rfl, hi_3, rfl, hn_3, ⟨hk_3.1, hk_3.2, by decide +kernel⟩, Or.inl ⟨rfl, mG 634 (by decide +kernel) rfl⟩⟩
set_option maxRecDepth 20000 in
theorem ho_37 : hdOk H_LandReader_itemOf := ⟨mG 659 rfl rfl, hi_3, rfl, hn_3, ⟨hk_3.1, hk_3.2, by decide +kernel⟩, Or.inl ⟨rfl, mG 658 (by decide +kernel) rfl⟩⟩
set_option maxRecDepth 20000 in
theorem ho_38 : hdOk H_PlanReader_read := ⟨mG 688 rfl rfl, hi_4, rfl, hn_4, ⟨hk_4.1, hk_4.2, by decide +kernel⟩, Or.inr ⟨by decide, mG 686 (by decide +kernel) rfl, mG 687 (by decide +kernel) rfl⟩⟩
set_option maxRecDepth 20000 in
theorem ho_39 : hdOk H_PlanReader_readUnit := ⟨mG 695 rfl rfl, hi_4, rfl, hn_4, ⟨hk_4.1, hk_4.2, by decide +kernel⟩, Or.inr ⟨by decide, mG 694 (by decide +kernel) rfl, mG 4 (by decide +kernel) rfl⟩⟩
set_option maxRecDepth 20000 in
theorem ho_40 : hdOk H_PlanReader_readLetter := ⟨mG 703 rfl rfl, hi_4, rfl, hn_4, ⟨hk_4.1, hk_4.2, by decide +kernel⟩, Or.inr ⟨by decide, mG 702 (by decide +kernel) rfl, mG 6 (by decide +kernel) rfl⟩⟩
set_option maxRecDepth 20000 in
theorem ho_41 : hdOk H_PlanReader_readBehindUnit := ⟨mG 709 rfl rfl, hi_4, rfl, hn_4, ⟨hk_4.1, hk_4.2, by decide +kernel⟩, Or.inr ⟨by decide, mG 708 (by decide +kernel) rfl, mG 7 (by decide +kernel) rfl⟩⟩
set_option maxRecDepth 20000 in
theorem ho_42 : hdOk H_PlanReader_write := ⟨mG 699 rfl rfl, hi_4, rfl, hn_4, ⟨hk_4.1, hk_4.2, by decide +kernel⟩, Or.inr ⟨by decide, mG 698 (by decide +kernel) rfl, mG 5 (by decide +kernel) rfl⟩⟩
set_option maxRecDepth 20000 in
theorem ho_43 : hdOk H_Plans_add := ⟨mG 740 rfl rfl, hi_5, rfl, hn_5, ⟨hk_5.1, hk_5.2, by decide +kernel⟩, Or.inr ⟨by decide, mG 738 (by decide +kernel) rfl, mG 739 (by decide +kernel) rfl⟩⟩
set_option maxRecDepth 20000 in
theorem ho_44 : hdOk H_Plans_lettersOf := ⟨mG 803 rfl rfl, hi_5, rfl, hn_5, ⟨hk_5.1, hk_5.2, by decide +kernel⟩, Or.inr ⟨by decide, mG 801 (by decide +kernel) rfl, mG 802 (by decide +kernel) rfl⟩⟩
set_option maxRecDepth 20000 in
theorem ho_45 : hdOk H_Plans_turnOf := ⟨mG 821 rfl rfl, hi_5, rfl, hn_5, ⟨hk_5.1, hk_5.2, by decide +kernel⟩, Or.inr ⟨by decide, mG 819 (by decide +kernel) rfl, mG 820 (by decide +kernel) rfl⟩⟩
set_option maxRecDepth 20000 in
theorem ho_46 : hdOk H_Plans_openLevel := ⟨mG 826 rfl rfl, hi_5, rfl, hn_5, ⟨hk_5.1, hk_5.2, by decide +kernel⟩, Or.inr ⟨by decide, mG 825 (by decide +kernel) rfl, mG 19 (by decide +kernel) rfl⟩⟩
set_option maxRecDepth 20000 in
theorem ho_47 : hdOk H_Row_gather := ⟨mG 847 rfl rfl, hi_6, rfl, hn_6, ⟨hk_6.1, hk_6.2, by decide +kernel⟩, Or.inr ⟨by decide, mG 845 (by decide +kernel) rfl, mG 846 (by decide +kernel) rfl⟩⟩
set_option maxRecDepth 20000 in
theorem ho_48 : hdOk H_Row_copy := ⟨mG 1008 rfl rfl, hi_6, rfl, hn_6, ⟨hk_6.1, hk_6.2, by decide +kernel⟩, Or.inr ⟨by decide, mG 1006 (by decide +kernel) rfl, mG 1007 (by decide +kernel) rfl⟩⟩
set_option maxRecDepth 20000 in
theorem ho_49 : hdOk H_Row_put := ⟨mG 851 rfl rfl, hi_6, rfl, hn_6, ⟨hk_6.1, hk_6.2, by decide +kernel⟩, Or.inr ⟨by decide, mG 849 (by decide +kernel) rfl, mG 850 (by decide +kernel) rfl⟩⟩
set_option maxRecDepth 20000 in
theorem ho_50 : hdOk H_Row_spread := ⟨mG 856 rfl rfl, hi_6, rfl, hn_6, ⟨hk_6.1, hk_6.2, by decide +kernel⟩, Or.inr ⟨by decide, mG 854 (by decide +kernel) rfl, mG 855 (by decide +kernel) rfl⟩⟩
set_option maxRecDepth 20000 in
theorem ho_51 : hdOk H_Row_momentOf := ⟨mG 865 rfl rfl, hi_6, rfl, hn_6, ⟨hk_6.1, hk_6.2, by decide +kernel⟩, Or.inr ⟨by decide, mG 863 (by decide +kernel) rfl, mG 864 (by decide +kernel) rfl⟩⟩
set_option maxRecDepth 20000 in
theorem ho_52 : hdOk H_Row_findSpans := ⟨mG 953 rfl rfl, hi_6, rfl, hn_6, ⟨hk_6.1, hk_6.2, by decide +kernel⟩, Or.inr ⟨by decide, mG 951 (by decide +kernel) rfl, mG 952 (by decide +kernel) rfl⟩⟩
set_option maxRecDepth 20000 in
theorem ho_53 : hdOk H_Row_addSpan := ⟨mG 960 rfl rfl, hi_6, rfl, hn_6, ⟨hk_6.1, hk_6.2, by decide +kernel⟩, Or.inr ⟨by decide, mG 959 (by decide +kernel) rfl, mG 28 (by decide +kernel) rfl⟩⟩
set_option maxRecDepth 20000 in
theorem ho_54 : hdOk H_Solo_trySimple := ⟨mG 938 rfl rfl, hi_7, rfl, hn_7, ⟨hk_7.1, hk_7.2, by decide +kernel⟩, Or.inr ⟨by decide, mG 936 (by decide +kernel) rfl, mG 937 (by decide +kernel) rfl⟩⟩
set_option maxRecDepth 20000 in
theorem ho_55 : hdOk H_Solo_tryWaiting := ⟨mG 1060 rfl rfl, hi_7, rfl, hn_7, ⟨hk_7.1, hk_7.2, by decide +kernel⟩, Or.inr ⟨by decide, mG 1058 (by decide +kernel) rfl, mG 1059 (by decide +kernel) rfl⟩⟩
set_option maxRecDepth 20000 in
theorem ho_56 : hdOk H_Solo_answer := ⟨mG 979 rfl rfl, hi_7, rfl, hn_7, ⟨hk_7.1, hk_7.2, by decide +kernel⟩, Or.inr ⟨by decide, mG 977 (by decide +kernel) rfl, mG 978 (by decide +kernel) rfl⟩⟩
set_option maxRecDepth 20000 in
theorem ho_57 : hdOk H_Solo_clear := ⟨mG 942 rfl rfl, hi_7, rfl, hn_7, ⟨hk_7.1, hk_7.2, by decide +kernel⟩, Or.inr ⟨by decide, mG 941 (by decide +kernel) rfl, mG 26 (by decide +kernel) rfl⟩⟩
set_option maxRecDepth 20000 in
theorem ho_58 : hdOk H_Solo_findSpans := ⟨mG 948 rfl rfl, hi_7, rfl, hn_7, ⟨hk_7.1, hk_7.2, by decide +kernel⟩, Or.inr ⟨by decide, mG 947 (by decide +kernel) rfl, mG 27 (by decide +kernel) rfl⟩⟩
set_option maxRecDepth 20000 in
theorem ho_59 : hdOk H_Solo_addOpen := ⟨mG 969 rfl rfl, hi_7, rfl, hn_7, ⟨hk_7.1, hk_7.2, by decide +kernel⟩, Or.inr ⟨by decide, mG 968 (by decide +kernel) rfl, mG 29 (by decide +kernel) rfl⟩⟩
set_option maxRecDepth 20000 in
theorem ho_60 : hdOk H_Survey_take := ⟨mG 785 rfl rfl, hi_8, rfl, hn_8, ⟨hk_8.1, hk_8.2, by decide +kernel⟩, Or.inr ⟨by decide, mG 783 (by decide +kernel) rfl, mG 784 (by decide +kernel) rfl⟩⟩
set_option maxRecDepth 20000 in
theorem ho_61 : hdOk H_Survey_openSets := ⟨mG 1139 rfl rfl, hi_8, rfl, hn_8, ⟨hk_8.1, hk_8.2, by decide +kernel⟩, Or.inr ⟨by decide, mG 1137 (by decide +kernel) rfl, mG 1138 (by decide +kernel) rfl⟩⟩
set_option maxRecDepth 20000 in
theorem ho_62 : hdOk H_Survey_clear := ⟨mG 789 rfl rfl, hi_8, rfl, hn_8, ⟨hk_8.1, hk_8.2, by decide +kernel⟩, Or.inr ⟨by decide, mG 788 (by decide +kernel) rfl, mG 16 (by decide +kernel) rfl⟩⟩
set_option maxRecDepth 20000 in
theorem ho_63 : hdOk H_Survey_seeTurns := ⟨mG 841 rfl rfl, hi_8, rfl, hn_8, ⟨hk_8.1, hk_8.2, by decide +kernel⟩, Or.inr ⟨by decide, mG 840 (by decide +kernel) rfl, mG 21 (by decide +kernel) rfl⟩⟩
set_option maxRecDepth 20000 in
theorem ho_64 : hdOk H_Survey_seeSpread := ⟨mG 861 rfl rfl, hi_8, rfl, hn_8, ⟨hk_8.1, hk_8.2, by decide +kernel⟩, Or.inr ⟨by decide, mG 860 (by decide +kernel) rfl, mG 22 (by decide +kernel) rfl⟩⟩
set_option maxRecDepth 20000 in
theorem ho_65 : hdOk H_Survey_seeMoment := ⟨mG 869 rfl rfl, hi_8, rfl, hn_8, ⟨hk_8.1, hk_8.2, by decide +kernel⟩, Or.inr ⟨by decide, mG 868 (by decide +kernel) rfl, mG 23 (by decide +kernel) rfl⟩⟩
set_option maxRecDepth 20000 in
theorem ho_66 : hdOk H_Survey_seeFirst := ⟨mG 873 rfl rfl, hi_8, rfl, hn_8, ⟨hk_8.1, hk_8.2, by decide +kernel⟩, Or.inr ⟨by decide, mG 872 (by decide +kernel) rfl, mG 24 (by decide +kernel) rfl⟩⟩
set_option maxRecDepth 20000 in
theorem ho_67 : hdOk H_Tape_filled := ⟨mG 597 rfl rfl, hi_9, rfl, hn_9, ⟨hk_9.1, hk_9.2, by decide +kernel⟩, Or.inl ⟨rfl, mG 596 (by decide +kernel) rfl⟩⟩
set_option maxRecDepth 20000 in
theorem ho_68 : hdOk H_Tape_add := ⟨mG 601 rfl rfl, hi_9, rfl, hn_9, ⟨hk_9.1, hk_9.2, by decide +kernel⟩, Or.inr ⟨by decide, mG 599 (by decide +kernel) rfl, mG 600 (by decide +kernel) rfl⟩⟩
set_option maxRecDepth 20000 in
theorem ho_69 : hdOk H_Tape_rewind := ⟨mG 617 rfl rfl, hi_9, rfl, hn_9, ⟨hk_9.1, hk_9.2, by decide +kernel⟩, Or.inr ⟨by decide, mG 615 (by decide +kernel) rfl, mG 616 (by decide +kernel) rfl⟩⟩
set_option maxRecDepth 20000 in
theorem ho_70 : hdOk H_Tape_fail := ⟨mG 643 rfl rfl, hi_9, rfl, hn_9, ⟨hk_9.1, hk_9.2, by decide +kernel⟩, Or.inr ⟨by decide, mG 641 (by decide +kernel) rfl, mG 642 (by decide +kernel) rfl⟩⟩
set_option maxRecDepth 20000 in
theorem ho_71 : hdOk H_Tape_isFine := ⟨mG 648 rfl rfl, hi_9, rfl, hn_9, ⟨hk_9.1, hk_9.2, by decide +kernel⟩, Or.inr ⟨by decide, mG 646 (by decide +kernel) rfl, mG 647 (by decide +kernel) rfl⟩⟩
set_option maxRecDepth 20000 in
theorem ho_72 : hdOk H_Tape_next := ⟨mG 632 rfl rfl, hi_9, rfl, hn_9, ⟨hk_9.1, hk_9.2, by decide +kernel⟩, Or.inr ⟨by decide, mG 630 (by decide +kernel) rfl, mG 631 (by decide +kernel) rfl⟩⟩
set_option maxRecDepth 20000 in
theorem ho_73 : hdOk H_Tape_number := ⟨mG 669 rfl rfl, hi_9, rfl, hn_9, ⟨hk_9.1, hk_9.2, by decide +kernel⟩, Or.inr ⟨by decide, mG 667 (by decide +kernel) rfl, mG 668 (by decide +kernel) rfl⟩⟩
set_option maxRecDepth 20000 in
theorem ho_74 : hdOk H_Tape_isDigitAt := ⟨mG 674 rfl rfl, hi_9, rfl, hn_9, ⟨hk_9.1, hk_9.2, by decide +kernel⟩, Or.inr ⟨by decide, mG 673 (by decide +kernel) rfl, mG 3 (by decide +kernel) rfl⟩⟩
set_option maxRecDepth 20000 in
theorem ho_75 : hdOk H_Walk_place := ⟨mG 904 rfl rfl, hi_10, rfl, hn_10, ⟨hk_10.1, hk_10.2, by decide +kernel⟩, Or.inr ⟨by decide, mG 902 (by decide +kernel) rfl, mG 903 (by decide +kernel) rfl⟩⟩
set_option maxRecDepth 20000 in
theorem ho_76 : hdOk H_Walk_start := ⟨mG 795 rfl rfl, hi_10, rfl, hn_10, ⟨hk_10.1, hk_10.2, by decide +kernel⟩, Or.inr ⟨by decide, mG 793 (by decide +kernel) rfl, mG 794 (by decide +kernel) rfl⟩⟩
set_option maxRecDepth 20000 in
theorem ho_77 : hdOk H_Walk_step := ⟨mG 877 rfl rfl, hi_10, rfl, hn_10, ⟨hk_10.1, hk_10.2, by decide +kernel⟩, Or.inr ⟨by decide, mG 875 (by decide +kernel) rfl, mG 876 (by decide +kernel) rfl⟩⟩
set_option maxRecDepth 20000 in
theorem ho_78 : hdOk H_Walk_isOpen := ⟨mG 916 rfl rfl, hi_10, rfl, hn_10, ⟨hk_10.1, hk_10.2, by decide +kernel⟩, Or.inr ⟨by decide, mG 914 (by decide +kernel) rfl, mG 915 (by decide +kernel) rfl⟩⟩
set_option maxRecDepth 20000 in
theorem ho_79 : hdOk H_Walk_isOpenBy := ⟨mG 1143 rfl rfl, hi_10, rfl, hn_10, ⟨hk_10.1, hk_10.2, by decide +kernel⟩, Or.inr ⟨by decide, mG 1141 (by decide +kernel) rfl, mG 1142 (by decide +kernel) rfl⟩⟩
set_option maxRecDepth 20000 in
theorem ho_80 : hdOk H_Walk_tally := ⟨mG 1045 rfl rfl, hi_10, rfl, hn_10, ⟨hk_10.1, hk_10.2, by decide +kernel⟩, Or.inr ⟨by decide, mG 1043 (by decide +kernel) rfl, mG 1044 (by decide +kernel) rfl⟩⟩
set_option maxRecDepth 20000 in
theorem ho_81 : hdOk H_Walk_hearing := ⟨mG 965 rfl rfl, hi_10, rfl, hn_10, ⟨hk_10.1, hk_10.2, by decide +kernel⟩, Or.inr ⟨by decide, mG 963 (by decide +kernel) rfl, mG 964 (by decide +kernel) rfl⟩⟩
set_option maxRecDepth 20000 in
theorem ho_82 : hdOk H_Walk_offBits := ⟨mG 1120 rfl rfl, hi_10, rfl, hn_10, ⟨hk_10.1, hk_10.2, by decide +kernel⟩, Or.inr ⟨by decide, mG 1118 (by decide +kernel) rfl, mG 1119 (by decide +kernel) rfl⟩⟩
set_option maxRecDepth 20000 in
theorem ho_83 : hdOk H_Walk_enter := ⟨mG 799 rfl rfl, hi_10, rfl, hn_10, ⟨hk_10.1, hk_10.2, by decide +kernel⟩, Or.inr ⟨by decide, mG 798 (by decide +kernel) rfl, mG 17 (by decide +kernel) rfl⟩⟩
set_option maxRecDepth 20000 in
theorem ho_84 : hdOk H_Walk_neededSigns := ⟨mG 837 rfl rfl, hi_10, rfl, hn_10, ⟨hk_10.1, hk_10.2, by decide +kernel⟩, Or.inr ⟨by decide, mG 836 (by decide +kernel) rfl, mG 20 (by decide +kernel) rfl⟩⟩
set_option maxRecDepth 20000 in
theorem ho_85 : hdOk H_Walk_settle := ⟨mG 812 rfl rfl, hi_10, rfl, hn_10, ⟨hk_10.1, hk_10.2, by decide +kernel⟩, Or.inr ⟨by decide, mG 811 (by decide +kernel) rfl, mG 18 (by decide +kernel) rfl⟩⟩
set_option maxRecDepth 20000 in
theorem ho_86 : hdOk H_X_feed := ⟨mG 594 rfl rfl, hi_11, rfl, hn_11, ⟨hk_11.1, hk_11.2, by decide +kernel⟩, Or.inr ⟨by decide, mG 592 (by decide +kernel) rfl, mG 593 (by decide +kernel) rfl⟩⟩
set_option maxRecDepth 20000 in
theorem ho_87 : hdOk H_X_end := ⟨mG 605 rfl rfl, hi_11, rfl, hn_11, ⟨hk_11.1, hk_11.2, by decide +kernel⟩, Or.inr ⟨by decide, mG 603 (by decide +kernel) rfl, mG 604 (by decide +kernel) rfl⟩⟩
set_option maxRecDepth 20000 in
theorem ho_88 : hdOk H_X_fault := ⟨mG 609 rfl rfl, hi_11, rfl, hn_11, ⟨hk_11.1, hk_11.2, by decide +kernel⟩, Or.inr ⟨by decide, mG 607 (by decide +kernel) rfl, mG 608 (by decide +kernel) rfl⟩⟩
set_option maxRecDepth 20000 in
theorem ho_89 : hdOk H_X_text := ⟨mG 713 rfl rfl, hi_11, rfl, hn_11, ⟨hk_11.1, hk_11.2, by decide +kernel⟩, Or.inr ⟨by decide, mG 711 (by decide +kernel) rfl, mG 712 (by decide +kernel) rfl⟩⟩
set_option maxRecDepth 20000 in
theorem ho_90 : hdOk H_X_guard := ⟨mG 745 rfl rfl, hi_11, rfl, hn_11, ⟨hk_11.1, hk_11.2, by decide +kernel⟩, Or.inr ⟨by decide, mG 743 (by decide +kernel) rfl, mG 744 (by decide +kernel) rfl⟩⟩
set_option maxRecDepth 20000 in
theorem ho_91 : hdOk H_X_hears := ⟨mG 753 rfl rfl, hi_11, rfl, hn_11, ⟨hk_11.1, hk_11.2, by decide +kernel⟩, Or.inr ⟨by decide, mG 751 (by decide +kernel) rfl, mG 752 (by decide +kernel) rfl⟩⟩
set_option maxRecDepth 20000 in
theorem ho_92 : hdOk H_X_plan := ⟨mG 762 rfl rfl, hi_11, rfl, hn_11, ⟨hk_11.1, hk_11.2, by decide +kernel⟩, Or.inr ⟨by decide, mG 760 (by decide +kernel) rfl, mG 761 (by decide +kernel) rfl⟩⟩
set_option maxRecDepth 20000 in
theorem ho_93 : hdOk H_X_ways := ⟨mG 770 rfl rfl, hi_11, rfl, hn_11, ⟨hk_11.1, hk_11.2, by decide +kernel⟩, Or.inr ⟨by decide, mG 768 (by decide +kernel) rfl, mG 769 (by decide +kernel) rfl⟩⟩
set_option maxRecDepth 20000 in
theorem ho_94 : hdOk H_X_odds := ⟨mG 885 rfl rfl, hi_11, rfl, hn_11, ⟨hk_11.1, hk_11.2, by decide +kernel⟩, Or.inr ⟨by decide, mG 883 (by decide +kernel) rfl, mG 884 (by decide +kernel) rfl⟩⟩
set_option maxRecDepth 20000 in
theorem ho_95 : hdOk H_X_turnsAt := ⟨mG 895 rfl rfl, hi_11, rfl, hn_11, ⟨hk_11.1, hk_11.2, by decide +kernel⟩, Or.inr ⟨by decide, mG 893 (by decide +kernel) rfl, mG 894 (by decide +kernel) rfl⟩⟩
set_option maxRecDepth 20000 in
theorem ho_96 : hdOk H_X_opens := ⟨mG 912 rfl rfl, hi_11, rfl, hn_11, ⟨hk_11.1, hk_11.2, by decide +kernel⟩, Or.inr ⟨by decide, mG 910 (by decide +kernel) rfl, mG 911 (by decide +kernel) rfl⟩⟩
set_option maxRecDepth 20000 in
theorem ho_97 : hdOk H_X_when := ⟨mG 922 rfl rfl, hi_11, rfl, hn_11, ⟨hk_11.1, hk_11.2, by decide +kernel⟩, Or.inr ⟨by decide, mG 920 (by decide +kernel) rfl, mG 921 (by decide +kernel) rfl⟩⟩
set_option maxRecDepth 20000 in
theorem ho_98 : hdOk H_X_near := ⟨mG 926 rfl rfl, hi_11, rfl, hn_11, ⟨hk_11.1, hk_11.2, by decide +kernel⟩, Or.inr ⟨by decide, mG 924 (by decide +kernel) rfl, mG 925 (by decide +kernel) rfl⟩⟩
set_option maxRecDepth 20000 in
theorem ho_99 : hdOk H_X_enough := ⟨mG 930 rfl rfl, hi_11, rfl, hn_11, ⟨hk_11.1, hk_11.2, by decide +kernel⟩, Or.inr ⟨by decide, mG 928 (by decide +kernel) rfl, mG 929 (by decide +kernel) rfl⟩⟩
set_option maxRecDepth 20000 in
theorem ho_100 : hdOk H_X_best := ⟨mG 934 rfl rfl, hi_11, rfl, hn_11, ⟨hk_11.1, hk_11.2, by decide +kernel⟩, Or.inr ⟨by decide, mG 932 (by decide +kernel) rfl, mG 933 (by decide +kernel) rfl⟩⟩
set_option maxRecDepth 20000 in
theorem ho_101 : hdOk H_X_pair := ⟨mG 983 rfl rfl, hi_11, rfl, hn_11, ⟨hk_11.1, hk_11.2, by decide +kernel⟩, Or.inr ⟨by decide, mG 981 (by decide +kernel) rfl, mG 982 (by decide +kernel) rfl⟩⟩
set_option maxRecDepth 20000 in
theorem ho_102 : hdOk H_X_sure := ⟨mG 1033 rfl rfl, hi_11, rfl, hn_11, ⟨hk_11.1, hk_11.2, by decide +kernel⟩, Or.inr ⟨by decide, mG 1031 (by decide +kernel) rfl, mG 1032 (by decide +kernel) rfl⟩⟩
set_option maxRecDepth 20000 in
theorem ho_103 : hdOk H_X_idle := ⟨mG 1041 rfl rfl, hi_11, rfl, hn_11, ⟨hk_11.1, hk_11.2, by decide +kernel⟩, Or.inr ⟨by decide, mG 1039 (by decide +kernel) rfl, mG 1040 (by decide +kernel) rfl⟩⟩
set_option maxRecDepth 20000 in
theorem ho_104 : hdOk H_X_shift := ⟨mG 1052 rfl rfl, hi_11, rfl, hn_11, ⟨hk_11.1, hk_11.2, by decide +kernel⟩, Or.inr ⟨by decide, mG 1050 (by decide +kernel) rfl, mG 1051 (by decide +kernel) rfl⟩⟩
set_option maxRecDepth 20000 in
theorem ho_105 : hdOk H_X_waits := ⟨mG 1056 rfl rfl, hi_11, rfl, hn_11, ⟨hk_11.1, hk_11.2, by decide +kernel⟩, Or.inr ⟨by decide, mG 1054 (by decide +kernel) rfl, mG 1055 (by decide +kernel) rfl⟩⟩
set_option maxRecDepth 20000 in
theorem ho_106 : hdOk H_X_gain := ⟨mG 1064 rfl rfl, hi_11, rfl, hn_11, ⟨hk_11.1, hk_11.2, by decide +kernel⟩, Or.inr ⟨by decide, mG 1062 (by decide +kernel) rfl, mG 1063 (by decide +kernel) rfl⟩⟩
set_option maxRecDepth 20000 in
theorem ho_107 : hdOk H_X_rest := ⟨mG 1072 rfl rfl, hi_11, rfl, hn_11, ⟨hk_11.1, hk_11.2, by decide +kernel⟩, Or.inr ⟨by decide, mG 1070 (by decide +kernel) rfl, mG 1071 (by decide +kernel) rfl⟩⟩
set_option maxRecDepth 20000 in
theorem ho_108 : hdOk H_X_thief := ⟨mG 1094 rfl rfl, hi_11, rfl, hn_11, ⟨hk_11.1, hk_11.2, by decide +kernel⟩, Or.inr ⟨by decide, mG 1092 (by decide +kernel) rfl, mG 1093 (by decide +kernel) rfl⟩⟩
set_option maxRecDepth 20000 in
theorem ho_109 : hdOk H_X_scratch := ⟨mG 1098 rfl rfl, hi_11, rfl, hn_11, ⟨hk_11.1, hk_11.2, by decide +kernel⟩, Or.inr ⟨by decide, mG 1096 (by decide +kernel) rfl, mG 1097 (by decide +kernel) rfl⟩⟩
set_option maxRecDepth 20000 in
theorem ho_110 : hdOk H_X_fits := ⟨mG 1106 rfl rfl, hi_11, rfl, hn_11, ⟨hk_11.1, hk_11.2, by decide +kernel⟩, Or.inr ⟨by decide, mG 1104 (by decide +kernel) rfl, mG 1105 (by decide +kernel) rfl⟩⟩
set_option maxRecDepth 20000 in
theorem ho_111 : hdOk H_X_lies := ⟨mG 1125 rfl rfl, hi_11, rfl, hn_11, ⟨hk_11.1, hk_11.2, by decide +kernel⟩, Or.inr ⟨by decide, mG 1123 (by decide +kernel) rfl, mG 1124 (by decide +kernel) rfl⟩⟩
set_option maxRecDepth 20000 in
theorem ho_112 : hdOk H_X_sets := ⟨mG 1135 rfl rfl, hi_11, rfl, hn_11, ⟨hk_11.1, hk_11.2, by decide +kernel⟩, Or.inr ⟨by decide, mG 1133 (by decide +kernel) rfl, mG 1134 (by decide +kernel) rfl⟩⟩
set_option maxRecDepth 20000 in
theorem ho_113 : hdOk H_X_moment := ⟨mG 1148 rfl rfl, hi_11, rfl, hn_11, ⟨hk_11.1, hk_11.2, by decide +kernel⟩, Or.inr ⟨by decide, mG 1146 (by decide +kernel) rfl, mG 1147 (by decide +kernel) rfl⟩⟩
set_option maxRecDepth 20000 in
theorem ho_114 : hdOk H_X_better := ⟨mG 1152 rfl rfl, hi_11, rfl, hn_11, ⟨hk_11.1, hk_11.2, by decide +kernel⟩, Or.inr ⟨by decide, mG 1150 (by decide +kernel) rfl, mG 1151 (by decide +kernel) rfl⟩⟩
set_option maxRecDepth 20000 in
theorem ho_115 : hdOk H_X_exact := ⟨mG 1160 rfl rfl, hi_11, rfl, hn_11, ⟨hk_11.1, hk_11.2, by decide +kernel⟩, Or.inr ⟨by decide, mG 1158 (by decide +kernel) rfl, mG 1159 (by decide +kernel) rfl⟩⟩
set_option maxRecDepth 20000 in
theorem ho_116 : hdOk H_X_lossy := ⟨mG 1164 rfl rfl, hi_11, rfl, hn_11, ⟨hk_11.1, hk_11.2, by decide +kernel⟩, Or.inr ⟨by decide, mG 1162 (by decide +kernel) rfl, mG 1163 (by decide +kernel) rfl⟩⟩
set_option maxRecDepth 20000 in
theorem ho_117 : hdOk H_X_route := ⟨mG 1175 rfl rfl, hi_11, rfl, hn_11, ⟨hk_11.1, hk_11.2, by decide +kernel⟩, Or.inr ⟨by decide, mG 1173 (by decide +kernel) rfl, mG 1174 (by decide +kernel) rfl⟩⟩
set_option maxRecDepth 20000 in
theorem ho_118 : hdOk H_X_deaf := ⟨mG 1183 rfl rfl, hi_11, rfl, hn_11, ⟨hk_11.1, hk_11.2, by decide +kernel⟩, Or.inr ⟨by decide, mG 1181 (by decide +kernel) rfl, mG 1182 (by decide +kernel) rfl⟩⟩
set_option maxRecDepth 20000 in
theorem ho_119 : hdOk H_X_helper := ⟨mG 1191 rfl rfl, hi_11, rfl, hn_11, ⟨hk_11.1, hk_11.2, by decide +kernel⟩, Or.inr ⟨by decide, mG 1189 (by decide +kernel) rfl, mG 1190 (by decide +kernel) rfl⟩⟩
set_option maxRecDepth 20000 in
theorem ho_120 : hdOk H_X_seed := ⟨mG 1199 rfl rfl, hi_11, rfl, hn_11, ⟨hk_11.1, hk_11.2, by decide +kernel⟩, Or.inr ⟨by decide, mG 1197 (by decide +kernel) rfl, mG 1198 (by decide +kernel) rfl⟩⟩
set_option maxRecDepth 20000 in
theorem ho_121 : hdOk H_X_night := ⟨mG 1203 rfl rfl, hi_11, rfl, hn_11, ⟨hk_11.1, hk_11.2, by decide +kernel⟩, Or.inr ⟨by decide, mG 1201 (by decide +kernel) rfl, mG 1202 (by decide +kernel) rfl⟩⟩
set_option maxRecDepth 20000 in
theorem ho_122 : hdOk H_X_turned := ⟨mG 1218 rfl rfl, hi_11, rfl, hn_11, ⟨hk_11.1, hk_11.2, by decide +kernel⟩, Or.inr ⟨by decide, mG 1216 (by decide +kernel) rfl, mG 1217 (by decide +kernel) rfl⟩⟩
set_option maxRecDepth 20000 in
theorem ho_123 : hdOk H_X_opened := ⟨mG 1226 rfl rfl, hi_11, rfl, hn_11, ⟨hk_11.1, hk_11.2, by decide +kernel⟩, Or.inr ⟨by decide, mG 1224 (by decide +kernel) rfl, mG 1225 (by decide +kernel) rfl⟩⟩
set_option maxRecDepth 20000 in
theorem ho_124 : hdOk H_X_undo := ⟨mG 1230 rfl rfl, hi_11, rfl, hn_11, ⟨hk_11.1, hk_11.2, by decide +kernel⟩, Or.inr ⟨by decide, mG 1228 (by decide +kernel) rfl, mG 1229 (by decide +kernel) rfl⟩⟩
set_option maxRecDepth 20000 in
theorem ho_125 : hdOk H_X_image := ⟨mG 1238 rfl rfl, hi_11, rfl, hn_11, ⟨hk_11.1, hk_11.2, by decide +kernel⟩, Or.inr ⟨by decide, mG 1236 (by decide +kernel) rfl, mG 1237 (by decide +kernel) rfl⟩⟩
set_option maxRecDepth 20000 in
theorem ho_126 : hdOk H_X_back := ⟨mG 1246 rfl rfl, hi_11, rfl, hn_11, ⟨hk_11.1, hk_11.2, by decide +kernel⟩, Or.inr ⟨by decide, mG 1244 (by decide +kernel) rfl, mG 1245 (by decide +kernel) rfl⟩⟩
set_option maxRecDepth 20000 in
theorem ho_127 : hdOk H_X_count := ⟨mG 1250 rfl rfl, hi_11, rfl, hn_11, ⟨hk_11.1, hk_11.2, by decide +kernel⟩, Or.inr ⟨by decide, mG 1248 (by decide +kernel) rfl, mG 1249 (by decide +kernel) rfl⟩⟩
set_option maxRecDepth 20000 in
theorem ho_128 : hdOk H_X_isTold := ⟨mG 774 rfl rfl, hi_11, rfl, hn_11, ⟨hk_11.1, hk_11.2, by decide +kernel⟩, Or.inr ⟨by decide, mG 773 (by decide +kernel) rfl, mG 14 (by decide +kernel) rfl⟩⟩
set_option maxRecDepth 20000 in
theorem ho_129 : hdOk H_X_isGuard := ⟨mG 749 rfl rfl, hi_11, rfl, hn_11, ⟨hk_11.1, hk_11.2, by decide +kernel⟩, Or.inr ⟨by decide, mG 748 (by decide +kernel) rfl, mG 11 (by decide +kernel) rfl⟩⟩
set_option maxRecDepth 20000 in
theorem ho_130 : hdOk H_X_isSign := ⟨mG 757 rfl rfl, hi_11, rfl, hn_11, ⟨hk_11.1, hk_11.2, by decide +kernel⟩, Or.inr ⟨by decide, mG 756 (by decide +kernel) rfl, mG 12 (by decide +kernel) rfl⟩⟩
set_option maxRecDepth 20000 in
theorem ho_131 : hdOk H_X_isPlan := ⟨mG 766 rfl rfl, hi_11, rfl, hn_11, ⟨hk_11.1, hk_11.2, by decide +kernel⟩, Or.inr ⟨by decide, mG 765 (by decide +kernel) rfl, mG 13 (by decide +kernel) rfl⟩⟩
set_option maxRecDepth 20000 in
theorem ho_132 : hdOk H_X_isNight := ⟨mG 1222 rfl rfl, hi_11, rfl, hn_11, ⟨hk_11.1, hk_11.2, by decide +kernel⟩, Or.inr ⟨by decide, mG 1221 (by decide +kernel) rfl, mG 41 (by decide +kernel) rfl⟩⟩
set_option maxRecDepth 20000 in
theorem ho_133 : hdOk H_X_isPair := ⟨mG 987 rfl rfl, hi_11, rfl, hn_11, ⟨hk_11.1, hk_11.2, by decide +kernel⟩, Or.inr ⟨by decide, mG 986 (by decide +kernel) rfl, mG 30 (by decide +kernel) rfl⟩⟩
set_option maxRecDepth 20000 in
theorem ho_134 : hdOk H_X_isWithin := ⟨mG 777 rfl rfl, hi_11, rfl, hn_11, ⟨hk_11.1, hk_11.2, by decide +kernel⟩, Or.inl ⟨rfl, mG 776 (by decide +kernel) rfl⟩⟩
set_option maxRecDepth 20000 in
theorem ho_135 : hdOk H_X_orHidden := ⟨mG 907 rfl rfl, hi_11, rfl, hn_11, ⟨hk_11.1, hk_11.2, by decide +kernel⟩, Or.inl ⟨rfl, mG 906 (by decide +kernel) rfl⟩⟩
set_option maxRecDepth 20000 in
theorem ho_136 : hdOk H_X_takeLand := ⟨mG 717 rfl rfl, hi_11, rfl, hn_11, ⟨hk_11.1, hk_11.2, by decide +kernel⟩, Or.inr ⟨by decide, mG 716 (by decide +kernel) rfl, mG 8 (by decide +kernel) rfl⟩⟩
set_option maxRecDepth 20000 in
theorem ho_137 : hdOk H_X_takePlan := ⟨mG 736 rfl rfl, hi_11, rfl, hn_11, ⟨hk_11.1, hk_11.2, by decide +kernel⟩, Or.inr ⟨by decide, mG 735 (by decide +kernel) rfl, mG 10 (by decide +kernel) rfl⟩⟩
set_option maxRecDepth 20000 in
theorem ho_138 : hdOk H_X_forgetAnswers := ⟨mG 732 rfl rfl, hi_11, rfl, hn_11, ⟨hk_11.1, hk_11.2, by decide +kernel⟩, Or.inr ⟨by decide, mG 731 (by decide +kernel) rfl, mG 9 (by decide +kernel) rfl⟩⟩
set_option maxRecDepth 20000 in
theorem ho_139 : hdOk H_X_surveyed := ⟨mG 781 rfl rfl, hi_11, rfl, hn_11, ⟨hk_11.1, hk_11.2, by decide +kernel⟩, Or.inr ⟨by decide, mG 780 (by decide +kernel) rfl, mG 15 (by decide +kernel) rfl⟩⟩
set_option maxRecDepth 20000 in
theorem ho_140 : hdOk H_X_dueled := ⟨mG 991 rfl rfl, hi_11, rfl, hn_11, ⟨hk_11.1, hk_11.2, by decide +kernel⟩, Or.inr ⟨by decide, mG 990 (by decide +kernel) rfl, mG 31 (by decide +kernel) rfl⟩⟩
set_option maxRecDepth 20000 in
theorem ho_141 : hdOk H_X_readOffs := ⟨mG 899 rfl rfl, hi_11, rfl, hn_11, ⟨hk_11.1, hk_11.2, by decide +kernel⟩, Or.inr ⟨by decide, mG 898 (by decide +kernel) rfl, mG 25 (by decide +kernel) rfl⟩⟩
set_option maxRecDepth 20000 in
theorem ho_142 : hdOk H_X_tallyWithPlan := ⟨mG 1156 rfl rfl, hi_11, rfl, hn_11, ⟨hk_11.1, hk_11.2, by decide +kernel⟩, Or.inr ⟨by decide, mG 1155 (by decide +kernel) rfl, mG 38 (by decide +kernel) rfl⟩⟩
set_option maxRecDepth 20000 in
theorem ho_143 : hdOk H_X_tallyWithHearing := ⟨mG 1195 rfl rfl, hi_11, rfl, hn_11, ⟨hk_11.1, hk_11.2, by decide +kernel⟩, Or.inr ⟨by decide, mG 1194 (by decide +kernel) rfl, mG 40 (by decide +kernel) rfl⟩⟩
set_option maxRecDepth 20000 in
theorem ho_144 : hdOk H_X_partsOfSet := ⟨mG 1169 rfl rfl, hi_11, rfl, hn_11, ⟨hk_11.1, hk_11.2, by decide +kernel⟩, Or.inr ⟨by decide, mG 1168 (by decide +kernel) rfl, mG 39 (by decide +kernel) rfl⟩⟩
set_option maxRecDepth 20000 in
theorem ho_145 : hdOk H_X_partOfFraction := ⟨mG 888 rfl rfl, hi_11, rfl, hn_11, ⟨hk_11.1, hk_11.2, by decide +kernel⟩, Or.inl ⟨rfl, mG 887 (by decide +kernel) rfl⟩⟩
set_option maxRecDepth 20000 in
theorem ho_146 : hdOk H_X_commonDivisor := ⟨mG 891 rfl rfl, hi_11, rfl, hn_11, ⟨hk_11.1, hk_11.2, by decide +kernel⟩, Or.inl ⟨rfl, mG 890 (by decide +kernel) rfl⟩⟩
set_option maxRecDepth 20000 in
theorem ho_147 : hdOk H_M_thrown := ⟨mG 1332 rfl rfl, hi_12, rfl, hn_12, ⟨hk_12.1, hk_12.2, by decide +kernel⟩, Or.inr ⟨by decide, mG 1330 (by decide +kernel) rfl, mG 1331 (by decide +kernel) rfl⟩⟩
set_option maxRecDepth 20000 in
theorem ho_148 : hdOk H_M_feed := ⟨mG 1543 rfl rfl, hi_12, rfl, hn_12, ⟨hk_12.1, hk_12.2, by decide +kernel⟩, Or.inr ⟨by decide, mG 1541 (by decide +kernel) rfl, mG 1542 (by decide +kernel) rfl⟩⟩
set_option maxRecDepth 20000 in
theorem ho_149 : hdOk H_M_lives := ⟨mG 1546 rfl rfl, hi_12, rfl, hn_12, ⟨hk_12.1, hk_12.2, by decide +kernel⟩, Or.inl ⟨rfl, mG 1545 (by decide +kernel) rfl⟩⟩
set_option maxRecDepth 20000 in
theorem ho_150 : hdOk H_M_comes := ⟨mG 1550 rfl rfl, hi_12, rfl, hn_12, ⟨hk_12.1, hk_12.2, by decide +kernel⟩, Or.inr ⟨by decide, mG 1549 (by decide +kernel) rfl, mG 44 (by decide +kernel) rfl⟩⟩
set_option maxRecDepth 20000 in
theorem ho_151 : hdOk H_M_end := ⟨mG 1554 rfl rfl, hi_12, rfl, hn_12, ⟨hk_12.1, hk_12.2, by decide +kernel⟩, Or.inr ⟨by decide, mG 1552 (by decide +kernel) rfl, mG 1553 (by decide +kernel) rfl⟩⟩
set_option maxRecDepth 20000 in
theorem ho_152 : hdOk H_M_sees := ⟨mG 1570 rfl rfl, hi_12, rfl, hn_12, ⟨hk_12.1, hk_12.2, by decide +kernel⟩, Or.inr ⟨by decide, mG 1569 (by decide +kernel) rfl, mG 47 (by decide +kernel) rfl⟩⟩
set_option maxRecDepth 20000 in
theorem ho_153 : hdOk H_M_isDigit := ⟨mG 1584 rfl rfl, hi_12, rfl, hn_12, ⟨hk_12.1, hk_12.2, by decide +kernel⟩, Or.inl ⟨rfl, mG 1583 (by decide +kernel) rfl⟩⟩
set_option maxRecDepth 20000 in
theorem ho_154 : hdOk H_M_reads := ⟨mG 1581 rfl rfl, hi_12, rfl, hn_12, ⟨hk_12.1, hk_12.2, by decide +kernel⟩, Or.inr ⟨by decide, mG 1580 (by decide +kernel) rfl, mG 49 (by decide +kernel) rfl⟩⟩
set_option maxRecDepth 20000 in
theorem ho_155 : hdOk H_M_wrongLand := ⟨mG 1562 rfl rfl, hi_12, rfl, hn_12, ⟨hk_12.1, hk_12.2, by decide +kernel⟩, Or.inr ⟨by decide, mG 1561 (by decide +kernel) rfl, mG 45 (by decide +kernel) rfl⟩⟩
set_option maxRecDepth 20000 in
theorem ho_156 : hdOk H_M_isWhole := ⟨mG 1588 rfl rfl, hi_12, rfl, hn_12, ⟨hk_12.1, hk_12.2, by decide +kernel⟩, Or.inr ⟨by decide, mG 1587 (by decide +kernel) rfl, mG 50 (by decide +kernel) rfl⟩⟩
set_option maxRecDepth 20000 in
theorem ho_157 : hdOk H_M_readsClause := ⟨mG 1566 rfl rfl, hi_12, rfl, hn_12, ⟨hk_12.1, hk_12.2, by decide +kernel⟩, Or.inr ⟨by decide, mG 1565 (by decide +kernel) rfl, mG 46 (by decide +kernel) rfl⟩⟩
set_option maxRecDepth 20000 in
theorem ho_158 : hdOk H_M_isItem := ⟨mG 1573 rfl rfl, hi_12, rfl, hn_12, ⟨hk_12.1, hk_12.2, by decide +kernel⟩, Or.inl ⟨rfl, mG 1572 (by decide +kernel) rfl⟩⟩
set_option maxRecDepth 20000 in
theorem ho_159 : hdOk H_M_readsItem := ⟨mG 1577 rfl rfl, hi_12, rfl, hn_12, ⟨hk_12.1, hk_12.2, by decide +kernel⟩, Or.inr ⟨by decide, mG 1576 (by decide +kernel) rfl, mG 48 (by decide +kernel) rfl⟩⟩
set_option maxRecDepth 20000 in
theorem ho_160 : hdOk H_M_comesOut := ⟨mG 1596 rfl rfl, hi_12, rfl, hn_12, ⟨hk_12.1, hk_12.2, by decide +kernel⟩, Or.inr ⟨by decide, mG 1595 (by decide +kernel) rfl, mG 52 (by decide +kernel) rfl⟩⟩
set_option maxRecDepth 20000 in
theorem ho_161 : hdOk H_M_wrongPlan := ⟨mG 1592 rfl rfl, hi_12, rfl, hn_12, ⟨hk_12.1, hk_12.2, by decide +kernel⟩, Or.inr ⟨by decide, mG 1591 (by decide +kernel) rfl, mG 51 (by decide +kernel) rfl⟩⟩
set_option maxRecDepth 20000 in
theorem ho_162 : hdOk H_M_fault := ⟨mG 1558 rfl rfl, hi_12, rfl, hn_12, ⟨hk_12.1, hk_12.2, by decide +kernel⟩, Or.inr ⟨by decide, mG 1556 (by decide +kernel) rfl, mG 1557 (by decide +kernel) rfl⟩⟩
set_option maxRecDepth 20000 in
theorem ho_163 : hdOk H_M_wipes := ⟨mG 1342 rfl rfl, hi_12, rfl, hn_12, ⟨hk_12.1, hk_12.2, by decide +kernel⟩, Or.inr ⟨by decide, mG 1341 (by decide +kernel) rfl, mG 43 (by decide +kernel) rfl⟩⟩
set_option maxRecDepth 20000 in
theorem ho_164 : hdOk H_M_text := ⟨mG 1600 rfl rfl, hi_12, rfl, hn_12, ⟨hk_12.1, hk_12.2, by decide +kernel⟩, Or.inr ⟨by decide, mG 1598 (by decide +kernel) rfl, mG 1599 (by decide +kernel) rfl⟩⟩
set_option maxRecDepth 20000 in
theorem ho_165 : hdOk H_M_laysLand := ⟨mG 1604 rfl rfl, hi_12, rfl, hn_12, ⟨hk_12.1, hk_12.2, by decide +kernel⟩, Or.inr ⟨by decide, mG 1603 (by decide +kernel) rfl, mG 53 (by decide +kernel) rfl⟩⟩
set_option maxRecDepth 20000 in
theorem ho_166 : hdOk H_M_isGuard := ⟨mG 1623 rfl rfl, hi_12, rfl, hn_12, ⟨hk_12.1, hk_12.2, by decide +kernel⟩, Or.inr ⟨by decide, mG 1622 (by decide +kernel) rfl, mG 55 (by decide +kernel) rfl⟩⟩
set_option maxRecDepth 20000 in
theorem ho_167 : hdOk H_M_isSign := ⟨mG 1612 rfl rfl, hi_12, rfl, hn_12, ⟨hk_12.1, hk_12.2, by decide +kernel⟩, Or.inr ⟨by decide, mG 1611 (by decide +kernel) rfl, mG 54 (by decide +kernel) rfl⟩⟩
set_option maxRecDepth 20000 in
theorem ho_168 : hdOk H_M_isPart := ⟨mG 1615 rfl rfl, hi_12, rfl, hn_12, ⟨hk_12.1, hk_12.2, by decide +kernel⟩, Or.inl ⟨rfl, mG 1614 (by decide +kernel) rfl⟩⟩
set_option maxRecDepth 20000 in
theorem ho_169 : hdOk H_M_sign := ⟨mG 1608 rfl rfl, hi_12, rfl, hn_12, ⟨hk_12.1, hk_12.2, by decide +kernel⟩, Or.inr ⟨by decide, mG 1606 (by decide +kernel) rfl, mG 1607 (by decide +kernel) rfl⟩⟩
set_option maxRecDepth 20000 in
theorem ho_170 : hdOk H_M_guard := ⟨mG 1619 rfl rfl, hi_12, rfl, hn_12, ⟨hk_12.1, hk_12.2, by decide +kernel⟩, Or.inr ⟨by decide, mG 1617 (by decide +kernel) rfl, mG 1618 (by decide +kernel) rfl⟩⟩
set_option maxRecDepth 20000 in
theorem ho_171 : hdOk H_M_hears := ⟨mG 1627 rfl rfl, hi_12, rfl, hn_12, ⟨hk_12.1, hk_12.2, by decide +kernel⟩, Or.inr ⟨by decide, mG 1625 (by decide +kernel) rfl, mG 1626 (by decide +kernel) rfl⟩⟩
set_option maxRecDepth 20000 in
theorem ho_172 : hdOk H_M_plan := ⟨mG 1631 rfl rfl, hi_12, rfl, hn_12, ⟨hk_12.1, hk_12.2, by decide +kernel⟩, Or.inr ⟨by decide, mG 1629 (by decide +kernel) rfl, mG 1630 (by decide +kernel) rfl⟩⟩
set_option maxRecDepth 20000 in
theorem ho_173 : hdOk H_M_asTold := ⟨mG 1639 rfl rfl, hi_12, rfl, hn_12, ⟨hk_12.1, hk_12.2, by decide +kernel⟩, Or.inr ⟨by decide, mG 1638 (by decide +kernel) rfl, mG 56 (by decide +kernel) rfl⟩⟩
set_option maxRecDepth 20000 in
theorem ho_174 : hdOk H_M_allWays := ⟨mG 1643 rfl rfl, hi_12, rfl, hn_12, ⟨hk_12.1, hk_12.2, by decide +kernel⟩, Or.inr ⟨by decide, mG 1642 (by decide +kernel) rfl, mG 57 (by decide +kernel) rfl⟩⟩
set_option maxRecDepth 20000 in
theorem ho_175 : hdOk H_M_firstWay := ⟨mG 1651 rfl rfl, hi_12, rfl, hn_12, ⟨hk_12.1, hk_12.2, by decide +kernel⟩, Or.inr ⟨by decide, mG 1650 (by decide +kernel) rfl, mG 59 (by decide +kernel) rfl⟩⟩
set_option maxRecDepth 20000 in
theorem ho_176 : hdOk H_M_nextWay := ⟨mG 1680 rfl rfl, hi_12, rfl, hn_12, ⟨hk_12.1, hk_12.2, by decide +kernel⟩, Or.inr ⟨by decide, mG 1679 (by decide +kernel) rfl, mG 66 (by decide +kernel) rfl⟩⟩
set_option maxRecDepth 20000 in
theorem ho_177 : hdOk H_M_heardAt := ⟨mG 1659 rfl rfl, hi_12, rfl, hn_12, ⟨hk_12.1, hk_12.2, by decide +kernel⟩, Or.inr ⟨by decide, mG 1658 (by decide +kernel) rfl, mG 61 (by decide +kernel) rfl⟩⟩
set_option maxRecDepth 20000 in
theorem ho_178 : hdOk H_M_goes := ⟨mG 1655 rfl rfl, hi_12, rfl, hn_12, ⟨hk_12.1, hk_12.2, by decide +kernel⟩, Or.inr ⟨by decide, mG 1654 (by decide +kernel) rfl, mG 60 (by decide +kernel) rfl⟩⟩
set_option maxRecDepth 20000 in
theorem ho_179 : hdOk H_M_byPlan := ⟨mG 1664 rfl rfl, hi_12, rfl, hn_12, ⟨hk_12.1, hk_12.2, by decide +kernel⟩, Or.inr ⟨by decide, mG 1663 (by decide +kernel) rfl, mG 62 (by decide +kernel) rfl⟩⟩
set_option maxRecDepth 20000 in
theorem ho_180 : hdOk H_M_apart := ⟨mG 1672 rfl rfl, hi_12, rfl, hn_12, ⟨hk_12.1, hk_12.2, by decide +kernel⟩, Or.inr ⟨by decide, mG 1671 (by decide +kernel) rfl, mG 64 (by decide +kernel) rfl⟩⟩
set_option maxRecDepth 20000 in
theorem ho_181 : hdOk H_M_sorts := ⟨mG 1676 rfl rfl, hi_12, rfl, hn_12, ⟨hk_12.1, hk_12.2, by decide +kernel⟩, Or.inr ⟨by decide, mG 1675 (by decide +kernel) rfl, mG 65 (by decide +kernel) rfl⟩⟩
set_option maxRecDepth 20000 in
theorem ho_182 : hdOk H_M_doesOpen := ⟨mG 1668 rfl rfl, hi_12, rfl, hn_12, ⟨hk_12.1, hk_12.2, by decide +kernel⟩, Or.inr ⟨by decide, mG 1667 (by decide +kernel) rfl, mG 63 (by decide +kernel) rfl⟩⟩
set_option maxRecDepth 20000 in
theorem ho_183 : hdOk H_M_openings := ⟨mG 1647 rfl rfl, hi_12, rfl, hn_12, ⟨hk_12.1, hk_12.2, by decide +kernel⟩, Or.inr ⟨by decide, mG 1646 (by decide +kernel) rfl, mG 58 (by decide +kernel) rfl⟩⟩
set_option maxRecDepth 20000 in
theorem ho_184 : hdOk H_M_divisor := ⟨mG 1687 rfl rfl, hi_12, rfl, hn_12, ⟨hk_12.1, hk_12.2, by decide +kernel⟩, Or.inl ⟨rfl, mG 1686 (by decide +kernel) rfl⟩⟩
set_option maxRecDepth 20000 in
theorem ho_185 : hdOk H_M_ways := ⟨mG 1635 rfl rfl, hi_12, rfl, hn_12, ⟨hk_12.1, hk_12.2, by decide +kernel⟩, Or.inr ⟨by decide, mG 1633 (by decide +kernel) rfl, mG 1634 (by decide +kernel) rfl⟩⟩
set_option maxRecDepth 20000 in
theorem ho_186 : hdOk H_M_odds := ⟨mG 1684 rfl rfl, hi_12, rfl, hn_12, ⟨hk_12.1, hk_12.2, by decide +kernel⟩, Or.inr ⟨by decide, mG 1682 (by decide +kernel) rfl, mG 1683 (by decide +kernel) rfl⟩⟩
set_option maxRecDepth 20000 in
theorem ho_187 : hdOk H_M_laysWay := ⟨mG 1695 rfl rfl, hi_12, rfl, hn_12, ⟨hk_12.1, hk_12.2, by decide +kernel⟩, Or.inr ⟨by decide, mG 1694 (by decide +kernel) rfl, mG 67 (by decide +kernel) rfl⟩⟩
set_option maxRecDepth 20000 in
theorem ho_188 : hdOk H_M_turnsAt := ⟨mG 1691 rfl rfl, hi_12, rfl, hn_12, ⟨hk_12.1, hk_12.2, by decide +kernel⟩, Or.inr ⟨by decide, mG 1689 (by decide +kernel) rfl, mG 1690 (by decide +kernel) rfl⟩⟩
set_option maxRecDepth 20000 in
theorem ho_189 : hdOk H_M_opens := ⟨mG 1700 rfl rfl, hi_12, rfl, hn_12, ⟨hk_12.1, hk_12.2, by decide +kernel⟩, Or.inr ⟨by decide, mG 1698 (by decide +kernel) rfl, mG 1699 (by decide +kernel) rfl⟩⟩
set_option maxRecDepth 20000 in
theorem ho_190 : hdOk H_M_when := ⟨mG 1704 rfl rfl, hi_12, rfl, hn_12, ⟨hk_12.1, hk_12.2, by decide +kernel⟩, Or.inr ⟨by decide, mG 1702 (by decide +kernel) rfl, mG 1703 (by decide +kernel) rfl⟩⟩
set_option maxRecDepth 20000 in
theorem ho_191 : hdOk H_M_near := ⟨mG 1708 rfl rfl, hi_12, rfl, hn_12, ⟨hk_12.1, hk_12.2, by decide +kernel⟩, Or.inr ⟨by decide, mG 1706 (by decide +kernel) rfl, mG 1707 (by decide +kernel) rfl⟩⟩
set_option maxRecDepth 20000 in
theorem ho_192 : hdOk H_M_enough := ⟨mG 1712 rfl rfl, hi_12, rfl, hn_12, ⟨hk_12.1, hk_12.2, by decide +kernel⟩, Or.inr ⟨by decide, mG 1710 (by decide +kernel) rfl, mG 1711 (by decide +kernel) rfl⟩⟩
set_option maxRecDepth 20000 in
theorem ho_193 : hdOk H_M_firstMost := ⟨mG 1724 rfl rfl, hi_12, rfl, hn_12, ⟨hk_12.1, hk_12.2, by decide +kernel⟩, Or.inr ⟨by decide, mG 1723 (by decide +kernel) rfl, mG 69 (by decide +kernel) rfl⟩⟩
set_option maxRecDepth 20000 in
theorem ho_194 : hdOk H_M_talliesOne := ⟨mG 1720 rfl rfl, hi_12, rfl, hn_12, ⟨hk_12.1, hk_12.2, by decide +kernel⟩, Or.inr ⟨by decide, mG 1719 (by decide +kernel) rfl, mG 68 (by decide +kernel) rfl⟩⟩
set_option maxRecDepth 20000 in
theorem ho_195 : hdOk H_M_best := ⟨mG 1716 rfl rfl, hi_12, rfl, hn_12, ⟨hk_12.1, hk_12.2, by decide +kernel⟩, Or.inr ⟨by decide, mG 1714 (by decide +kernel) rfl, mG 1715 (by decide +kernel) rfl⟩⟩
set_option maxRecDepth 20000 in
theorem ho_196 : hdOk H_M_thief := ⟨mG 1728 rfl rfl, hi_12, rfl, hn_12, ⟨hk_12.1, hk_12.2, by decide +kernel⟩, Or.inr ⟨by decide, mG 1726 (by decide +kernel) rfl, mG 1727 (by decide +kernel) rfl⟩⟩
set_option maxRecDepth 20000 in
theorem ho_197 : hdOk H_M_isPair := ⟨mG 1736 rfl rfl, hi_12, rfl, hn_12, ⟨hk_12.1, hk_12.2, by decide +kernel⟩, Or.inr ⟨by decide, mG 1735 (by decide +kernel) rfl, mG 70 (by decide +kernel) rfl⟩⟩
set_option maxRecDepth 20000 in
theorem ho_198 : hdOk H_M_talliesPairs := ⟨mG 1740 rfl rfl, hi_12, rfl, hn_12, ⟨hk_12.1, hk_12.2, by decide +kernel⟩, Or.inr ⟨by decide, mG 1739 (by decide +kernel) rfl, mG 71 (by decide +kernel) rfl⟩⟩
set_option maxRecDepth 20000 in
theorem ho_199 : hdOk H_M_firstToTurn := ⟨mG 1744 rfl rfl, hi_12, rfl, hn_12, ⟨hk_12.1, hk_12.2, by decide +kernel⟩, Or.inr ⟨by decide, mG 1743 (by decide +kernel) rfl, mG 72 (by decide +kernel) rfl⟩⟩
set_option maxRecDepth 20000 in
theorem ho_200 : hdOk H_M_pair := ⟨mG 1732 rfl rfl, hi_12, rfl, hn_12, ⟨hk_12.1, hk_12.2, by decide +kernel⟩, Or.inr ⟨by decide, mG 1730 (by decide +kernel) rfl, mG 1731 (by decide +kernel) rfl⟩⟩
set_option maxRecDepth 20000 in
theorem ho_201 : hdOk H_M_sure := ⟨mG 1748 rfl rfl, hi_12, rfl, hn_12, ⟨hk_12.1, hk_12.2, by decide +kernel⟩, Or.inr ⟨by decide, mG 1746 (by decide +kernel) rfl, mG 1747 (by decide +kernel) rfl⟩⟩
set_option maxRecDepth 20000 in
theorem ho_202 : hdOk H_M_isRest := ⟨mG 1756 rfl rfl, hi_12, rfl, hn_12, ⟨hk_12.1, hk_12.2, by decide +kernel⟩, Or.inr ⟨by decide, mG 1755 (by decide +kernel) rfl, mG 73 (by decide +kernel) rfl⟩⟩
set_option maxRecDepth 20000 in
theorem ho_203 : hdOk H_M_rest := ⟨mG 1752 rfl rfl, hi_12, rfl, hn_12, ⟨hk_12.1, hk_12.2, by decide +kernel⟩, Or.inr ⟨by decide, mG 1750 (by decide +kernel) rfl, mG 1751 (by decide +kernel) rfl⟩⟩
set_option maxRecDepth 20000 in
theorem ho_204 : hdOk H_M_idle := ⟨mG 1760 rfl rfl, hi_12, rfl, hn_12, ⟨hk_12.1, hk_12.2, by decide +kernel⟩, Or.inr ⟨by decide, mG 1758 (by decide +kernel) rfl, mG 1759 (by decide +kernel) rfl⟩⟩
set_option maxRecDepth 20000 in
theorem ho_205 : hdOk H_M_shift := ⟨mG 1764 rfl rfl, hi_12, rfl, hn_12, ⟨hk_12.1, hk_12.2, by decide +kernel⟩, Or.inr ⟨by decide, mG 1762 (by decide +kernel) rfl, mG 1763 (by decide +kernel) rfl⟩⟩
set_option maxRecDepth 20000 in
theorem ho_206 : hdOk H_M_waits := ⟨mG 1768 rfl rfl, hi_12, rfl, hn_12, ⟨hk_12.1, hk_12.2, by decide +kernel⟩, Or.inr ⟨by decide, mG 1766 (by decide +kernel) rfl, mG 1767 (by decide +kernel) rfl⟩⟩
set_option maxRecDepth 20000 in
theorem ho_207 : hdOk H_M_gain := ⟨mG 1772 rfl rfl, hi_12, rfl, hn_12, ⟨hk_12.1, hk_12.2, by decide +kernel⟩, Or.inr ⟨by decide, mG 1770 (by decide +kernel) rfl, mG 1771 (by decide +kernel) rfl⟩⟩
set_option maxRecDepth 20000 in
theorem ho_208 : hdOk H_M_scratch := ⟨mG 1776 rfl rfl, hi_12, rfl, hn_12, ⟨hk_12.1, hk_12.2, by decide +kernel⟩, Or.inr ⟨by decide, mG 1774 (by decide +kernel) rfl, mG 1775 (by decide +kernel) rfl⟩⟩
set_option maxRecDepth 20000 in
theorem ho_209 : hdOk H_M_misfits := ⟨mG 1784 rfl rfl, hi_12, rfl, hn_12, ⟨hk_12.1, hk_12.2, by decide +kernel⟩, Or.inr ⟨by decide, mG 1783 (by decide +kernel) rfl, mG 74 (by decide +kernel) rfl⟩⟩
set_option maxRecDepth 20000 in
theorem ho_210 : hdOk H_M_fits := ⟨mG 1780 rfl rfl, hi_12, rfl, hn_12, ⟨hk_12.1, hk_12.2, by decide +kernel⟩, Or.inr ⟨by decide, mG 1778 (by decide +kernel) rfl, mG 1779 (by decide +kernel) rfl⟩⟩
set_option maxRecDepth 20000 in
theorem ho_211 : hdOk H_M_bitsOf := ⟨mG 1791 rfl rfl, hi_12, rfl, hn_12, ⟨hk_12.1, hk_12.2, by decide +kernel⟩, Or.inl ⟨rfl, mG 1790 (by decide +kernel) rfl⟩⟩
set_option maxRecDepth 20000 in
theorem ho_212 : hdOk H_M_lies := ⟨mG 1788 rfl rfl, hi_12, rfl, hn_12, ⟨hk_12.1, hk_12.2, by decide +kernel⟩, Or.inr ⟨by decide, mG 1786 (by decide +kernel) rfl, mG 1787 (by decide +kernel) rfl⟩⟩
set_option maxRecDepth 20000 in
theorem ho_213 : hdOk H_M_setBits := ⟨mG 1799 rfl rfl, hi_12, rfl, hn_12, ⟨hk_12.1, hk_12.2, by decide +kernel⟩, Or.inr ⟨by decide, mG 1798 (by decide +kernel) rfl, mG 75 (by decide +kernel) rfl⟩⟩
set_option maxRecDepth 20000 in
theorem ho_214 : hdOk H_M_sets := ⟨mG 1795 rfl rfl, hi_12, rfl, hn_12, ⟨hk_12.1, hk_12.2, by decide +kernel⟩, Or.inr ⟨by decide, mG 1793 (by decide +kernel) rfl, mG 1794 (by decide +kernel) rfl⟩⟩
set_option maxRecDepth 20000 in
theorem ho_215 : hdOk H_M_opening := ⟨mG 1807 rfl rfl, hi_12, rfl, hn_12, ⟨hk_12.1, hk_12.2, by decide +kernel⟩, Or.inr ⟨by decide, mG 1806 (by decide +kernel) rfl, mG 76 (by decide +kernel) rfl⟩⟩
set_option maxRecDepth 20000 in
theorem ho_216 : hdOk H_M_moment := ⟨mG 1803 rfl rfl, hi_12, rfl, hn_12, ⟨hk_12.1, hk_12.2, by decide +kernel⟩, Or.inr ⟨by decide, mG 1801 (by decide +kernel) rfl, mG 1802 (by decide +kernel) rfl⟩⟩
set_option maxRecDepth 20000 in
theorem ho_217 : hdOk H_M_better := ⟨mG 1811 rfl rfl, hi_12, rfl, hn_12, ⟨hk_12.1, hk_12.2, by decide +kernel⟩, Or.inr ⟨by decide, mG 1809 (by decide +kernel) rfl, mG 1810 (by decide +kernel) rfl⟩⟩
set_option maxRecDepth 20000 in
theorem ho_218 : hdOk H_M_exact := ⟨mG 1815 rfl rfl, hi_12, rfl, hn_12, ⟨hk_12.1, hk_12.2, by decide +kernel⟩, Or.inr ⟨by decide, mG 1813 (by decide +kernel) rfl, mG 1814 (by decide +kernel) rfl⟩⟩
set_option maxRecDepth 20000 in
theorem ho_219 : hdOk H_M_lossy := ⟨mG 1819 rfl rfl, hi_12, rfl, hn_12, ⟨hk_12.1, hk_12.2, by decide +kernel⟩, Or.inr ⟨by decide, mG 1817 (by decide +kernel) rfl, mG 1818 (by decide +kernel) rfl⟩⟩
set_option maxRecDepth 20000 in
theorem ho_220 : hdOk H_M_route := ⟨mG 1825 rfl rfl, hi_12, rfl, hn_12, ⟨hk_12.1, hk_12.2, by decide +kernel⟩, Or.inr ⟨by decide, mG 1823 (by decide +kernel) rfl, mG 1824 (by decide +kernel) rfl⟩⟩
set_option maxRecDepth 20000 in
theorem ho_221 : hdOk H_M_deaf := ⟨mG 1829 rfl rfl, hi_12, rfl, hn_12, ⟨hk_12.1, hk_12.2, by decide +kernel⟩, Or.inr ⟨by decide, mG 1827 (by decide +kernel) rfl, mG 1828 (by decide +kernel) rfl⟩⟩
set_option maxRecDepth 20000 in
theorem ho_222 : hdOk H_M_helper := ⟨mG 1833 rfl rfl, hi_12, rfl, hn_12, ⟨hk_12.1, hk_12.2, by decide +kernel⟩, Or.inr ⟨by decide, mG 1831 (by decide +kernel) rfl, mG 1832 (by decide +kernel) rfl⟩⟩
set_option maxRecDepth 20000 in
theorem ho_223 : hdOk H_M_draw := ⟨mG 1845 rfl rfl, hi_12, rfl, hn_12, ⟨hk_12.1, hk_12.2, by decide +kernel⟩, Or.inr ⟨by decide, mG 1844 (by decide +kernel) rfl, mG 77 (by decide +kernel) rfl⟩⟩
set_option maxRecDepth 20000 in
theorem ho_224 : hdOk H_M_seed := ⟨mG 1837 rfl rfl, hi_12, rfl, hn_12, ⟨hk_12.1, hk_12.2, by decide +kernel⟩, Or.inr ⟨by decide, mG 1835 (by decide +kernel) rfl, mG 1836 (by decide +kernel) rfl⟩⟩
set_option maxRecDepth 20000 in
theorem ho_225 : hdOk H_M_night := ⟨mG 1841 rfl rfl, hi_12, rfl, hn_12, ⟨hk_12.1, hk_12.2, by decide +kernel⟩, Or.inr ⟨by decide, mG 1839 (by decide +kernel) rfl, mG 1840 (by decide +kernel) rfl⟩⟩
set_option maxRecDepth 20000 in
theorem ho_226 : hdOk H_M_isNight := ⟨mG 1855 rfl rfl, hi_12, rfl, hn_12, ⟨hk_12.1, hk_12.2, by decide +kernel⟩, Or.inr ⟨by decide, mG 1854 (by decide +kernel) rfl, mG 78 (by decide +kernel) rfl⟩⟩
set_option maxRecDepth 20000 in
theorem ho_227 : hdOk H_M_turned := ⟨mG 1851 rfl rfl, hi_12, rfl, hn_12, ⟨hk_12.1, hk_12.2, by decide +kernel⟩, Or.inr ⟨by decide, mG 1849 (by decide +kernel) rfl, mG 1850 (by decide +kernel) rfl⟩⟩
set_option maxRecDepth 20000 in
theorem ho_228 : hdOk H_M_opened := ⟨mG 1859 rfl rfl, hi_12, rfl, hn_12, ⟨hk_12.1, hk_12.2, by decide +kernel⟩, Or.inr ⟨by decide, mG 1857 (by decide +kernel) rfl, mG 1858 (by decide +kernel) rfl⟩⟩
set_option maxRecDepth 20000 in
theorem ho_229 : hdOk H_M_undo := ⟨mG 1863 rfl rfl, hi_12, rfl, hn_12, ⟨hk_12.1, hk_12.2, by decide +kernel⟩, Or.inr ⟨by decide, mG 1861 (by decide +kernel) rfl, mG 1862 (by decide +kernel) rfl⟩⟩
set_option maxRecDepth 20000 in
theorem ho_230 : hdOk H_M_image := ⟨mG 1867 rfl rfl, hi_12, rfl, hn_12, ⟨hk_12.1, hk_12.2, by decide +kernel⟩, Or.inr ⟨by decide, mG 1865 (by decide +kernel) rfl, mG 1866 (by decide +kernel) rfl⟩⟩
set_option maxRecDepth 20000 in
theorem ho_231 : hdOk H_M_back := ⟨mG 1871 rfl rfl, hi_12, rfl, hn_12, ⟨hk_12.1, hk_12.2, by decide +kernel⟩, Or.inr ⟨by decide, mG 1869 (by decide +kernel) rfl, mG 1870 (by decide +kernel) rfl⟩⟩
set_option maxRecDepth 20000 in
theorem ho_232 : hdOk H_M_count := ⟨mG 1875 rfl rfl, hi_12, rfl, hn_12, ⟨hk_12.1, hk_12.2, by decide +kernel⟩, Or.inr ⟨by decide, mG 1873 (by decide +kernel) rfl, mG 1874 (by decide +kernel) rfl⟩⟩
set_option maxRecDepth 20000 in
theorem ho_233 : hdOk H_Integer_bitCount := ⟨mG 1128 rfl rfl, hi_14, rfl, hn_14, ⟨hk_14.1, hk_14.2, by decide +kernel⟩, Or.inl ⟨rfl, mG 1127 (by decide +kernel) rfl⟩⟩
theorem hoR_0 : ∀ h ∈ hd0, hdOk h := List.forall_mem_cons.mpr ⟨ho_0, List.forall_mem_cons.mpr ⟨ho_1, List.forall_mem_cons.mpr ⟨ho_2, List.forall_mem_cons.mpr ⟨ho_3, List.forall_mem_cons.mpr ⟨ho_4, List.forall_mem_cons.mpr ⟨ho_5, List.forall_mem_cons.mpr ⟨ho_6, List.forall_mem_cons.mpr ⟨ho_7, List.forall_mem_cons.mpr ⟨ho_8, List.forall_mem_cons.mpr ⟨ho_9, List.forall_mem_cons.mpr ⟨ho_10, List.forall_mem_cons.mpr ⟨ho_11, List.forall_mem_cons.mpr ⟨ho_12, List.forall_mem_cons.mpr ⟨ho_13, List.forall_mem_cons.mpr ⟨ho_14, List.forall_mem_cons.mpr ⟨ho_15, fun _ h => absurd h List.not_mem_nil⟩⟩⟩⟩⟩⟩⟩⟩⟩⟩⟩⟩⟩⟩⟩⟩
theorem hoR_1 : ∀ h ∈ hd1, hdOk h := List.forall_mem_cons.mpr ⟨ho_16, List.forall_mem_cons.mpr ⟨ho_17, List.forall_mem_cons.mpr ⟨ho_18, List.forall_mem_cons.mpr ⟨ho_19, List.forall_mem_cons.mpr ⟨ho_20, List.forall_mem_cons.mpr ⟨ho_21, List.forall_mem_cons.mpr ⟨ho_22, List.forall_mem_cons.mpr ⟨ho_23, List.forall_mem_cons.mpr ⟨ho_24, List.forall_mem_cons.mpr ⟨ho_25, List.forall_mem_cons.mpr ⟨ho_26, List.forall_mem_cons.mpr ⟨ho_27, List.forall_mem_cons.mpr ⟨ho_28, List.forall_mem_cons.mpr ⟨ho_29, List.forall_mem_cons.mpr ⟨ho_30, List.forall_mem_cons.mpr ⟨ho_31, fun _ h => absurd h List.not_mem_nil⟩⟩⟩⟩⟩⟩⟩⟩⟩⟩⟩⟩⟩⟩⟩⟩
theorem hoR_2 : ∀ h ∈ hd2, hdOk h := List.forall_mem_cons.mpr ⟨ho_32, List.forall_mem_cons.mpr ⟨ho_33, List.forall_mem_cons.mpr ⟨ho_34, List.forall_mem_cons.mpr ⟨ho_35, List.forall_mem_cons.mpr ⟨ho_36, List.forall_mem_cons.mpr ⟨ho_37, List.forall_mem_cons.mpr ⟨ho_38, List.forall_mem_cons.mpr ⟨ho_39, List.forall_mem_cons.mpr ⟨ho_40, List.forall_mem_cons.mpr ⟨ho_41, List.forall_mem_cons.mpr ⟨ho_42, List.forall_mem_cons.mpr ⟨ho_43, List.forall_mem_cons.mpr ⟨ho_44, List.forall_mem_cons.mpr ⟨ho_45, List.forall_mem_cons.mpr ⟨ho_46, List.forall_mem_cons.mpr ⟨ho_47, fun _ h => absurd h List.not_mem_nil⟩⟩⟩⟩⟩⟩⟩⟩⟩⟩⟩⟩⟩⟩⟩⟩
theorem hoR_3 : ∀ h ∈ hd3, hdOk h := List.forall_mem_cons.mpr ⟨ho_48, List.forall_mem_cons.mpr ⟨ho_49, List.forall_mem_cons.mpr ⟨ho_50, List.forall_mem_cons.mpr ⟨ho_51, List.forall_mem_cons.mpr ⟨ho_52, List.forall_mem_cons.mpr ⟨ho_53, List.forall_mem_cons.mpr ⟨ho_54, List.forall_mem_cons.mpr ⟨ho_55, List.forall_mem_cons.mpr ⟨ho_56, List.forall_mem_cons.mpr ⟨ho_57, List.forall_mem_cons.mpr ⟨ho_58, List.forall_mem_cons.mpr ⟨ho_59, List.forall_mem_cons.mpr ⟨ho_60, List.forall_mem_cons.mpr ⟨ho_61, List.forall_mem_cons.mpr ⟨ho_62, List.forall_mem_cons.mpr ⟨ho_63, fun _ h => absurd h List.not_mem_nil⟩⟩⟩⟩⟩⟩⟩⟩⟩⟩⟩⟩⟩⟩⟩⟩
theorem hoR_4 : ∀ h ∈ hd4, hdOk h := List.forall_mem_cons.mpr ⟨ho_64, List.forall_mem_cons.mpr ⟨ho_65, List.forall_mem_cons.mpr ⟨ho_66, List.forall_mem_cons.mpr ⟨ho_67, List.forall_mem_cons.mpr ⟨ho_68, List.forall_mem_cons.mpr ⟨ho_69, List.forall_mem_cons.mpr ⟨ho_70, List.forall_mem_cons.mpr ⟨ho_71, List.forall_mem_cons.mpr ⟨ho_72, List.forall_mem_cons.mpr ⟨ho_73, List.forall_mem_cons.mpr ⟨ho_74, List.forall_mem_cons.mpr ⟨ho_75, List.forall_mem_cons.mpr ⟨ho_76, List.forall_mem_cons.mpr ⟨ho_77, List.forall_mem_cons.mpr ⟨ho_78, List.forall_mem_cons.mpr ⟨ho_79, fun _ h => absurd h List.not_mem_nil⟩⟩⟩⟩⟩⟩⟩⟩⟩⟩⟩⟩⟩⟩⟩⟩
theorem hoR_5 : ∀ h ∈ hd5, hdOk h := List.forall_mem_cons.mpr ⟨ho_80, List.forall_mem_cons.mpr ⟨ho_81, List.forall_mem_cons.mpr ⟨ho_82, List.forall_mem_cons.mpr ⟨ho_83, List.forall_mem_cons.mpr ⟨ho_84, List.forall_mem_cons.mpr ⟨ho_85, List.forall_mem_cons.mpr ⟨ho_86, List.forall_mem_cons.mpr ⟨ho_87, List.forall_mem_cons.mpr ⟨ho_88, List.forall_mem_cons.mpr ⟨ho_89, List.forall_mem_cons.mpr ⟨ho_90, List.forall_mem_cons.mpr ⟨ho_91, List.forall_mem_cons.mpr ⟨ho_92, List.forall_mem_cons.mpr ⟨ho_93, List.forall_mem_cons.mpr ⟨ho_94, List.forall_mem_cons.mpr ⟨ho_95, fun _ h => absurd h List.not_mem_nil⟩⟩⟩⟩⟩⟩⟩⟩⟩⟩⟩⟩⟩⟩⟩⟩
theorem hoR_6 : ∀ h ∈ hd6, hdOk h := List.forall_mem_cons.mpr ⟨ho_96, List.forall_mem_cons.mpr ⟨ho_97, List.forall_mem_cons.mpr ⟨ho_98, List.forall_mem_cons.mpr ⟨ho_99, List.forall_mem_cons.mpr ⟨ho_100, List.forall_mem_cons.mpr ⟨ho_101, List.forall_mem_cons.mpr ⟨ho_102, List.forall_mem_cons.mpr ⟨ho_103, List.forall_mem_cons.mpr ⟨ho_104, List.forall_mem_cons.mpr ⟨ho_105, List.forall_mem_cons.mpr ⟨ho_106, List.forall_mem_cons.mpr ⟨ho_107, List.forall_mem_cons.mpr ⟨ho_108, List.forall_mem_cons.mpr ⟨ho_109, List.forall_mem_cons.mpr ⟨ho_110, List.forall_mem_cons.mpr ⟨ho_111, fun _ h => absurd h List.not_mem_nil⟩⟩⟩⟩⟩⟩⟩⟩⟩⟩⟩⟩⟩⟩⟩⟩
theorem hoR_7 : ∀ h ∈ hd7, hdOk h := List.forall_mem_cons.mpr ⟨ho_112, List.forall_mem_cons.mpr ⟨ho_113, List.forall_mem_cons.mpr ⟨ho_114, List.forall_mem_cons.mpr ⟨ho_115, List.forall_mem_cons.mpr ⟨ho_116, List.forall_mem_cons.mpr ⟨ho_117, List.forall_mem_cons.mpr ⟨ho_118, List.forall_mem_cons.mpr ⟨ho_119, List.forall_mem_cons.mpr ⟨ho_120, List.forall_mem_cons.mpr ⟨ho_121, List.forall_mem_cons.mpr ⟨ho_122, List.forall_mem_cons.mpr ⟨ho_123, List.forall_mem_cons.mpr ⟨ho_124, List.forall_mem_cons.mpr ⟨ho_125, List.forall_mem_cons.mpr ⟨ho_126, List.forall_mem_cons.mpr ⟨ho_127, fun _ h => absurd h List.not_mem_nil⟩⟩⟩⟩⟩⟩⟩⟩⟩⟩⟩⟩⟩⟩⟩⟩
theorem hoR_8 : ∀ h ∈ hd8, hdOk h := List.forall_mem_cons.mpr ⟨ho_128, List.forall_mem_cons.mpr ⟨ho_129, List.forall_mem_cons.mpr ⟨ho_130, List.forall_mem_cons.mpr ⟨ho_131, List.forall_mem_cons.mpr ⟨ho_132, List.forall_mem_cons.mpr ⟨ho_133, List.forall_mem_cons.mpr ⟨ho_134, List.forall_mem_cons.mpr ⟨ho_135, List.forall_mem_cons.mpr ⟨ho_136, List.forall_mem_cons.mpr ⟨ho_137, List.forall_mem_cons.mpr ⟨ho_138, List.forall_mem_cons.mpr ⟨ho_139, List.forall_mem_cons.mpr ⟨ho_140, List.forall_mem_cons.mpr ⟨ho_141, List.forall_mem_cons.mpr ⟨ho_142, List.forall_mem_cons.mpr ⟨ho_143, fun _ h => absurd h List.not_mem_nil⟩⟩⟩⟩⟩⟩⟩⟩⟩⟩⟩⟩⟩⟩⟩⟩
theorem hoR_9 : ∀ h ∈ hd9, hdOk h := List.forall_mem_cons.mpr ⟨ho_144, List.forall_mem_cons.mpr ⟨ho_145, List.forall_mem_cons.mpr ⟨ho_146, List.forall_mem_cons.mpr ⟨ho_147, List.forall_mem_cons.mpr ⟨ho_148, List.forall_mem_cons.mpr ⟨ho_149, List.forall_mem_cons.mpr ⟨ho_150, List.forall_mem_cons.mpr ⟨ho_151, List.forall_mem_cons.mpr ⟨ho_152, List.forall_mem_cons.mpr ⟨ho_153, List.forall_mem_cons.mpr ⟨ho_154, List.forall_mem_cons.mpr ⟨ho_155, List.forall_mem_cons.mpr ⟨ho_156, List.forall_mem_cons.mpr ⟨ho_157, List.forall_mem_cons.mpr ⟨ho_158, List.forall_mem_cons.mpr ⟨ho_159, fun _ h => absurd h List.not_mem_nil⟩⟩⟩⟩⟩⟩⟩⟩⟩⟩⟩⟩⟩⟩⟩⟩
theorem hoR_10 : ∀ h ∈ hd10, hdOk h := List.forall_mem_cons.mpr ⟨ho_160, List.forall_mem_cons.mpr ⟨ho_161, List.forall_mem_cons.mpr ⟨ho_162, List.forall_mem_cons.mpr ⟨ho_163, List.forall_mem_cons.mpr ⟨ho_164, List.forall_mem_cons.mpr ⟨ho_165, List.forall_mem_cons.mpr ⟨ho_166, List.forall_mem_cons.mpr ⟨ho_167, List.forall_mem_cons.mpr ⟨ho_168, List.forall_mem_cons.mpr ⟨ho_169, List.forall_mem_cons.mpr ⟨ho_170, List.forall_mem_cons.mpr ⟨ho_171, List.forall_mem_cons.mpr ⟨ho_172, List.forall_mem_cons.mpr ⟨ho_173, List.forall_mem_cons.mpr ⟨ho_174, List.forall_mem_cons.mpr ⟨ho_175, fun _ h => absurd h List.not_mem_nil⟩⟩⟩⟩⟩⟩⟩⟩⟩⟩⟩⟩⟩⟩⟩⟩
theorem hoR_11 : ∀ h ∈ hd11, hdOk h := List.forall_mem_cons.mpr ⟨ho_176, List.forall_mem_cons.mpr ⟨ho_177, List.forall_mem_cons.mpr ⟨ho_178, List.forall_mem_cons.mpr ⟨ho_179, List.forall_mem_cons.mpr ⟨ho_180, List.forall_mem_cons.mpr ⟨ho_181, List.forall_mem_cons.mpr ⟨ho_182, List.forall_mem_cons.mpr ⟨ho_183, List.forall_mem_cons.mpr ⟨ho_184, List.forall_mem_cons.mpr ⟨ho_185, List.forall_mem_cons.mpr ⟨ho_186, List.forall_mem_cons.mpr ⟨ho_187, List.forall_mem_cons.mpr ⟨ho_188, List.forall_mem_cons.mpr ⟨ho_189, List.forall_mem_cons.mpr ⟨ho_190, List.forall_mem_cons.mpr ⟨ho_191, fun _ h => absurd h List.not_mem_nil⟩⟩⟩⟩⟩⟩⟩⟩⟩⟩⟩⟩⟩⟩⟩⟩
theorem hoR_12 : ∀ h ∈ hd12, hdOk h := List.forall_mem_cons.mpr ⟨ho_192, List.forall_mem_cons.mpr ⟨ho_193, List.forall_mem_cons.mpr ⟨ho_194, List.forall_mem_cons.mpr ⟨ho_195, List.forall_mem_cons.mpr ⟨ho_196, List.forall_mem_cons.mpr ⟨ho_197, List.forall_mem_cons.mpr ⟨ho_198, List.forall_mem_cons.mpr ⟨ho_199, List.forall_mem_cons.mpr ⟨ho_200, List.forall_mem_cons.mpr ⟨ho_201, List.forall_mem_cons.mpr ⟨ho_202, List.forall_mem_cons.mpr ⟨ho_203, List.forall_mem_cons.mpr ⟨ho_204, List.forall_mem_cons.mpr ⟨ho_205, List.forall_mem_cons.mpr ⟨ho_206, List.forall_mem_cons.mpr ⟨ho_207, fun _ h => absurd h List.not_mem_nil⟩⟩⟩⟩⟩⟩⟩⟩⟩⟩⟩⟩⟩⟩⟩⟩
theorem hoR_13 : ∀ h ∈ hd13, hdOk h := List.forall_mem_cons.mpr ⟨ho_208, List.forall_mem_cons.mpr ⟨ho_209, List.forall_mem_cons.mpr ⟨ho_210, List.forall_mem_cons.mpr ⟨ho_211, List.forall_mem_cons.mpr ⟨ho_212, List.forall_mem_cons.mpr ⟨ho_213, List.forall_mem_cons.mpr ⟨ho_214, List.forall_mem_cons.mpr ⟨ho_215, List.forall_mem_cons.mpr ⟨ho_216, List.forall_mem_cons.mpr ⟨ho_217, List.forall_mem_cons.mpr ⟨ho_218, List.forall_mem_cons.mpr ⟨ho_219, List.forall_mem_cons.mpr ⟨ho_220, List.forall_mem_cons.mpr ⟨ho_221, List.forall_mem_cons.mpr ⟨ho_222, List.forall_mem_cons.mpr ⟨ho_223, fun _ h => absurd h List.not_mem_nil⟩⟩⟩⟩⟩⟩⟩⟩⟩⟩⟩⟩⟩⟩⟩⟩
theorem hoR_14 : ∀ h ∈ hd14, hdOk h := List.forall_mem_cons.mpr ⟨ho_224, List.forall_mem_cons.mpr ⟨ho_225, List.forall_mem_cons.mpr ⟨ho_226, List.forall_mem_cons.mpr ⟨ho_227, List.forall_mem_cons.mpr ⟨ho_228, List.forall_mem_cons.mpr ⟨ho_229, List.forall_mem_cons.mpr ⟨ho_230, List.forall_mem_cons.mpr ⟨ho_231, List.forall_mem_cons.mpr ⟨ho_232, List.forall_mem_cons.mpr ⟨ho_233, fun _ h => absurd h List.not_mem_nil⟩⟩⟩⟩⟩⟩⟩⟩⟩⟩
theorem hoA : ∀ r ∈ hdT, ∀ h ∈ r, hdOk h := List.forall_mem_cons.mpr ⟨hoR_0, List.forall_mem_cons.mpr ⟨hoR_1, List.forall_mem_cons.mpr ⟨hoR_2, List.forall_mem_cons.mpr ⟨hoR_3, List.forall_mem_cons.mpr ⟨hoR_4, List.forall_mem_cons.mpr ⟨hoR_5, List.forall_mem_cons.mpr ⟨hoR_6, List.forall_mem_cons.mpr ⟨hoR_7, List.forall_mem_cons.mpr ⟨hoR_8, List.forall_mem_cons.mpr ⟨hoR_9, List.forall_mem_cons.mpr ⟨hoR_10, List.forall_mem_cons.mpr ⟨hoR_11, List.forall_mem_cons.mpr ⟨hoR_12, List.forall_mem_cons.mpr ⟨hoR_13, List.forall_mem_cons.mpr ⟨hoR_14, fun _ h => absurd h List.not_mem_nil⟩⟩⟩⟩⟩⟩⟩⟩⟩⟩⟩⟩⟩⟩⟩
theorem getD_P {α : Type} {P : α → Prop} {l : List α} (n : Nat) (d : α) (h : ∀ a ∈ l, P a) (hd : P d) : P (l.getD n d) := by
  rw [List.getD_eq_getElem?_getD]
  cases hq : l[n]? with
  | none => exact hd
  | some a => exact h a (List.mem_of_getElem? hq)
theorem hdTab_ok (n : Nat) : hdOk (hdTab n) := getD_P _ _ (getD_P (P := fun r => ∀ h ∈ r, hdOk h) _ _ hoA (fun _ h => absurd h List.not_mem_nil)) ho_0
end
section
/-- the links of static arrays within the nest: class, entry, array, place -/
def slL : List (Nat × Nat × Nat × Nat) := [(2, 46, 0, 622), (3, 70, 0, 644), (3, 87, 2, 662), (3, 93, 3, 664), (3, 99, 1, 660)]
def stN (n : Nat) : String × String := [("WITHOUT_ITEM", "[I"), ("ITEM_LETTERS", "[C"), ("LEAST_OF_ITEM", "[I"), ("MOST_OF_ITEM", "[I")].getD n ("", "")
end
section
/-! an abstract machine over whole numbers: cells by number, 'St' what they hold; the weakest condition of a stretch of code -/
/-- an int, a long, a cell by its number -/
abbrev AV : Type := Int ⊕ (Int ⊕ Nat)
abbrev St : Type := Nat → Int → Int
abbrev LL : Type := List (Option AV)
/-- nothing; a class and a slot; a number; a number of a method, of a place in the code, of a static array -/
abbrev Inf : Type := Unit ⊕ ((Nat × Nat) ⊕ (Int ⊕ Nat))
abbrev CE : Type := Nat × Instr × Nat × Inf
/-- the classes' numbers and slots, where the cells lie, the classes of int, long and boolean arrays, where the static arrays lie -/
abbrev Wd : Type := va_G × (Nat → Nat) × ClassId × ClassId × ClassId × (Nat → Nat)
def i32 (v : Int) : Int := (v + 2147483648) % 4294967296 - 2147483648
def i64 (v : Int) : Int := (v + 9223372036854775808) % 18446744073709551616 - 9223372036854775808
def iand (a b : Int) : Int := (Int32.ofInt a &&& Int32.ofInt b).toInt
def ior (a b : Int) : Int := (Int32.ofInt a ||| Int32.ofInt b).toInt
def ixor (a b : Int) : Int := (Int32.ofInt a ^^^ Int32.ofInt b).toInt
def ishl (a b : Int) : Int := (Int32.ofInt a <<< (Int32.ofInt b &&& 31)).toInt
def ishr (a b : Int) : Int := (Int32.ofInt a >>> (Int32.ofInt b &&& 31)).toInt
def iushr (a b : Int) : Int := ((Int32.ofInt a).toUInt32 >>> ((Int32.ofInt b).toUInt32 &&& Int32.toUInt32 31)).toInt32.toInt
def idiv (a b : Int) : Int := (Int32.ofInt a / Int32.ofInt b).toInt
def irem (a b : Int) : Int := (Int32.ofInt a - Int32.ofInt a / Int32.ofInt b * Int32.ofInt b).toInt
def jdiv (a b : Int) : Int := (Int64.ofInt a / Int64.ofInt b).toInt
def jrem (a b : Int) : Int := (Int64.ofInt a - Int64.ofInt a / Int64.ofInt b * Int64.ofInt b).toInt
def jushr (a b : Int) : Int := ((Int64.ofInt a).toUInt64 >>> ((Int32.ofInt b).toInt64.toUInt64 &&& Int64.toUInt64 63)).toInt64.toInt
def jcmp (a b : Int) : Int := if b < a then 1 else if a = b then 0 else -1
def up (S : St) (c : Nat) (j v : Int) : St := fun c' => if c' = c then (fun j' => if j' = j then v else S c j') else S c'
def cpS (S : St) (a : Nat) (sp : Int) (b : Nat) (dp n : Int) : St := fun c' => if c' = b then (fun j => if dp ≤ j ∧ j < dp + n then S a (sp + (j - dp)) else S b j) else S c'
/-! what lies on the stack, in the locals: by continuations, so that what is known is written out -/
def pI (st : List AV) (f : Int → List AV → Prop) : Prop := match st with | .inl a :: r => f a r | _ => False
def pII (st : List AV) (f : Int → Int → List AV → Prop) : Prop := match st with | .inl b :: .inl a :: r => f a b r | _ => False
def pJ (st : List AV) (f : Int → List AV → Prop) : Prop := match st with | .inr (.inl a) :: r => f a r | _ => False
def pJJ (st : List AV) (f : Int → Int → List AV → Prop) : Prop := match st with | .inr (.inl b) :: .inr (.inl a) :: r => f a b r | _ => False
def pIJ (st : List AV) (f : Int → Int → List AV → Prop) : Prop := match st with | .inl b :: .inr (.inl a) :: r => f a b r | _ => False
def pR (st : List AV) (f : Nat → List AV → Prop) : Prop := match st with | .inr (.inr c) :: r => f c r | _ => False
def pIR (st : List AV) (f : Int → Nat → List AV → Prop) : Prop := match st with | .inl i :: .inr (.inr c) :: r => f i c r | _ => False
def pN : Nat → List AV → List AV → (List AV → List AV → Prop) → Prop
  | 0, st, acc, f => f acc st
  | n + 1, v :: st, acc, f => pN n st (v :: acc) f
  | _ + 1, [], _, _ => False
def ldI : LL → Nat → (Int → Prop) → Prop
  | [], _, _ => False
  | x :: L, i, f => match i with
    | 0 => match x with
      | some (.inl a) => f a
      | _ => False
    | i + 1 => ldI L i f
def ldJ : LL → Nat → (Int → Prop) → Prop
  | [], _, _ => False
  | x :: L, i, f => match i with
    | 0 => match x with
      | some (.inr (.inl a)) => f a
      | _ => False
    | i + 1 => ldJ L i f
def ldR : LL → Nat → (Nat → Prop) → Prop
  | [], _, _ => False
  | x :: L, i, f => match i with
    | 0 => match x with
      | some (.inr (.inr a)) => f a
      | _ => False
    | i + 1 => ldR L i f
def clr (x : Option AV) (f : Option AV → Prop) : Prop := match x with | some (.inr (.inl _)) => f none | some (.inl a) => f (some (.inl a)) | some (.inr (.inr a)) => f (some (.inr (.inr a))) | none => f none
def st1 : LL → Nat → AV → (LL → Prop) → Prop
  | [], _, _, _ => False
  | x :: L, i, v, f => match i with
    | 0 => f (some v :: L)
    | i + 1 => match i with
      | 0 => match L with
        | [] => False
        | _ :: L => clr x (fun x => f (x :: some v :: L))
      | i + 1 => st1 L (i + 1) v (fun L => f (x :: L))
def st2 : LL → Nat → AV → (LL → Prop) → Prop
  | [], _, _, _ => False
  | x :: L, i, v, f => match i with
    | 0 => match L with
      | [] => False
      | _ :: L => f (some v :: none :: L)
    | i + 1 => match i with
      | 0 => match L with
        | [] => False
        | _ :: L => match L with
          | [] => False
          | _ :: L => clr x (fun x => f (x :: some v :: none :: L))
      | i + 1 => st2 L (i + 1) v (fun L => f (x :: L))
def padL : Nat → LL
  | 0 => []
  | n + 1 => none :: padL n
/-- the locals with which a method begins -/
def enL : List AV → Nat → (LL → Prop) → Prop
  | [], n, f => f (padL n)
  | .inr (.inl a) :: r, n + 2, f => enL r n (fun L => f (some (.inr (.inl a)) :: none :: L))
  | .inl a :: r, n + 1, f => enL r n (fun L => f (some (.inl a) :: L))
  | .inr (.inr a) :: r, n + 1, f => enL r n (fun L => f (some (.inr (.inr a)) :: L))
  | _, _, _ => False
def cat : AV → Nat
  | .inr (.inl _) => 2
  | _ => 1
def cats : List AV → Nat
  | [] => 0
  | v :: r => cat v + cats r
def inN (n : Nat) : List Nat → Bool
  | [] => false
  | a :: r => match Nat.beq n a with | true => true | false => inN n r
def jmpK : List CE → Nat → (List CE → Prop) → Prop
  | [], _, _ => False
  | e :: is, t, f => match Nat.beq e.1 t with | true => f (e :: is) | false => jmpK is t f
/-- a field is read -/
def getK (c ci k : Nat) (S : St) (f : AV → Prop) : Prop := match shp c with
  | .inl (ci', ks) => match Nat.beq ci ci' with
    | true => match ks[k]? with
      | some (0, _, _, j) => f (.inl (S c j))
      | some (1, _, _, j) => f (.inr (.inl (S c j)))
      | some (2, t, _, _) => f (.inr (.inr t))
      | some (3, _, _, j) => f (.inl (S c j))
      | some (4, a, b, j) => (S c j = 0 → f (.inr (.inr a))) ∧ (S c j = 1 → f (.inr (.inr b)))
      | _ => False
    | false => False
  | _ => False
/-- a field is written -/
def putK (st : List AV) (ci k : Nat) (S : St) (f : List AV → St → Prop) : Prop := match st with
  | v :: .inr (.inr c) :: r => match shp c with
    | .inl (ci', ks) => match Nat.beq ci ci' with
      | true => match ks[k]?, v with
        | some (0, _, _, j), .inl a => f r (up S c j a)
        | some (1, _, _, j), .inr (.inl a) => f r (up S c j a)
        | some (3, _, _, j), .inl a => (a = 0 ∨ a = 1) ∧ f r (up S c j a)
        | some (4, x, y, j), .inr (.inr t) => match Nat.beq t x with
          | true => f r (up S c j 0)
          | false => match Nat.beq t y with
            | true => f r (up S c j 1)
            | false => False
        | _, _ => False
      | false => False
    | _ => False
  | _ => False
/-- an element of an int array (0; 5: a static one) is read -/
def aldI (c : Nat) (i : Int) (S : St) (f : AV → Prop) : Prop := match shp c with
  | .inr (0, _, n) => (0 ≤ i ∧ i < n) ∧ f (.inl (S c i))
  | .inr (5, t, n) => (0 ≤ i ∧ i < n) ∧ f (.inl (cst t i))
  | _ => False
def aldJ (c : Nat) (i : Int) (S : St) (f : AV → Prop) : Prop := match shp c with
  | .inr (1, _, n) => (0 ≤ i ∧ i < n) ∧ f (.inr (.inl (S c i)))
  | _ => False
def aldZ (c : Nat) (i : Int) (S : St) (f : AV → Prop) : Prop := match shp c with
  | .inr (2, _, n) => (0 ≤ i ∧ i < n) ∧ f (.inl (S c i))
  | _ => False
def aldC (c : Nat) (i : Int) (f : AV → Prop) : Prop := match shp c with
  | .inr (6, t, n) => (0 ≤ i ∧ i < n) ∧ f (.inl (cst t i))
  | _ => False
def astI (st : List AV) (S : St) (f : List AV → St → Prop) : Prop := match st with
  | .inl v :: .inl i :: .inr (.inr c) :: r => match shp c with
    | .inr (0, _, n) => (0 ≤ i ∧ i < n) ∧ f r (up S c i v)
    | _ => False
  | _ => False
def astJ (st : List AV) (S : St) (f : List AV → St → Prop) : Prop := match st with
  | .inr (.inl v) :: .inl i :: .inr (.inr c) :: r => match shp c with
    | .inr (1, _, n) => (0 ≤ i ∧ i < n) ∧ f r (up S c i v)
    | _ => False
  | _ => False
def astZ (st : List AV) (S : St) (f : List AV → St → Prop) : Prop := match st with
  | .inl v :: .inl i :: .inr (.inr c) :: r => match shp c with
    | .inr (2, _, n) => (0 ≤ i ∧ i < n) ∧ (v = 0 ∨ v = 1) ∧ f r (up S c i v)
    | _ => False
  | _ => False
def alnK (c : Nat) (f : Int → Prop) : Prop := match shp c with
  | .inr (0, _, n) => f n
  | .inr (1, _, n) => f n
  | .inr (2, _, n) => f n
  | _ => False
def cpyK (lo : Nat) (st : List AV) (S : St) (f : List AV → St → Prop) : Prop := match st with
  | .inl n :: .inl dp :: .inr (.inr b) :: .inl sp :: .inr (.inr a) :: r => match shp a, shp b, Nat.ble (cats r + 18) lo with
    | .inr (0, _, la), .inr (0, _, lb), true => (0 ≤ sp ∧ 0 ≤ dp ∧ 0 ≤ n ∧ sp + n ≤ la ∧ dp + n ≤ lb) ∧ f r (cpS S a sp b dp n)
    | .inr (1, _, la), .inr (1, _, lb), true => (0 ≤ sp ∧ 0 ≤ dp ∧ 0 ≤ n ∧ sp + n ≤ la ∧ dp + n ≤ lb) ∧ f r (cpS S a sp b dp n)
    | _, _, _ => False
  | _ => False
def swT (x : Int) : Int → List Int → (Int → Prop) → Prop
  | _, [], _ => True
  | lo, o :: r, f => (x = lo → f o) ∧ swT x (lo + 1) r f
def swL (x : Int) : List (Int × Int) → Int → (Int → Prop) → Prop
  | [], d, f => f d
  | (a, o) :: r, d, f => (x = a → f o) ∧ (¬ x = a → swL x r d f)
def br0 (k : ClassFile.Cond) (a : Int) (f g : Prop) : Prop := match k with
  | .eq => (a = 0 → f) ∧ (¬ a = 0 → g)
  | .ne => (¬ a = 0 → f) ∧ (a = 0 → g)
  | .lt => (a < 0 → f) ∧ (0 ≤ a → g)
  | .ge => (0 ≤ a → f) ∧ (a < 0 → g)
  | .gt => (0 < a → f) ∧ (a ≤ 0 → g)
  | .le => (a ≤ 0 → f) ∧ (0 < a → g)
def br2 (k : ClassFile.Cond) (a b : Int) (f g : Prop) : Prop := match k with
  | .eq => (a = b → f) ∧ (¬ a = b → g)
  | .ne => (¬ a = b → f) ∧ (a = b → g)
  | .lt => (a < b → f) ∧ (b ≤ a → g)
  | .ge => (b ≤ a → f) ∧ (a < b → g)
  | .gt => (b < a → f) ∧ (a ≤ b → g)
  | .le => (a ≤ b → f) ∧ (b < a → g)
/-! the world: what the heap holds -/
def cv (ad : Nat → Nat) : AV → Value
  | .inl a => .int (Int32.ofInt a)
  | .inr (.inl a) => .long (Int64.ofInt a)
  | .inr (.inr c) => .ref (ad c)
def fv (ad : Nat → Nat) (k : Nat × Nat × Nat × Int) (v : Int) : Value := match k with
  | (1, _, _, _) => .long (Int64.ofInt v)
  | (2, t, _, _) => .ref (ad t)
  | (4, a, b, _) => .ref (ad (if v = 0 then a else b))
  | _ => .int (Int32.ofInt v)
def cellF (w : Wd) (c : Nat) (f : Int → Int) : va_E := match shp c with
  | .inl (ci, ks) => .inr (ci, ks.map (fun k => fv w.2.1 k (f k.2.2.2)))
  | .inr (1, n, _) => .inl (w.2.2.2.1, n, .inr (.inl (fun j => Int64.ofInt (f j))))
  | .inr (2, n, _) => .inl (w.2.2.2.2.1, n, .inl (fun j => Int32.ofInt (f j)))
  | .inr (_, n, _) => .inl (w.2.2.1, n, .inl (fun j => Int32.ofInt (f j)))
def cellE (w : Wd) (c : Nat) (S : St) : va_E := cellF w c (S c)
def wl (w : Wd) (S : St) : va_W := (List.range nC).map (fun c => (w.2.1 c, cellE w c S))
def inA (w : Wd) : Nat → Prop := fun q => ∃ c, c < nC ∧ q = w.2.1 c
def Wo (w : Wd) (S : St) (H : Heap) : Prop := va_P w.1 vwCl (wl w S) H
/-- numbers within their kinds -/
def cnK (t : Nat) (v : Int) : Prop := match t with
  | 0 => i32 v = v
  | 1 => i64 v = v
  | 2 => True
  | _ => v = 0 ∨ v = 1
def cnC (c : Nat) (j v : Int) : Prop := match shp c with
  | .inl (_, ks) => ∀ k ∈ ks, k.2.2.2 = j → cnK k.1 v
  | .inr (0, _) => cnK 0 v
  | .inr (1, _) => cnK 1 v
  | .inr (2, _) => cnK 3 v
  | _ => True
def Can (S : St) : Prop := ∀ (c : Nat) (j : Int), cnC c j (S c j)
def cnV : AV → Prop
  | .inl a => i32 a = a
  | .inr (.inl a) => i64 a = a
  | .inr (.inr _) => True
def cnL (L : LL) : Prop := ∀ v, some v ∈ L → cnV v
def cnS (st : List AV) : Prop := ∀ v ∈ st, cnV v
/-- the locals, as the machine has them -/
def al (ad : Nat → Nat) : Nat → LL → List (Nat × Value)
  | _, [] => []
  | i, none :: L => al ad (i + 1) L
  | i, some v :: L => (i, cv ad v) :: al ad (i + 1) L
def lvp (ad : Nat → Nat) (ls : Array Slot) (nL : Nat) (L : LL) : Prop := lv_has ls nL (al ad 0 L)
/-- the static arrays -/
def stK (w : Wd) (U : State) (H : Heap) : Prop :=
  (va_Z "FarKeys" "WITHOUT_ITEM" "[I" (.ref (w.2.2.2.2.2 0)) (inA w) U H ∧ va_T .int (w.2.2.2.2.2 0) 16 (fun j => .int (Int32.ofInt (cst 0 j))) (inA w) U H) ∧
  (va_Z "FarKeys" "ITEM_LETTERS" "[C" (.ref (w.2.2.2.2.2 1)) (inA w) U H ∧ va_T .char (w.2.2.2.2.2 1) 16 (fun j => .int (Int32.ofInt (cst 1 j))) (inA w) U H) ∧
  (va_Z "FarKeys" "LEAST_OF_ITEM" "[I" (.ref (w.2.2.2.2.2 2)) (inA w) U H ∧ va_T .int (w.2.2.2.2.2 2) 16 (fun j => .int (Int32.ofInt (cst 2 j))) (inA w) U H) ∧
  (va_Z "FarKeys" "MOST_OF_ITEM" "[I" (.ref (w.2.2.2.2.2 3)) (inA w) U H ∧ va_T .int (w.2.2.2.2.2 3) 16 (fun j => .int (Int32.ofInt (cst 3 j))) (inA w) U H)
/-- the numbers of static arrays among the cells' -/
def sA (n : Nat) : Nat := 144 + n
def adOk (w : Wd) : Prop := (∀ i j, i < nC → j < nC → w.2.1 i = w.2.1 j → i = j) ∧ ∀ n, n < 4 → w.2.1 (sA n) = w.2.2.2.2.2 n
def tyK (w : Wd) : List (ClassId × FieldType) := [(w.2.2.1, .int), (w.2.2.2.1, .long), (w.2.2.2.2.1, .boolean)]
/-- what a state's tables say, and what nobody writes -/
def Kx (w : Wd) (U : State) : Prop := va_K w.1 vwCl (tyK w) U ∧ stK w U U.heap ∧ ∀ q ∈ slL, va_Nw (.fieldLinkNest (clN q.1) q.2.1 "FarKeys" (stN q.2.2.1).1 (stN q.2.2.1).2 "FarKeys") U
def rmO (h : Hd) : Room := { frames := h.2.2.2.2.2.1, cells := 0, slots := 0, locals := h.2.2.2.2.2.2.1 }
def Ctx (w : Wd) (h : Hd) (p : Program) (s : State) (m : MethodId) (args : Array Value) (meth : Method) (c : Code) : Prop :=
  p.tables.exec = Jvm.exec ∧ c.code = h.2.2.1 ∧ meth.sig.returnType = h.2.2.2.2.1 ∧ c.maxLocals = h.2.2.2.1 ∧ s.vm.findClass (clN h.1) = some m.cls ∧ (∀ w ∈ G, w.before args s = true) ∧ meth.locks = false ∧ Kx w s ∧ adOk w
def cnO (r : Option AV) : Prop := ∀ v, r = some v → cnV v
def Qcf (w : Wd) (Q : Option AV → St → Prop) : Array Value → State → Outcome → State → Prop := fun _ st o t =>
  (∃ r S, Q r S ∧ o = .returned (r.map (cv w.2.1)) ∧ Can S ∧ cnO r ∧ Wo w S t.heap ∧ st.vm.Alike t.vm) ∧ va_F (inA w) st t
def Cfg (w : Wd) (h : Hd) (s : State) (H : Heap) (locs : List Loc) (ls : Array Slot) (L : LL) (st : List AV) (S : St) : Prop :=
  Wo w S H ∧ Can S ∧ cnL L ∧ cnS st ∧ va_S (inA w) s.heap H locs ∧ lvp w.2.1 ls h.2.2.2.1 L
/-- from this place on, with these locals, this stack, this state, the method ends with Q -/
def Smm (h : Hd) (pc : Nat) (L : LL) (st : List AV) (S : St) (Q : Option AV → St → Prop) : Prop :=
  ∀ (w : Wd) (p : Program) (l : Launch) (e : Env) (s : State) (m : MethodId) (args : Array Value) (below : List Frame) (meth : Method) (c : Code),
    Ctx w h p s m args meth c → ∀ (H : Heap) (locs : List Loc) (ls : Array Slot), Cfg w h s H locs ls L st S →
      W p l e (rmO h) s m args below meth c H locs 0 0 (MQ below (Qcf w Q) args s 0 0 (inA w)) (F0 m pc ls (st.map (cv w.2.1)))
/-- a call: the callee with its arguments, then what goes on -/
def calK (h : Hd) (no : Nat) (st : List AV) (S : St) (f : List AV → St → Prop) : Prop := match hdTab no with
  | (oc, nm, by_, ml, rt, fr, lo, rc, np) => match Nat.ble (fr + 1) h.2.2.2.2.2.1, Nat.ble (19 + ml + lo) h.2.2.2.2.2.2.1 with
    | true, true => match rc with
      | 0 => pN np st [] (fun as r => match Nat.ble (cats r) 8 with
        | true => enL as ml (fun L => Smm (oc, nm, by_, ml, rt, fr, lo, rc, np) 0 L [] S (fun v S => f (v.toList ++ r) S))
        | false => False)
      | _ => pN np st [] (fun as r => pR r (fun c r => match shp c with
        | .inl (ci, _) => match Nat.beq ci oc, Nat.ble (cats r) 8 with
          | true, true => enL (.inr (.inr c) :: as) ml (fun L => Smm (oc, nm, by_, ml, rt, fr, lo, rc, np) 0 L [] S (fun v S => f (v.toList ++ r) S))
          | _, _ => False
        | _ => False))
    | _, _ => False
abbrev KT : Type := List CE → LL → List AV → St → Prop
def stepP (h : Hd) (Q : Option AV → St → Prop) (cd : List CE) (k : KT) (e : CE) (is : List CE) (L : LL) (st : List AV) (S : St) : Prop :=
  match e.2.1 with
  | .iload i => ldI L i (fun a => k is L (.inl a :: st) S)
  | .iload_n i => ldI L i.val (fun a => k is L (.inl a :: st) S)
  | .lload i => ldJ L i (fun a => k is L (.inr (.inl a) :: st) S)
  | .lload_n i => ldJ L i.val (fun a => k is L (.inr (.inl a) :: st) S)
  | .aload i => ldR L i (fun a => k is L (.inr (.inr a) :: st) S)
  | .aload_n i => ldR L i.val (fun a => k is L (.inr (.inr a) :: st) S)
  | .istore i => pI st (fun a r => st1 L i (.inl a) (fun L => k is L r S))
  | .istore_n i => pI st (fun a r => st1 L i.val (.inl a) (fun L => k is L r S))
  | .astore i => pR st (fun a r => st1 L i (.inr (.inr a)) (fun L => k is L r S))
  | .astore_n i => pR st (fun a r => st1 L i.val (.inr (.inr a)) (fun L => k is L r S))
  | .lstore i => pJ st (fun a r => st2 L i (.inr (.inl a)) (fun L => k is L r S))
  | .lstore_n i => pJ st (fun a r => st2 L i.val (.inr (.inl a)) (fun L => k is L r S))
  | .iinc i n => ldI L i (fun a => st1 L i (.inl (i32 (a + n))) (fun L => k is L st S))
  | .iconst n => k is L (.inl n :: st) S
  | .bipush n => k is L (.inl n :: st) S
  | .sipush n => k is L (.inl n :: st) S
  | .lconst n => k is L (.inr (.inl (n.val : Int)) :: st) S
  | .ldc _ => match e.2.2.2 with | .inr (.inr (.inl v)) => k is L (.inl v :: st) S | _ => False
  | .ldc_w _ => match e.2.2.2 with | .inr (.inr (.inl v)) => k is L (.inl v :: st) S | _ => False
  | .ldc2_w _ => match e.2.2.2 with | .inr (.inr (.inl v)) => k is L (.inr (.inl v) :: st) S | _ => False
  | .iadd => pII st (fun a b r => k is L (.inl (i32 (a + b)) :: r) S)
  | .isub => pII st (fun a b r => k is L (.inl (i32 (a - b)) :: r) S)
  | .imul => pII st (fun a b r => k is L (.inl (i32 (a * b)) :: r) S)
  | .ineg => pI st (fun a r => k is L (.inl (i32 (-a)) :: r) S)
  | .iand => pII st (fun a b r => k is L (.inl (iand a b) :: r) S)
  | .ior => pII st (fun a b r => k is L (.inl (ior a b) :: r) S)
  | .ixor => pII st (fun a b r => k is L (.inl (ixor a b) :: r) S)
  | .ishl => pII st (fun a b r => k is L (.inl (ishl a b) :: r) S)
  | .ishr => pII st (fun a b r => k is L (.inl (ishr a b) :: r) S)
  | .iushr => pII st (fun a b r => k is L (.inl (iushr a b) :: r) S)
  | .idiv => pII st (fun a b r => ¬ b = 0 ∧ k is L (.inl (idiv a b) :: r) S)
  | .irem => pII st (fun a b r => ¬ b = 0 ∧ k is L (.inl (irem a b) :: r) S)
  | .ladd => pJJ st (fun a b r => k is L (.inr (.inl (i64 (a + b))) :: r) S)
  | .lsub => pJJ st (fun a b r => k is L (.inr (.inl (i64 (a - b))) :: r) S)
  | .lmul => pJJ st (fun a b r => k is L (.inr (.inl (i64 (a * b))) :: r) S)
  | .ldiv => pJJ st (fun a b r => ¬ b = 0 ∧ k is L (.inr (.inl (jdiv a b)) :: r) S)
  | .lrem => pJJ st (fun a b r => ¬ b = 0 ∧ k is L (.inr (.inl (jrem a b)) :: r) S)
  | .lushr => pIJ st (fun a b r => k is L (.inr (.inl (jushr a b)) :: r) S)
  | .lcmp => pJJ st (fun a b r => k is L (.inl (jcmp a b) :: r) S)
  | .i2l => pI st (fun a r => k is L (.inr (.inl a) :: r) S)
  | .l2i => pJ st (fun a r => k is L (.inl (i32 a) :: r) S)
  | .dup => match st with | .inl a :: r => k is L (.inl a :: .inl a :: r) S | .inr (.inr a) :: r => k is L (.inr (.inr a) :: .inr (.inr a) :: r) S | _ => False
  | .dup2 => pIR st (fun i c r => k is L (.inl i :: .inr (.inr c) :: .inl i :: .inr (.inr c) :: r) S)
  | .pop => match st with | .inl _ :: r => k is L r S | .inr (.inr _) :: r => k is L r S | _ => False
  | .goto _ => match e.2.2.2 with | .inr (.inr (.inr t)) => jmpK cd t (fun is => k is L st S) | _ => False
  | .ifCond q _ => match e.2.2.2 with | .inr (.inr (.inr t)) => pI st (fun a r => br0 q a (jmpK cd t (fun is => k is L r S)) (k is L r S)) | _ => False
  | .if_icmp q _ => match e.2.2.2 with | .inr (.inr (.inr t)) => pII st (fun a b r => br2 q a b (jmpK cd t (fun is => k is L r S)) (k is L r S)) | _ => False
  | .tableswitch d lo hi offs => pI st (fun a r => ((a < lo ∨ hi < a) → jmpK cd ((e.1 : Int) + d).toNat (fun is => k is L r S)) ∧ swT a lo offs.toList (fun o => jmpK cd ((e.1 : Int) + o).toNat (fun is => k is L r S)))
  | .lookupswitch d ps => pI st (fun a r => swL a ps.toList d (fun o => jmpK cd ((e.1 : Int) + o).toNat (fun is => k is L r S)))
  | .getfield _ => match e.2.2.2 with | .inr (.inl (ci, j)) => pR st (fun c r => getK c ci j S (fun v => k is L (v :: r) S)) | _ => False
  | .putfield _ => match e.2.2.2 with | .inr (.inl (ci, j)) => putK st ci j S (fun r S => k is L r S) | _ => False
  | .getstatic _ => match e.2.2.2 with | .inr (.inr (.inr n)) => k is L (.inr (.inr (sA n)) :: st) S | _ => False
  | .iaload => pIR st (fun i c r => aldI c i S (fun v => k is L (v :: r) S))
  | .laload => pIR st (fun i c r => aldJ c i S (fun v => k is L (v :: r) S))
  | .baload => pIR st (fun i c r => aldZ c i S (fun v => k is L (v :: r) S))
  | .caload => pIR st (fun i c r => aldC c i (fun v => k is L (v :: r) S))
  | .iastore => astI st S (fun r S => k is L r S)
  | .lastore => astJ st S (fun r S => k is L r S)
  | .bastore => astZ st S (fun r S => k is L r S)
  | .arraylength => pR st (fun c r => alnK c (fun n => k is L (.inl n :: r) S))
  | .invokevirtual _ => match e.2.2.2 with | .inr (.inr (.inr n)) => calK h n st S (fun r S => k is L r S) | _ => False
  | .invokestatic _ => match e.2.2.2 with
    | .inr (.inr (.inr n)) => calK h n st S (fun r S => k is L r S)
    | .inl _ => cpyK h.2.2.2.2.2.2.1 st S (fun r S => k is L r S)
    | .inr (.inl (0, _)) => pII st (fun a b r => match Nat.ble (cats r + 13) h.2.2.2.2.2.2.1 with | true => k is L (.inl (max a b) :: r) S | false => False)
    | .inr (.inl (1, _)) => pII st (fun a b r => match Nat.ble (cats r + 13) h.2.2.2.2.2.2.1 with | true => k is L (.inl (min a b) :: r) S | false => False)
    | _ => False
  | .ireturn => match st, h.2.2.2.2.1 with
    | [.inl a], some .int => Q (some (.inl a)) S
    | [.inl a], some .boolean => (a = 0 ∨ a = 1) ∧ Q (some (.inl a)) S
    | _, _ => False
  | .lreturn => match st, h.2.2.2.2.1 with
    | [.inr (.inl a)], some .long => Q (some (.inr (.inl a))) S
    | _, _ => False
  | .areturn => match st, h.2.2.2.2.1 with
    | [.inr (.inr a)], some (.object _) => Q (some (.inr (.inr a))) S
    | _, _ => False
  | .return_ => match st, h.2.2.2.2.1 with
    | [], none => Q none S
    | _, _ => False
  | _ => False
def wp (h : Hd) (Q : Option AV → St → Prop) (cd : List CE) (stops : List Nat) : Nat → KT
  | _, [], _, _, _ => False
  | 0, e :: _, L, st, S => Smm h e.1 L st S Q
  | n + 1, e :: is, L, st, S => match inN e.1 stops with
    | true => Smm h e.1 L st S Q
    | false => stepP h Q cd (wp h Q cd stops n) e is L st S
/-- from a place on, till one of the stops -/
def run (h : Hd) (Q : Option AV → St → Prop) (cd : List CE) (stops : List Nat) (n pc : Nat) (L : LL) (st : List AV) (S : St) : Prop :=
  jmpK cd pc (fun is => match is with
    | [] => False
    | e :: is => stepP h Q cd (wp h Q cd stops n) e is L st S)
end
section
/-! the links that the code uses: by their places among the tables' words (printed by wip/whole/emit.py) -/
def flL_0 : List (Nat × Nat × Nat × Nat × Nat) := [(0, 9, 0, 0, 297), (0, 15, 0, 2, 301), (0, 18, 0, 3, 302), (0, 21, 0, 4, 303), (0, 24, 0, 6, 306), (0, 27, 0, 7, 308), (0, 30, 0, 8, 310), (0, 40, 0, 1, 299), (0, 44, 0, 5, 304), (0, 47, 0, 9, 311), (0, 51, 10, 8, 391), (1, 9, 1, 3, 507), (1, 15, 1, 4, 509), (1, 18, 1, 5, 510), (1, 21, 1, 6, 511), (1, 24, 1, 7, 512), (1, 30, 1, 8, 513), (1, 34, 1, 9, 514), (1, 37, 1, 1, 503), (1, 41, 1, 2, 505), (1, 44, 2, 1, 155), (1, 49, 1, 10, 515), (1, 62, 10, 8, 389), (1, 65, 2, 0, 149), (1, 79, 1, 0, 501), (1, 122, 10, 1, 374), (1, 126, 2, 4, 165), (1, 129, 2, 5, 171), (1, 139, 1, 11, 516), (1, 142, 1, 12, 517), (1, 145, 10, 2, 378), (1, 157, 6, 4, 358), (1, 160, 6, 2, 352), (1, 163, 6, 3, 355), (2, 9, 2, 8, 176), (2, 15, 2, 9, 178), (2, 18, 2, 10, 180), (2, 21, 2, 11, 182), (2, 24, 2, 12, 185), (2, 27, 2, 13, 188)]
def flL_1 : List (Nat × Nat × Nat × Nat × Nat) := [(2, 30, 2, 14, 190), (2, 33, 2, 0, 147), (2, 37, 2, 1, 153), (2, 40, 2, 2, 159), (2, 43, 2, 3, 160), (2, 49, 2, 4, 161), (2, 52, 2, 5, 167), (2, 55, 2, 6, 173), (2, 59, 2, 7, 174), (3, 12, 3, 1, 225), (3, 18, 3, 2, 227), (3, 22, 3, 0, 224), (3, 45, 9, 2, 119), (3, 52, 9, 1, 116), (3, 59, 9, 3, 123), (3, 90, 2, 1, 157), (4, 9, 4, 1, 242), (4, 15, 4, 0, 241), (4, 24, 4, 2, 244), (4, 28, 4, 3, 246), (4, 31, 4, 4, 248), (4, 34, 4, 5, 249), (4, 52, 9, 1, 117), (4, 59, 9, 3, 124), (4, 62, 9, 2, 120), (5, 9, 5, 0, 269), (5, 15, 5, 1, 270), (5, 18, 5, 2, 271), (5, 21, 5, 4, 274), (5, 24, 5, 5, 275), (5, 27, 5, 3, 272), (5, 31, 4, 1, 243), (5, 34, 4, 2, 245), (5, 42, 4, 3, 247), (6, 9, 6, 0, 347), (6, 15, 6, 2, 350), (6, 18, 6, 3, 353), (6, 21, 6, 1, 348), (6, 36, 6, 4, 356), (7, 9, 7, 0, 486)]
def flL_2 : List (Nat × Nat × Nat × Nat × Nat) := [(7, 18, 7, 1, 487), (7, 25, 2, 1, 154), (7, 45, 10, 7, 385), (7, 52, 10, 2, 377), (7, 62, 10, 8, 390), (7, 65, 10, 1, 373), (7, 69, 2, 0, 151), (7, 76, 2, 4, 164), (7, 79, 2, 5, 170), (7, 85, 6, 4, 357), (7, 88, 6, 2, 351), (7, 91, 6, 3, 354), (8, 9, 8, 3, 428), (8, 15, 8, 4, 430), (8, 18, 8, 5, 432), (8, 21, 8, 6, 434), (8, 37, 10, 9, 394), (8, 41, 10, 8, 388), (8, 44, 2, 0, 148), (8, 56, 2, 4, 162), (8, 67, 2, 5, 168), (8, 75, 10, 2, 376), (8, 88, 8, 0, 422), (8, 92, 8, 1, 424), (8, 95, 8, 13, 448), (8, 102, 8, 2, 426), (8, 105, 8, 7, 436), (8, 108, 8, 8, 438), (8, 111, 8, 9, 440), (8, 114, 8, 10, 442), (8, 118, 8, 11, 444), (8, 121, 8, 12, 446), (8, 124, 10, 1, 372), (9, 9, 9, 0, 114), (9, 15, 9, 3, 122), (9, 19, 9, 1, 118), (9, 22, 9, 2, 121), (10, 9, 10, 2, 375), (10, 15, 10, 3, 380), (10, 19, 10, 4, 381)]
def flL_3 : List (Nat × Nat × Nat × Nat × Nat) := [(10, 22, 10, 5, 382), (10, 25, 10, 6, 383), (10, 28, 10, 7, 384), (10, 31, 10, 8, 387), (10, 37, 10, 9, 393), (10, 41, 10, 0, 370), (10, 45, 10, 1, 371), (10, 53, 2, 1, 156), (10, 66, 2, 11, 183), (10, 69, 2, 0, 150), (10, 76, 2, 4, 163), (10, 82, 2, 5, 169), (10, 85, 6, 1, 349), (10, 102, 2, 14, 191), (10, 114, 2, 12, 187), (11, 12, 11, 0, 545), (11, 21, 11, 1, 546), (11, 28, 11, 2, 547), (11, 35, 11, 3, 548), (11, 42, 11, 4, 549), (11, 46, 11, 5, 550), (11, 49, 11, 6, 551), (11, 53, 11, 7, 552), (11, 59, 11, 8, 553), (11, 63, 11, 9, 554), (11, 71, 11, 11, 556), (11, 78, 11, 12, 557), (11, 85, 11, 13, 558), (11, 92, 11, 14, 559), (11, 100, 9, 1, 115), (11, 130, 2, 10, 181), (11, 133, 2, 11, 184), (11, 145, 2, 8, 177), (11, 148, 2, 9, 179), (11, 151, 0, 0, 298), (11, 154, 2, 14, 192), (11, 176, 8, 2, 427), (11, 194, 10, 8, 392), (11, 203, 8, 5, 433), (11, 206, 8, 3, 429)]
def flL_4 : List (Nat × Nat × Nat × Nat × Nat) := [(11, 209, 8, 4, 431), (11, 212, 8, 7, 437), (11, 216, 8, 8, 439), (11, 219, 8, 9, 441), (11, 227, 2, 1, 158), (11, 247, 1, 3, 508), (11, 257, 2, 7, 175), (11, 268, 8, 6, 435), (11, 278, 0, 1, 300), (11, 296, 10, 2, 379), (11, 314, 2, 0, 152), (11, 317, 8, 10, 443), (11, 320, 8, 11, 445), (11, 323, 8, 12, 447), (11, 341, 10, 7, 386), (11, 350, 0, 9, 312), (11, 354, 0, 5, 305), (11, 367, 0, 6, 307), (11, 370, 0, 7, 309), (11, 379, 11, 10, 555), (11, 382, 5, 3, 273), (11, 385, 2, 4, 166), (11, 388, 2, 5, 172), (11, 394, 3, 1, 226), (11, 403, 8, 0, 423), (11, 406, 8, 1, 425), (11, 409, 1, 0, 502), (11, 414, 1, 1, 504), (11, 417, 1, 2, 506), (12, 1, 12, 0, 1343), (12, 13, 12, 1, 1344), (12, 17, 12, 9, 1352), (12, 20, 12, 10, 1353), (12, 23, 12, 11, 1354), (12, 26, 12, 14, 1357), (12, 29, 12, 16, 1359), (12, 32, 12, 23, 1366), (12, 35, 12, 24, 1367), (12, 38, 12, 25, 1368), (12, 41, 12, 26, 1369)]
def flL_5 : List (Nat × Nat × Nat × Nat × Nat) := [(12, 44, 12, 27, 1370), (12, 47, 12, 28, 1371), (12, 50, 12, 29, 1372), (12, 53, 12, 30, 1373), (12, 56, 12, 32, 1375), (12, 59, 12, 33, 1376), (12, 62, 12, 34, 1377), (12, 65, 12, 35, 1378), (12, 68, 12, 36, 1379), (12, 71, 12, 37, 1380), (12, 74, 12, 39, 1382), (12, 77, 12, 40, 1383), (12, 80, 12, 41, 1384), (12, 83, 12, 42, 1385), (12, 86, 12, 43, 1386), (12, 89, 12, 44, 1387), (12, 92, 12, 45, 1388), (12, 95, 12, 46, 1389), (12, 98, 12, 47, 1390), (12, 101, 12, 48, 1391), (12, 104, 12, 50, 1393), (12, 107, 12, 53, 1396), (12, 110, 12, 54, 1397), (12, 114, 12, 55, 1398), (12, 118, 12, 60, 1403), (12, 121, 12, 61, 1404), (12, 124, 12, 62, 1405), (12, 127, 12, 63, 1406), (12, 130, 12, 64, 1407), (12, 136, 12, 2, 1345), (12, 147, 12, 3, 1346), (12, 158, 12, 4, 1347), (12, 161, 12, 5, 1348), (12, 164, 12, 6, 1349), (12, 167, 12, 7, 1350), (12, 170, 12, 8, 1351), (12, 173, 12, 12, 1355), (12, 176, 12, 13, 1356), (12, 198, 12, 17, 1360), (12, 201, 12, 15, 1358)]
def flL_6 : List (Nat × Nat × Nat × Nat × Nat) := [(12, 213, 12, 18, 1361), (12, 220, 12, 19, 1362), (12, 223, 12, 31, 1374), (12, 226, 12, 20, 1363), (12, 229, 12, 21, 1364), (12, 232, 12, 22, 1365), (12, 235, 12, 49, 1392), (12, 238, 12, 52, 1395), (12, 241, 12, 56, 1399), (12, 253, 12, 38, 1381), (12, 332, 12, 51, 1394), (12, 346, 12, 57, 1400), (12, 349, 12, 58, 1401), (12, 352, 12, 59, 1402)]
def flL : List (Nat × Nat × Nat × Nat × Nat) := flL_0 ++ flL_1 ++ flL_2 ++ flL_3 ++ flL_4 ++ flL_5 ++ flL_6
def flN : Nat := 7
def mlL_0 : List (Nat × Nat × Nat × Nat) := [(0, 56, 81, 1116), (1, 52, 27, 996), (1, 56, 76, 997), (1, 68, 47, 998), (1, 72, 18, 999), (1, 76, 77, 1021), (1, 83, 15, 1077), (1, 87, 16, 1081), (1, 91, 17, 1086), (1, 94, 11, 1090), (1, 106, 31, 1085), (1, 110, 81, 1003), (1, 114, 48, 1005), (1, 118, 49, 1009), (1, 132, 52, 1010), (1, 136, 19, 1011), (1, 148, 20, 1015), (1, 153, 14, 1020), (2, 69, 23, 680), (3, 26, 69, 614), (3, 31, 21, 618), (3, 34, 33, 625), (3, 37, 71, 645), (3, 41, 72, 629), (3, 49, 25, 681), (3, 55, 70, 640), (3, 62, 36, 633), (3, 66, 23, 636), (3, 73, 34, 649), (3, 76, 35, 653), (3, 80, 24, 676), (3, 84, 37, 657), (3, 96, 73, 666), (4, 19, 69, 689), (4, 38, 71, 690), (4, 42, 72, 691), (4, 46, 39, 692), (4, 49, 41, 706), (4, 55, 70, 705), (4, 67, 42, 696)]
def mlL_1 : List (Nat × Nat × Nat × Nat) := [(4, 70, 40, 700), (4, 73, 73, 704), (5, 45, 46, 823), (6, 25, 49, 848), (6, 39, 50, 954), (6, 45, 53, 957), (7, 22, 57, 939), (7, 31, 27, 943), (7, 35, 76, 944), (7, 41, 58, 945), (7, 48, 81, 962), (7, 55, 59, 966), (7, 59, 77, 975), (7, 72, 47, 949), (7, 82, 52, 950), (7, 94, 14, 970), (8, 24, 62, 786), (8, 27, 76, 792), (8, 33, 63, 838), (8, 50, 47, 844), (8, 59, 50, 853), (8, 63, 64, 858), (8, 70, 51, 862), (8, 78, 65, 866), (8, 82, 66, 870), (8, 85, 77, 874), (8, 98, 79, 1140), (9, 25, 72, 670), (9, 29, 74, 671), (9, 33, 70, 675), (10, 49, 83, 796), (10, 58, 85, 809), (10, 62, 84, 834), (10, 72, 47, 917), (10, 79, 50, 918), (10, 88, 49, 1144), (10, 91, 76, 1046), (10, 95, 78, 1047), (10, 99, 77, 1048), (10, 105, 44, 800)]
def mlL_2 : List (Nat × Nat × Nat × Nat) := [(10, 110, 27, 804), (10, 117, 30, 813), (10, 121, 45, 818), (11, 96, 67, 595), (11, 104, 68, 598), (11, 108, 32, 610), (11, 112, 38, 685), (11, 113, 136, 714), (11, 116, 137, 733), (11, 119, 130, 754), (11, 142, 129, 746), (11, 158, 131, 763), (11, 161, 138, 729), (11, 164, 128, 771), (11, 168, 134, 775), (11, 172, 139, 778), (11, 179, 26, 878), (11, 182, 145, 886), (11, 186, 141, 896), (11, 190, 75, 901), (11, 197, 135, 905), (11, 200, 78, 913), (11, 223, 54, 935), (11, 230, 56, 976), (11, 234, 133, 984), (11, 237, 140, 988), (11, 241, 10, 1022), (11, 244, 11, 1026), (11, 250, 12, 1034), (11, 253, 22, 718), (11, 260, 80, 1042), (11, 264, 55, 1057), (11, 271, 31, 1065), (11, 274, 13, 1073), (11, 281, 2, 1099), (11, 285, 3, 1107), (11, 288, 76, 1111), (11, 292, 4, 1112), (11, 299, 82, 1117), (11, 302, 77, 1121)]
def mlL_3 : List (Nat × Nat × Nat × Nat) := [(11, 305, 233, 1126), (11, 310, 61, 1136), (11, 326, 142, 1153), (11, 334, 144, 1166), (11, 338, 29, 1176), (11, 344, 28, 1184), (11, 347, 143, 1192), (11, 357, 5, 1204), (11, 360, 6, 1210), (11, 364, 132, 1219), (11, 373, 7, 1231), (11, 376, 0, 1239), (11, 391, 8, 1251), (11, 397, 1, 725), (11, 400, 43, 737), (11, 410, 60, 782), (11, 419, 9, 992), (11, 427, 146, 889), (12, 133, 163, 1339), (12, 139, 149, 1544), (12, 143, 150, 1547), (12, 150, 152, 1567), (12, 154, 153, 1582), (12, 179, 157, 1563), (12, 182, 156, 1585), (12, 186, 158, 1571), (12, 190, 159, 1574), (12, 194, 154, 1578), (12, 204, 160, 1593), (12, 207, 155, 1559), (12, 210, 161, 1589), (12, 217, 165, 1601), (12, 244, 167, 1609), (12, 247, 168, 1613), (12, 250, 166, 1620), (12, 256, 178, 1652), (12, 260, 177, 1656), (12, 263, 179, 1661), (12, 266, 181, 1673), (12, 269, 180, 1669)]
def mlL_4 : List (Nat × Nat × Nat × Nat) := [(12, 272, 175, 1648), (12, 275, 182, 1665), (12, 278, 176, 1677), (12, 281, 173, 1636), (12, 284, 174, 1640), (12, 287, 183, 1644), (12, 290, 184, 1685), (12, 293, 187, 1692), (12, 297, 194, 1717), (12, 301, 193, 1721), (12, 304, 199, 1741), (12, 307, 197, 1733), (12, 310, 198, 1737), (12, 313, 202, 1753), (12, 316, 209, 1781), (12, 319, 211, 1789), (12, 322, 213, 1796), (12, 325, 215, 1804), (12, 340, 223, 1842), (12, 343, 226, 1852)]
def mlL : List (Nat × Nat × Nat × Nat) := mlL_0 ++ mlL_1 ++ mlL_2 ++ mlL_3 ++ mlL_4
def clL_0 : List (Nat × Nat × Int × Nat) := [(1, 113, 1000000, 1004), (1, 152, (-1000000), 1019), (2, 62, 2000000, 624), (2, 73, 1000000, 817), (5, 44, 1000000, 822), (5, 58, (-1000000), 827), (6, 29, 1000000, 852), (6, 43, (-2000000), 955), (6, 44, 4000000, 956), (8, 74, 1000000, 790), (8, 117, (-1000000), 791), (10, 113, 1000000, 808), (11, 157, 2000000, 758), (11, 189, (-1000000), 900), (11, 215, 1000000, 908), (12, 259, 1000000, 1660), (12, 296, (-1000000), 1696), (14, 265, 1431655765, 1129), (14, 266, 858993459, 1130), (14, 267, 252645135, 1131)]
def clL : List (Nat × Nat × Int × Nat) := clL_0
def clJ_0 : List (Nat × Nat × Int × Nat) := [(0, 60, 6364136223846793005, 1208), (0, 62, 1442695040888963407, 1209), (11, 423, 1000000000, 1170), (11, 425, 100, 1171), (12, 328, 1000000000, 1820), (12, 330, 100, 1821), (12, 336, 6364136223846793005, 1846), (12, 338, 1442695040888963407, 1847)]
def clJ : List (Nat × Nat × Int × Nat) := clJ_0
def alL_0 : List (Nat × Nat × Nat) := [(0, 34, 1214), (2, 63, 722), (5, 36, 741)]
def alL : List (Nat × Nat × Nat) := alL_0
def mmL_0 : List (Nat × Nat × Nat × Nat) := [(1, 97, 1, 973), (1, 103, 0, 974), (5, 49, 0, 828), (5, 55, 1, 831), (6, 30, 1, 857), (6, 49, 0, 961), (8, 128, 1, 842), (8, 133, 0, 843), (11, 329, 0, 1165)]
def mmL : List (Nat × Nat × Nat × Nat) := mmL_0
def hpL_0 : List (Nat × Nat × Nat × Nat) := [(1242, 86, 1240, 1241), (728, 86, 726, 727), (1102, 86, 1100, 1101), (1110, 86, 1108, 1109), (1115, 86, 1113, 1114), (1207, 86, 1205, 1206), (1213, 86, 1211, 1212), (1234, 86, 1232, 1233), (1254, 86, 1252, 1253), (995, 91, 993, 994), (1025, 91, 1023, 1024), (1029, 91, 1027, 1028), (1037, 91, 1035, 1036), (1076, 91, 1074, 1075), (972, 91, 971, 971), (1080, 91, 1079, 35), (1084, 91, 1083, 36), (1089, 91, 1088, 37), (1002, 91, 1001, 32), (1014, 91, 1013, 33), (1018, 91, 1017, 34), (621, 83, 619, 620), (721, 83, 719, 720), (639, 83, 637, 638), (679, 83, 677, 678), (684, 83, 682, 683), (881, 83, 879, 880), (807, 83, 805, 806), (1187, 83, 1185, 1186), (1179, 83, 1177, 1178), (816, 83, 814, 815), (1068, 83, 1066, 1067), (613, 82, 611, 612), (628, 82, 627, 0), (652, 82, 651, 1), (656, 82, 655, 2), (635, 82, 634, 634), (659, 82, 658, 658), (688, 84, 686, 687), (695, 84, 694, 4)]
def hpL_1 : List (Nat × Nat × Nat × Nat) := [(703, 84, 702, 6), (709, 84, 708, 7), (699, 84, 698, 5), (740, 85, 738, 739), (803, 85, 801, 802), (821, 85, 819, 820), (826, 85, 825, 19), (847, 88, 845, 846), (1008, 88, 1006, 1007), (851, 88, 849, 850), (856, 88, 854, 855), (865, 88, 863, 864), (953, 88, 951, 952), (960, 88, 959, 28), (938, 90, 936, 937), (1060, 90, 1058, 1059), (979, 90, 977, 978), (942, 90, 941, 26), (948, 90, 947, 27), (969, 90, 968, 29), (785, 89, 783, 784), (1139, 89, 1137, 1138), (789, 89, 788, 16), (841, 89, 840, 21), (861, 89, 860, 22), (869, 89, 868, 23), (873, 89, 872, 24), (597, 81, 596, 596), (601, 81, 599, 600), (617, 81, 615, 616), (643, 81, 641, 642), (648, 81, 646, 647), (632, 81, 630, 631), (669, 81, 667, 668), (674, 81, 673, 3), (904, 87, 902, 903), (795, 87, 793, 794), (877, 87, 875, 876), (916, 87, 914, 915), (1143, 87, 1141, 1142)]
def hpL_2 : List (Nat × Nat × Nat × Nat) := [(1045, 87, 1043, 1044), (965, 87, 963, 964), (1120, 87, 1118, 1119), (799, 87, 798, 17), (837, 87, 836, 20), (812, 87, 811, 18), (594, 80, 592, 593), (605, 80, 603, 604), (609, 80, 607, 608), (713, 80, 711, 712), (745, 80, 743, 744), (753, 80, 751, 752), (762, 80, 760, 761), (770, 80, 768, 769), (885, 80, 883, 884), (895, 80, 893, 894), (912, 80, 910, 911), (922, 80, 920, 921), (926, 80, 924, 925), (930, 80, 928, 929), (934, 80, 932, 933), (983, 80, 981, 982), (1033, 80, 1031, 1032), (1041, 80, 1039, 1040), (1052, 80, 1050, 1051), (1056, 80, 1054, 1055), (1064, 80, 1062, 1063), (1072, 80, 1070, 1071), (1094, 80, 1092, 1093), (1098, 80, 1096, 1097), (1106, 80, 1104, 1105), (1125, 80, 1123, 1124), (1135, 80, 1133, 1134), (1148, 80, 1146, 1147), (1152, 80, 1150, 1151), (1160, 80, 1158, 1159), (1164, 80, 1162, 1163), (1175, 80, 1173, 1174), (1183, 80, 1181, 1182), (1191, 80, 1189, 1190)]
def hpL_3 : List (Nat × Nat × Nat × Nat) := [(1199, 80, 1197, 1198), (1203, 80, 1201, 1202), (1218, 80, 1216, 1217), (1226, 80, 1224, 1225), (1230, 80, 1228, 1229), (1238, 80, 1236, 1237), (1246, 80, 1244, 1245), (1250, 80, 1248, 1249), (774, 80, 773, 14), (749, 80, 748, 11), (757, 80, 756, 12), (766, 80, 765, 13), (1222, 80, 1221, 41), (987, 80, 986, 30), (777, 80, 776, 776), (907, 80, 906, 906), (717, 80, 716, 8), (736, 80, 735, 10), (732, 80, 731, 9), (781, 80, 780, 15), (991, 80, 990, 31), (899, 80, 898, 25), (1156, 80, 1155, 38), (1195, 80, 1194, 40), (1169, 80, 1168, 39), (888, 80, 887, 887), (891, 80, 890, 890), (1332, 92, 1330, 1331), (1543, 92, 1541, 1542), (1546, 92, 1545, 1545), (1550, 92, 1549, 44), (1554, 92, 1552, 1553), (1570, 92, 1569, 47), (1584, 92, 1583, 1583), (1581, 92, 1580, 49), (1562, 92, 1561, 45), (1588, 92, 1587, 50), (1566, 92, 1565, 46), (1573, 92, 1572, 1572), (1577, 92, 1576, 48)]
def hpL_4 : List (Nat × Nat × Nat × Nat) := [(1596, 92, 1595, 52), (1592, 92, 1591, 51), (1558, 92, 1556, 1557), (1342, 92, 1341, 43), (1600, 92, 1598, 1599), (1604, 92, 1603, 53), (1623, 92, 1622, 55), (1612, 92, 1611, 54), (1615, 92, 1614, 1614), (1608, 92, 1606, 1607), (1619, 92, 1617, 1618), (1627, 92, 1625, 1626), (1631, 92, 1629, 1630), (1639, 92, 1638, 56), (1643, 92, 1642, 57), (1651, 92, 1650, 59), (1680, 92, 1679, 66), (1659, 92, 1658, 61), (1655, 92, 1654, 60), (1664, 92, 1663, 62), (1672, 92, 1671, 64), (1676, 92, 1675, 65), (1668, 92, 1667, 63), (1647, 92, 1646, 58), (1687, 92, 1686, 1686), (1635, 92, 1633, 1634), (1684, 92, 1682, 1683), (1695, 92, 1694, 67), (1691, 92, 1689, 1690), (1700, 92, 1698, 1699), (1704, 92, 1702, 1703), (1708, 92, 1706, 1707), (1712, 92, 1710, 1711), (1724, 92, 1723, 69), (1720, 92, 1719, 68), (1716, 92, 1714, 1715), (1728, 92, 1726, 1727), (1736, 92, 1735, 70), (1740, 92, 1739, 71), (1744, 92, 1743, 72)]
def hpL_5 : List (Nat × Nat × Nat × Nat) := [(1732, 92, 1730, 1731), (1748, 92, 1746, 1747), (1756, 92, 1755, 73), (1752, 92, 1750, 1751), (1760, 92, 1758, 1759), (1764, 92, 1762, 1763), (1768, 92, 1766, 1767), (1772, 92, 1770, 1771), (1776, 92, 1774, 1775), (1784, 92, 1783, 74), (1780, 92, 1778, 1779), (1791, 92, 1790, 1790), (1788, 92, 1786, 1787), (1799, 92, 1798, 75), (1795, 92, 1793, 1794), (1807, 92, 1806, 76), (1803, 92, 1801, 1802), (1811, 92, 1809, 1810), (1815, 92, 1813, 1814), (1819, 92, 1817, 1818), (1825, 92, 1823, 1824), (1829, 92, 1827, 1828), (1833, 92, 1831, 1832), (1845, 92, 1844, 77), (1837, 92, 1835, 1836), (1841, 92, 1839, 1840), (1855, 92, 1854, 78), (1851, 92, 1849, 1850), (1859, 92, 1857, 1858), (1863, 92, 1861, 1862), (1867, 92, 1865, 1866), (1871, 92, 1869, 1870), (1875, 92, 1873, 1874), (1128, 99, 1127, 1127)]
def hpL : List (Nat × Nat × Nat × Nat) := hpL_0 ++ hpL_1 ++ hpL_2 ++ hpL_3 ++ hpL_4 ++ hpL_5
def clE (ci : Nat) : vw_C := vwCl.getD ci ("", fun _ => ("", "", "", false), 0)
def flC (oc x ci k : Nat) : Bool := flL.any (fun e => Nat.beq e.1 oc && Nat.beq e.2.1 x && Nat.beq e.2.2.1 ci && Nat.beq e.2.2.2.1 k)
def mlC (oc x n : Nat) : Bool := mlL.any (fun e => Nat.beq e.1 oc && Nat.beq e.2.1 x && Nat.beq e.2.2.1 n)
def clC (oc x : Nat) (v : Int) : Bool := clL.any (fun e => Nat.beq e.1 oc && Nat.beq e.2.1 x && decide (e.2.2.1 = v))
def cjC (oc x : Nat) (v : Int) : Bool := clJ.any (fun e => Nat.beq e.1 oc && Nat.beq e.2.1 x && decide (e.2.2.1 = v))
def slC (oc x n : Nat) : Bool := slL.any (fun e => Nat.beq e.1 oc && Nat.beq e.2.1 x && Nat.beq e.2.2.1 n)
def alC (oc x : Nat) : Bool := alL.any (fun e => Nat.beq e.1 oc && Nat.beq e.2.1 x)
def mmN (n : Nat) : MethodName := match n with | 0 => Lib.Math.max.name | _ => Lib.Math.min.name
def mmC (oc x n : Nat) : Bool := mmL.any (fun e => Nat.beq e.1 oc && Nat.beq e.2.1 x && Nat.beq e.2.2.1 n)
theorem flL_ok : flL.all (fun e => decide (lw_tbl[e.2.2.2.2]? = some (.fieldLink (clN e.1) e.2.1 ((clE e.2.2.1).2.1 e.2.2.2.1).1 ((clE e.2.2.1).2.1 e.2.2.2.1).2.1 ((clE e.2.2.1).2.1 e.2.2.2.1).2.2.1)) && Nat.blt e.2.2.2.1 (clE e.2.2.1).2.2 && Nat.blt e.2.2.1 13) = true := by decide +kernel
theorem mlL_ok : mlL.all (fun e => decide (lw_tbl[e.2.2.2]? = some (.methodLink (clN e.1) e.2.1 (hdTab e.2.2.1).2.1)) && Nat.blt e.2.2.1 234) = true := by decide +kernel
theorem clL_ok : clL.all (fun e => decide (lw_tbl[e.2.2.2]? = some (.constant (clN e.1) e.2.1 (Int32.ofInt e.2.2.1))) && decide (i32 e.2.2.1 = e.2.2.1)) = true := by decide +kernel
theorem clJ_ok : clJ.all (fun e => decide (lw_tbl[e.2.2.2]? = some (.constantLong (clN e.1) e.2.1 (Int64.ofInt e.2.2.1))) && decide (i64 e.2.2.1 = e.2.2.1)) = true := by decide +kernel
theorem alL_ok : alL.all (fun e => decide (lw_tbl[e.2.2]? = some (.methodLink (clN e.1) e.2.1 arraycopyName))) = true := by decide +kernel
theorem mmL_ok : mmL.all (fun e => decide (lw_tbl[e.2.2.2]? = some (.methodLink (clN e.1) e.2.1 (mmN e.2.2.1)))) = true := by decide +kernel
theorem ac_ok : decide (lw_tbl[724]? = some (.native arraycopyName)) && decide (lw_tbl[723]? = some (.static arraycopyName)) && decide (lw_tbl[93]? = some (.initialized "java/lang/System")) = true := by decide +kernel
/-- how long an instruction is -/
def lnI : Instr → Nat
  | .iload _ => 2
  | .lload _ => 2
  | .aload _ => 2
  | .istore _ => 2
  | .astore _ => 2
  | .lstore _ => 2
  | .iinc _ _ => 3
  | .bipush _ => 2
  | .sipush _ => 3
  | .ldc _ => 2
  | .ldc_w _ => 3
  | .ldc2_w _ => 3
  | .goto _ => 3
  | .ifCond _ _ => 3
  | .if_icmp _ _ => 3
  | .getfield _ => 3
  | .putfield _ => 3
  | .getstatic _ => 3
  | .invokevirtual _ => 3
  | .invokestatic _ => 3
  | .tableswitch _ _ _ _ => 0
  | .lookupswitch _ _ => 0
  | _ => 1
/-- an instruction's own facts: its links, its place in the code, its local -/
def chkI (h : Hd) (pc : Nat) (i : Instr) (f : Inf) : Bool := match i with
  | .istore i => Nat.blt i h.2.2.2.1
  | .istore_n i => Nat.blt i.val h.2.2.2.1
  | .astore i => Nat.blt i h.2.2.2.1
  | .astore_n i => Nat.blt i.val h.2.2.2.1
  | .lstore i => Nat.blt (i + 1) h.2.2.2.1
  | .lstore_n i => Nat.blt (i.val + 1) h.2.2.2.1
  | .iinc i _ => Nat.blt i h.2.2.2.1
  | .iconst n => decide (i32 n = n)
  | .bipush n => decide ((Int8.ofInt n).toInt32 = Int32.ofInt n) && decide (i32 n = n)
  | .sipush n => decide ((Int16.ofInt n).toInt32 = Int32.ofInt n) && decide (i32 n = n)
  | .ldc x => match f with | .inr (.inr (.inl v)) => clC h.1 x v | _ => false
  | .ldc_w x => match f with | .inr (.inr (.inl v)) => clC h.1 x v | _ => false
  | .ldc2_w x => match f with | .inr (.inr (.inl v)) => cjC h.1 x v | _ => false
  | .goto o => match f with | .inr (.inr (.inr t)) => decide ((pc : Int) + o = (t : Int)) | _ => false
  | .ifCond _ o => match f with | .inr (.inr (.inr t)) => decide ((pc : Int) + o = (t : Int)) | _ => false
  | .if_icmp _ o => match f with | .inr (.inr (.inr t)) => decide ((pc : Int) + o = (t : Int)) | _ => false
  | .getfield x => match f with | .inr (.inl (ci, k)) => flC h.1 x ci k | _ => false
  | .putfield x => match f with | .inr (.inl (ci, k)) => flC h.1 x ci k && !((clE ci).2.1 k).2.2.2 | _ => false
  | .getstatic x => match f with | .inr (.inr (.inr n)) => slC h.1 x n | _ => false
  | .invokevirtual x => match f with | .inr (.inr (.inr n)) => mlC h.1 x n && !(Nat.beq (hdTab n).2.2.2.2.2.2.2.1 0) | _ => false
  | .invokestatic x => match f with | .inr (.inr (.inr n)) => mlC h.1 x n && Nat.beq (hdTab n).2.2.2.2.2.2.2.1 0 | .inl _ => alC h.1 x && Nat.ble 1 h.2.2.2.2.2.1 | .inr (.inl (n, _)) => mmC h.1 x n && Nat.ble 1 h.2.2.2.2.2.1 | _ => false
  | .tableswitch d lo hi offs => decide (hi - lo + 1 = (offs.size : Int)) && decide (0 ≤ (pc : Int) + d) && offs.toList.all (fun o => decide (0 ≤ (pc : Int) + o))
  | .lookupswitch d ps => (ps.toList.zip (ps.toList.drop 1)).all (fun (a, next) => a.1 < next.1) && decide (0 ≤ (pc : Int) + d) && ps.toList.all (fun q => decide (0 ≤ (pc : Int) + q.2))
  | _ => true
def chkE (h : Hd) (e : CE) : Bool := decide (decode h.2.2.1 e.1 = .ok (e.2.1, e.2.2.1)) && (match lnI e.2.1 with | 0 => true | n + 1 => Nat.beq e.2.2.1 (n + 1)) && chkI h e.1 e.2.1 e.2.2.2
def chkC : List CE → Bool
  | e :: e' :: r => Nat.beq (e.1 + e.2.2.1) e'.1 && chkC (e' :: r)
  | _ => true
def okM (h : Hd) (cd : List CE) : Bool := cd.all (chkE h) && chkC cd
end
section
/-! numbers: 32 and 64 bits -/
theorem toInt_i32 (v : Int) : (Int32.ofInt v).toInt = i32 v := by
  rw [Int32.toInt_ofInt]
  simp only [Int.bmod, i32, Int32.size]
  split <;> omega
theorem toInt_i64 (v : Int) : (Int64.ofInt v).toInt = i64 v := by
  rw [Int64.toInt_ofInt]
  simp only [Int.bmod, i64, Int64.size]
  split <;> omega
theorem ofInt_i32 (v : Int) : Int32.ofInt (i32 v) = Int32.ofInt v := by rw [← toInt_i32, Int32.ofInt_toInt]
theorem ofInt_i64 (v : Int) : Int64.ofInt (i64 v) = Int64.ofInt v := by rw [← toInt_i64, Int64.ofInt_toInt]
theorem can32 {v : Int} : i32 v = v ↔ -2147483648 ≤ v ∧ v ≤ 2147483647 := by unfold i32; omega
theorem can64 {v : Int} : i64 v = v ↔ -9223372036854775808 ≤ v ∧ v ≤ 9223372036854775807 := by unfold i64; omega
theorem i32_id {v : Int} (h : -2147483648 ≤ v) (h2 : v ≤ 2147483647) : i32 v = v := can32.mpr ⟨h, h2⟩
theorem i64_id {v : Int} (h : -9223372036854775808 ≤ v) (h2 : v ≤ 9223372036854775807) : i64 v = v := can64.mpr ⟨h, h2⟩
theorem i32_i32 (v : Int) : i32 (i32 v) = i32 v := by unfold i32; omega
theorem i64_i64 (v : Int) : i64 (i64 v) = i64 v := by unfold i64; omega
theorem can_toInt32 (x : Int32) : i32 x.toInt = x.toInt := by rw [← toInt_i32, Int32.ofInt_toInt]
theorem can_toInt64 (x : Int64) : i64 x.toInt = x.toInt := by rw [← toInt_i64, Int64.ofInt_toInt]
theorem i64_of32 {v : Int} (h : i32 v = v) : i64 v = v := by rw [can32] at h; rw [can64]; omega
theorem lt32 {a b : Int} (ha : i32 a = a) (hb : i32 b = b) : Int32.ofInt a < Int32.ofInt b ↔ a < b := by rw [Int32.lt_iff_toInt_lt, toInt_i32, toInt_i32, ha, hb]
theorem le32 {a b : Int} (ha : i32 a = a) (hb : i32 b = b) : Int32.ofInt a ≤ Int32.ofInt b ↔ a ≤ b := by rw [Int32.le_iff_toInt_le, toInt_i32, toInt_i32, ha, hb]
theorem eq32 {a b : Int} (ha : i32 a = a) (hb : i32 b = b) : Int32.ofInt a = Int32.ofInt b ↔ a = b := by rw [← Int32.toInt_inj, toInt_i32, toInt_i32, ha, hb]
theorem eq64 {a b : Int} (ha : i64 a = a) (hb : i64 b = b) : Int64.ofInt a = Int64.ofInt b ↔ a = b := by rw [← Int64.toInt_inj, toInt_i64, toInt_i64, ha, hb]
theorem lt64 {a b : Int} (ha : i64 a = a) (hb : i64 b = b) : Int64.ofInt a < Int64.ofInt b ↔ a < b := by rw [Int64.lt_iff_toInt_lt, toInt_i64, toInt_i64, ha, hb]
theorem of0 : (0 : Int32) = Int32.ofInt 0 := rfl
theorem c0 : i32 0 = 0 := rfl
theorem clamp32 {i : Int} (hi : i32 i = i) (h : 0 ≤ i) : (Int32.ofInt i).toNatClampNeg = i.toNat := by
  rw [can32] at hi
  exact Int32.toNatClampNeg_ofInt_of_le (by omega) (by omega)
theorem vpin {i : Int} {n : Nat} (hi : i32 i = i) (h : 0 ≤ i ∧ i < (n : Int)) : vp_in (Int32.ofInt i) n := by
  rw [vp_in_iff, toInt_i32, hi]
  exact h
theorem Int32_0 {b : Int} (hb : i32 b = b) (h : ¬ b = 0) : ¬ Int32.ofInt b = 0 := fun q => h ((eq32 hb c0).mp q)
theorem Int64_0 {b : Int} (hb : i64 b = b) (h : ¬ b = 0) : ¬ Int64.ofInt b = 0 := fun q => h ((eq64 hb (by rfl)).mp q)
theorem of_lcmp {a b : Int} (ha : i64 a = a) (hb : i64 b = b) : lg_cmp (Int64.ofInt a) (Int64.ofInt b) = Int32.ofInt (jcmp a b) := by
  unfold lg_cmp jcmp
  simp only [lt64 hb ha, eq64 ha hb]
  split
  · rfl
  · split <;> rfl
theorem can_jcmp (a b : Int) : i32 (jcmp a b) = jcmp a b := by
  unfold jcmp
  split
  · rfl
  · split <;> rfl
theorem of_max {a b : Int} (ha : i32 a = a) (hb : i32 b = b) : (if Int32.ofInt a < Int32.ofInt b then Int32.ofInt b else Int32.ofInt a) = Int32.ofInt (max a b) := by
  by_cases h : a < b
  · rw [if_pos ((lt32 ha hb).mpr h), Int.max_eq_right (by omega)]
  · rw [if_neg (fun q => h ((lt32 ha hb).mp q)), Int.max_eq_left (by omega)]
/-! locals and stack -/
theorem pI_spec {st : List AV} {f : Int → List AV → Prop} (h : pI st f) : ∃ a r, st = .inl a :: r ∧ f a r := by
  unfold pI at h
  split at h
  · exact ⟨_, _, rfl, h⟩
  · exact h.elim
theorem pII_spec {st : List AV} {f : Int → Int → List AV → Prop} (h : pII st f) : ∃ a b r, st = .inl b :: .inl a :: r ∧ f a b r := by
  unfold pII at h
  split at h
  · exact ⟨_, _, _, rfl, h⟩
  · exact h.elim
theorem pJ_spec {st : List AV} {f : Int → List AV → Prop} (h : pJ st f) : ∃ a r, st = .inr (.inl a) :: r ∧ f a r := by
  unfold pJ at h
  split at h
  · exact ⟨_, _, rfl, h⟩
  · exact h.elim
theorem pJJ_spec {st : List AV} {f : Int → Int → List AV → Prop} (h : pJJ st f) : ∃ a b r, st = .inr (.inl b) :: .inr (.inl a) :: r ∧ f a b r := by
  unfold pJJ at h
  split at h
  · exact ⟨_, _, _, rfl, h⟩
  · exact h.elim
theorem pIJ_spec {st : List AV} {f : Int → Int → List AV → Prop} (h : pIJ st f) : ∃ a b r, st = .inl b :: .inr (.inl a) :: r ∧ f a b r := by
  unfold pIJ at h
  split at h
  · exact ⟨_, _, _, rfl, h⟩
  · exact h.elim
theorem pR_spec {st : List AV} {f : Nat → List AV → Prop} (h : pR st f) : ∃ a r, st = .inr (.inr a) :: r ∧ f a r := by
  unfold pR at h
  split at h
  · exact ⟨_, _, rfl, h⟩
  · exact h.elim
theorem pIR_spec {st : List AV} {f : Int → Nat → List AV → Prop} (h : pIR st f) : ∃ i c r, st = .inl i :: .inr (.inr c) :: r ∧ f i c r := by
  unfold pIR at h
  split at h
  · exact ⟨_, _, _, rfl, h⟩
  · exact h.elim
theorem pN_spec {f : List AV → List AV → Prop} : ∀ (n : Nat) (st acc : List AV), pN n st acc f → ∃ as r, as.length = n ∧ st = as.reverse ++ r ∧ f (as ++ acc) r
  | 0, st, acc, h => ⟨[], st, rfl, rfl, h⟩
  | n + 1, v :: st, acc, h => by
    obtain ⟨as, r, h1, h2, h3⟩ := pN_spec n st (v :: acc) h
    exact ⟨as ++ [v], r, by simp [h1], by simp [h2], by simpa using h3⟩
  | n + 1, [], acc, h => False.elim h
theorem ldI_spec {f : Int → Prop} : ∀ (L : LL) (i : Nat), ldI L i f → ∃ a, L[i]? = some (some (.inl a)) ∧ f a
  | [], _, h => False.elim h
  | some (.inl a) :: _, 0, h => ⟨a, rfl, h⟩
  | some (.inr _) :: _, 0, h => False.elim h
  | none :: _, 0, h => False.elim h
  | x :: L, i + 1, h => by
    obtain ⟨a, h1, h2⟩ := ldI_spec L i h
    exact ⟨a, by simpa using h1, h2⟩
theorem ldJ_spec {f : Int → Prop} : ∀ (L : LL) (i : Nat), ldJ L i f → ∃ a, L[i]? = some (some (.inr (.inl a))) ∧ f a
  | [], _, h => False.elim h
  | some (.inr (.inl a)) :: _, 0, h => ⟨a, rfl, h⟩
  | some (.inr (.inr _)) :: _, 0, h => False.elim h
  | some (.inl _) :: _, 0, h => False.elim h
  | none :: _, 0, h => False.elim h
  | x :: L, i + 1, h => by
    obtain ⟨a, h1, h2⟩ := ldJ_spec L i h
    exact ⟨a, by simpa using h1, h2⟩
theorem ldR_spec {f : Nat → Prop} : ∀ (L : LL) (i : Nat), ldR L i f → ∃ a, L[i]? = some (some (.inr (.inr a))) ∧ f a
  | [], _, h => False.elim h
  | some (.inr (.inr a)) :: _, 0, h => ⟨a, rfl, h⟩
  | some (.inr (.inl _)) :: _, 0, h => False.elim h
  | some (.inl _) :: _, 0, h => False.elim h
  | none :: _, 0, h => False.elim h
  | x :: L, i + 1, h => by
    obtain ⟨a, h1, h2⟩ := ldR_spec L i h
    exact ⟨a, by simpa using h1, h2⟩
theorem clr_spec {f : Option AV → Prop} (x : Option AV) (h : clr x f) : ∃ x', f x' ∧ ∀ u, x' = some u → x = some u ∧ ¬ cat u = 2 := by
  unfold clr at h
  split at h
  · exact ⟨none, h, fun u q => by cases q⟩
  · exact ⟨_, h, fun u q => by cases q; exact ⟨rfl, by simp [cat]⟩⟩
  · exact ⟨_, h, fun u q => by cases q; exact ⟨rfl, by simp [cat]⟩⟩
  · exact ⟨none, h, fun u q => by cases q⟩
theorem st1_spec {v : AV} : ∀ (L : LL) (i : Nat) (f : LL → Prop), st1 L i v f → ∃ L', f L' ∧ ∀ j u, L'[j]? = some (some u) → (j = i ∧ u = v) ∨ (j ≠ i ∧ L[j]? = some (some u) ∧ ¬ (j + 1 = i ∧ cat u = 2))
  | [], _, _, h => False.elim h
  | x :: L, 0, f, h => ⟨some v :: L, h, fun j u q => by
    cases j with
    | zero => exact Or.inl ⟨rfl, by simpa using q.symm⟩
    | succ j => exact Or.inr ⟨by omega, by simpa using q, by omega⟩⟩
  | x :: [], 1, f, h => False.elim h
  | x :: y :: L, 1, f, h => by
    obtain ⟨x', h1, h2⟩ := clr_spec (f := fun x => f (x :: some v :: L)) x h
    refine ⟨x' :: some v :: L, h1, fun j u q => ?_⟩
    match j, q with
    | 0, q =>
      have q : x' = some u := by simpa using q
      exact Or.inr ⟨by omega, by simpa using (h2 u q).1, fun z => (h2 u q).2 z.2⟩
    | 1, q => exact Or.inl ⟨rfl, by simpa using q.symm⟩
    | j + 2, q => exact Or.inr ⟨by omega, by simpa using q, by omega⟩
  | x :: L, i + 2, f, h => by
    obtain ⟨L', h1, h2⟩ := st1_spec L (i + 1) (fun L => f (x :: L)) h
    refine ⟨x :: L', h1, fun j u q => ?_⟩
    cases j with
    | zero => exact Or.inr ⟨by omega, by simpa using q, by omega⟩
    | succ j =>
      rcases h2 j u (by simpa using q) with ⟨a, b⟩ | ⟨a, b, d⟩
      · exact Or.inl ⟨by omega, b⟩
      · exact Or.inr ⟨by omega, by simpa using b, fun z => d ⟨by omega, z.2⟩⟩
theorem st2_spec {v : AV} : ∀ (L : LL) (i : Nat) (f : LL → Prop), st2 L i v f → ∃ L', f L' ∧ ∀ j u, L'[j]? = some (some u) → (j = i ∧ u = v) ∨ (j ≠ i ∧ j ≠ i + 1 ∧ L[j]? = some (some u) ∧ ¬ (j + 1 = i ∧ cat u = 2))
  | [], _, _, h => False.elim h
  | x :: [], 0, f, h => False.elim h
  | x :: y :: L, 0, f, h => ⟨some v :: none :: L, h, fun j u q => by
    match j, q with
    | 0, q => exact Or.inl ⟨rfl, by simpa using q.symm⟩
    | 1, q => simp at q
    | j + 2, q => exact Or.inr ⟨by omega, by omega, by simpa using q, by omega⟩⟩
  | x :: [], 1, f, h => False.elim h
  | x :: y :: [], 1, f, h => False.elim h
  | x :: y :: z :: L, 1, f, h => by
    obtain ⟨x', h1, h2⟩ := clr_spec (f := fun x => f (x :: some v :: none :: L)) x h
    refine ⟨x' :: some v :: none :: L, h1, fun j u q => ?_⟩
    match j, q with
    | 0, q =>
      have q : x' = some u := by simpa using q
      exact Or.inr ⟨by omega, by omega, by simpa using (h2 u q).1, fun z => (h2 u q).2 z.2⟩
    | 1, q => exact Or.inl ⟨rfl, by simpa using q.symm⟩
    | 2, q => simp at q
    | j + 3, q => exact Or.inr ⟨by omega, by omega, by simpa using q, by omega⟩
  | x :: L, i + 2, f, h => by
    obtain ⟨L', h1, h2⟩ := st2_spec L (i + 1) (fun L => f (x :: L)) h
    refine ⟨x :: L', h1, fun j u q => ?_⟩
    cases j with
    | zero => exact Or.inr ⟨by omega, by omega, by simpa using q, by omega⟩
    | succ j =>
      rcases h2 j u (by simpa using q) with ⟨a, b⟩ | ⟨a, a2, b, d⟩
      · exact Or.inl ⟨by omega, b⟩
      · exact Or.inr ⟨by omega, by omega, by simpa using b, fun z => d ⟨by omega, z.2⟩⟩
theorem mem_al {ad : Nat → Nat} : ∀ (L : LL) (i : Nat) (q : Nat × Value), q ∈ al ad i L ↔ ∃ j u, q = (i + j, cv ad u) ∧ L[j]? = some (some u)
  | [], i, q => by simp [al]
  | none :: L, i, q => by
    rw [al, mem_al L (i + 1) q]
    constructor
    · rintro ⟨j, u, h1, h2⟩
      exact ⟨j + 1, u, by rw [h1]; congr 1; omega, by simpa using h2⟩
    · rintro ⟨j, u, h1, h2⟩
      cases j with
      | zero => simp at h2
      | succ j => exact ⟨j, u, by rw [h1]; congr 1; omega, by simpa using h2⟩
  | some v :: L, i, q => by
    rw [al, List.mem_cons, mem_al L (i + 1) q]
    constructor
    · rintro (h | ⟨j, u, h1, h2⟩)
      · exact ⟨0, v, by rw [h]; rfl, rfl⟩
      · exact ⟨j + 1, u, by rw [h1]; congr 1; omega, by simpa using h2⟩
    · rintro ⟨j, u, h1, h2⟩
      cases j with
      | zero =>
        have e : v = u := by simpa using h2
        exact Or.inl (by rw [h1, e]; rfl)
      | succ j => exact Or.inr ⟨j, u, by rw [h1]; congr 1; omega, by simpa using h2⟩
theorem cat_cv (ad : Nat → Nat) (v : AV) : (cv ad v).category = cat v := by
  rcases v with a | a | a <;> rfl
theorem lvp_get {ad : Nat → Nat} {ls : Array Slot} {nL : Nat} {L : LL} {i : Nat} {v : AV} (h : lvp ad ls nL L) (hi : L[i]? = some (some v)) : ls[i]? = some (.val (cv ad v)) :=
  h.2.2 (i, cv ad v) ((mem_al L 0 _).mpr ⟨i, v, by rw [Nat.zero_add], hi⟩)
theorem lvp_st1 {ad : Nat → Nat} {ls' : Array Slot} {nL i : Nat} {L L' : LL} {v : AV} (h : lv_has ls' nL ((i, cv ad v) :: (al ad 0 L).filter (fun q => !(q.1 == i) && !(q.1 + 1 == i && q.2.category == 2))))
    (hs : ∀ j u, L'[j]? = some (some u) → (j = i ∧ u = v) ∨ (j ≠ i ∧ L[j]? = some (some u) ∧ ¬ (j + 1 = i ∧ cat u = 2))) : lvp ad ls' nL L' := by
  refine ⟨h.1, h.2.1, fun q hq => ?_⟩
  obtain ⟨j, u, e, hj⟩ := (mem_al L' 0 q).mp hq
  rw [Nat.zero_add] at e
  subst e
  refine h.2.2 _ ?_
  rcases hs j u hj with ⟨a, b⟩ | ⟨a, b, d⟩
  · rw [a, b]; exact List.mem_cons_self
  · refine List.mem_cons_of_mem _ (List.mem_filter.mpr ⟨(mem_al L 0 _).mpr ⟨j, u, by rw [Nat.zero_add], b⟩, ?_⟩)
    simp only [cat_cv, Bool.and_eq_true, Bool.not_eq_true', beq_eq_false_iff_ne, ne_eq, Bool.and_eq_false_iff]
    refine ⟨a, ?_⟩
    by_cases z : j + 1 = i
    · exact Or.inr (fun z2 => d ⟨z, z2⟩)
    · exact Or.inl z
theorem lvp_st2 {ad : Nat → Nat} {ls' : Array Slot} {nL i : Nat} {L L' : LL} {v : AV} (h : lv_has ls' nL ((i, cv ad v) :: (al ad 0 L).filter (fun q => !(q.1 == i) && (!(q.1 == i + 1) && !(q.1 + 1 == i && q.2.category == 2)))))
    (hs : ∀ j u, L'[j]? = some (some u) → (j = i ∧ u = v) ∨ (j ≠ i ∧ j ≠ i + 1 ∧ L[j]? = some (some u) ∧ ¬ (j + 1 = i ∧ cat u = 2))) : lvp ad ls' nL L' := by
  refine ⟨h.1, h.2.1, fun q hq => ?_⟩
  obtain ⟨j, u, e, hj⟩ := (mem_al L' 0 q).mp hq
  rw [Nat.zero_add] at e
  subst e
  refine h.2.2 _ ?_
  rcases hs j u hj with ⟨a, b⟩ | ⟨a, a2, b, d⟩
  · rw [a, b]; exact List.mem_cons_self
  · refine List.mem_cons_of_mem _ (List.mem_filter.mpr ⟨(mem_al L 0 _).mpr ⟨j, u, by rw [Nat.zero_add], b⟩, ?_⟩)
    simp only [cat_cv, Bool.and_eq_true, Bool.not_eq_true', beq_eq_false_iff_ne, ne_eq, Bool.and_eq_false_iff]
    refine ⟨a, a2, ?_⟩
    by_cases z : j + 1 = i
    · exact Or.inr (fun z2 => d ⟨z, z2⟩)
    · exact Or.inl z
theorem cnL_get {L : LL} {i : Nat} {v : AV} (h : cnL L) (hi : L[i]? = some (some v)) : cnV v := h v (List.mem_of_getElem? hi)
theorem cnL_st {L L' : LL} {i : Nat} {v : AV} (h : cnL L) (hv : cnV v) (hs : ∀ j u, L'[j]? = some (some u) → (j = i ∧ u = v) ∨ (L[j]? = some (some u))) : cnL L' := by
  intro u hu
  obtain ⟨j, hj⟩ := List.getElem?_of_mem hu
  rcases hs j u hj with ⟨-, a⟩ | a
  · rw [a]; exact hv
  · exact h u (List.mem_of_getElem? a)
end
section
/-! the world: its cells read and written -/
theorem wl_get (w : Wd) (S : St) {c : Nat} (h : c < nC) : (wl w S)[c]? = some (w.2.1 c, cellE w c S) := by
  unfold wl
  rw [List.getElem?_map, List.getElem?_range h]
  rfl
theorem wl_len (w : Wd) (S : St) : (wl w S).length = nC := by simp [wl]
theorem wl_set (w : Wd) {S S' : St} {c : Nat} (h : c < nC) (ho : ∀ c', c' ≠ c → S' c' = S c') : (wl w S).set c (w.2.1 c, cellE w c S') = wl w S' := by
  apply List.ext_getElem?
  intro i
  by_cases hi : i < nC
  · by_cases hc : i = c
    · subst hc
      rw [List.getElem?_set_self (by rw [wl_len]; exact hi), wl_get w S' hi]
    · rw [List.getElem?_set_ne (Ne.symm hc), wl_get w S hi, wl_get w S' hi]
      unfold cellE
      rw [ho i hc]
  · rw [List.getElem?_eq_none (by rw [List.length_set, wl_len]; omega), List.getElem?_eq_none (by rw [wl_len]; omega)]
theorem wl_D (w : Wd) (S : St) (h : adOk w) : va_D (inA w) (wl w S) := by
  have key : ∀ (i : Nat) (q : Nat × va_E), (wl w S)[i]? = some q → i < nC ∧ q.1 = w.2.1 i := by
    intro i q hq
    have hi : i < nC := by
      have := (List.getElem?_eq_some_iff.mp hq).1
      rwa [wl_len] at this
    rw [wl_get w S hi] at hq
    cases hq
    exact ⟨hi, rfl⟩
  refine ⟨fun i j p q hp hq e => ?_, fun k q hq => ?_⟩
  · obtain ⟨h1, h2⟩ := key i p hp
    obtain ⟨h3, h4⟩ := key j q hq
    exact h.1 i j h1 h3 (by rw [← h2, ← h4, e])
  · obtain ⟨h1, h2⟩ := key k q hq
    exact ⟨k, h1, h2⟩
/-! shapes: what is so of all of them -/
def kdOk (ci : Nat) (k : Nat) (q : Nat × Nat × Nat × Int) : Bool := decide (q.2.2.2 = (k : Int)) && (match q.1 with
  | 0 => decide ((tyCl.getD ci (fun _ => .int)) k = .int)
  | 1 => decide ((tyCl.getD ci (fun _ => .int)) k = .long)
  | 2 => true
  | 3 => decide ((tyCl.getD ci (fun _ => .int)) k = .boolean)
  | 4 => (match (tyCl.getD ci (fun _ => .int)) k with | .object _ => true | _ => false)
  | _ => false)
def kdsOk (ci : Nat) : Nat → List (Nat × Nat × Nat × Int) → Bool
  | _, [] => true
  | k, q :: r => kdOk ci k q && kdsOk ci (k + 1) r
def shOk (c : Nat) : Bool := match shp c with
  | .inl (ci, ks) => Nat.blt c nC && Nat.blt ci 13 && Nat.beq ks.length (clE ci).2.2 && kdsOk ci 0 ks
  | .inr (0, n, m) => Nat.blt c nC && decide (m = (n : Int)) && Nat.blt n 100000
  | .inr (1, n, m) => Nat.blt c nC && decide (m = (n : Int)) && Nat.blt n 100000
  | .inr (2, n, m) => Nat.blt c nC && decide (m = (n : Int)) && Nat.blt n 100000
  | .inr (5, n, m) => Nat.beq c (sA n) && Nat.blt n 4 && decide (m = 16) && !(Nat.beq n 1)
  | .inr (6, n, m) => Nat.beq c (sA n) && Nat.beq n 1 && decide (m = 16)
  | .inr (9, _, _) => true
  | _ => false
theorem shOk_lt : (List.range 160).all shOk = true := by decide +kernel
theorem shp_out {c : Nat} (h : 160 ≤ c) : shp c = .inr (9, 0, 0) := by
  unfold shp
  have e : shpT.getD (c / 16) [] = [] := by
    rw [List.getD_eq_getElem?_getD, List.getElem?_eq_none (by show 10 ≤ c / 16; omega)]
    rfl
  rw [e]
  rfl
theorem shOk_all (c : Nat) : shOk c = true := by
  by_cases h : c < 160
  · exact List.all_eq_true.mp shOk_lt c (List.mem_range.mpr h)
  · unfold shOk
    rw [shp_out (by omega)]
    rfl
theorem kds_spec {ci : Nat} : ∀ (ks : List (Nat × Nat × Nat × Int)) (k0 : Nat), kdsOk ci k0 ks = true → ∀ (k : Nat) (q : Nat × Nat × Nat × Int), ks[k]? = some q → kdOk ci (k0 + k) q = true
  | [], _, _, k, q, h => by simp at h
  | x :: ks, k0, h, k, q, hq => by
    simp only [kdsOk, Bool.and_eq_true] at h
    cases k with
    | zero =>
      have e : x = q := by simpa using hq
      rw [← e]
      exact h.1
    | succ k =>
      have := kds_spec ks (k0 + 1) h.2 k q (by simpa using hq)
      rwa [show k0 + (k + 1) = k0 + 1 + k by omega]
theorem sh_obj {c ci : Nat} {ks : List (Nat × Nat × Nat × Int)} (h : shp c = .inl (ci, ks)) : c < nC ∧ ci < 13 ∧ ks.length = (clE ci).2.2 ∧ ∀ k q, ks[k]? = some q → kdOk ci k q = true := by
  have h1 := shOk_all c
  unfold shOk at h1
  rw [h] at h1
  simp only [Bool.and_eq_true] at h1
  obtain ⟨⟨⟨h1, h2⟩, h3⟩, h4⟩ := h1
  exact ⟨Nat.ble_eq.mp h1, Nat.ble_eq.mp h2, Nat.beq_eq.mp h3, fun k q hq => by simpa using kds_spec ks 0 h4 k q hq⟩
theorem sh_arr {c t n : Nat} {m : Int} (h : shp c = .inr (t, n, m)) (ht : t = 0 ∨ t = 1 ∨ t = 2) : c < nC ∧ m = (n : Int) ∧ n < 100000 := by
  have h1 := shOk_all c
  unfold shOk at h1
  rw [h] at h1
  rcases ht with rfl | rfl | rfl
  all_goals
    simp only [Bool.and_eq_true, decide_eq_true_eq] at h1
    exact ⟨Nat.ble_eq.mp h1.1.1, h1.1.2, Nat.ble_eq.mp h1.2⟩
theorem sh_st5 {c n : Nat} {m : Int} (h : shp c = .inr (5, n, m)) : c = sA n ∧ n < 4 ∧ m = 16 ∧ n ≠ 1 := by
  have h1 := shOk_all c
  unfold shOk at h1
  rw [h] at h1
  simp only [Bool.and_eq_true, decide_eq_true_eq, Bool.not_eq_true'] at h1
  exact ⟨Nat.beq_eq.mp h1.1.1.1, Nat.ble_eq.mp h1.1.1.2, h1.1.2, fun q => by rw [q] at h1; simp at h1⟩
theorem sh_st6 {c n : Nat} {m : Int} (h : shp c = .inr (6, n, m)) : c = sA 1 ∧ n = 1 ∧ m = 16 := by
  have h1 := shOk_all c
  unfold shOk at h1
  rw [h] at h1
  simp only [Bool.and_eq_true, decide_eq_true_eq] at h1
  have e := Nat.beq_eq.mp h1.1.2
  subst e
  exact ⟨Nat.beq_eq.mp h1.1.1, rfl, h1.2⟩
theorem clE_get : ∀ ci, ci < 13 → vwCl[ci]? = some (clE ci) := by
  intro ci h
  unfold clE
  rw [List.getD_eq_getElem?_getD]
  cases q : vwCl[ci]? with
  | none =>
    have := List.getElem?_eq_none_iff.mp q
    exact absurd this (by show ¬ 13 ≤ ci; omega)
  | some a => rfl
theorem uE : ∀ ci, ci < 13 → ∀ w ∈ u_ws (clE ci).1 (clE ci).2.1 (clE ci).2.2, w ∈ G
  | 0, _ => uX0
  | 1, _ => uX1
  | 2, _ => uX2
  | 3, _ => uX3
  | 4, _ => uX4
  | 5, _ => uX5
  | 6, _ => uX6
  | 7, _ => uX7
  | 8, _ => uX8
  | 9, _ => uX9
  | 10, _ => uX10
  | 11, _ => uX11
  | 12, _ => uX12
  | n + 13, h => absurd h (by omega)
theorem tyE : ∀ ci, ci < 13 → ∀ k, k < (clE ci).2.2 → parseFieldDescriptor ((clE ci).2.1 k).2.2.1 = some ((tyCl.getD ci (fun _ => .int)) k)
  | 0, _ => tyX0_ok
  | 1, _ => tyX1_ok
  | 2, _ => tyX2_ok
  | 3, _ => tyX3_ok
  | 4, _ => tyX4_ok
  | 5, _ => tyX5_ok
  | 6, _ => tyX6_ok
  | 7, _ => tyX7_ok
  | 8, _ => tyX8_ok
  | 9, _ => tyX9_ok
  | 10, _ => tyX10_ok
  | 11, _ => tyX11_ok
  | 12, _ => tyX12_ok
  | n + 13, h => absurd h (by omega)
theorem nmE : ∀ ci, ci < 13 → ∀ a, a < (clE ci).2.2 → ∀ b, b < (clE ci).2.2 → a ≠ b → ((clE ci).2.1 a).2.1 ≠ ((clE ci).2.1 b).2.1
  | 0, _ => nmX0
  | 1, _ => nmX1
  | 2, _ => nmX2
  | 3, _ => nmX3
  | 4, _ => nmX4
  | 5, _ => nmX5
  | 6, _ => nmX6
  | 7, _ => nmX7
  | 8, _ => nmX8
  | 9, _ => nmX9
  | 10, _ => nmX10
  | 11, _ => nmX11
  | 12, _ => nmX12
  | n + 13, h => absurd h (by omega)
/-! links -/
theorem flE {oc x ci k : Nat} (h : flC oc x ci k = true) : Cond.fieldLink (clN oc) x ((clE ci).2.1 k).1 ((clE ci).2.1 k).2.1 ((clE ci).2.1 k).2.2.1 ∈ G ∧ k < (clE ci).2.2 ∧ ci < 13 := by
  unfold flC at h
  obtain ⟨e, he, h⟩ := List.any_eq_true.mp h
  simp only [Bool.and_eq_true] at h
  obtain ⟨⟨⟨h1, h2⟩, h3⟩, h4⟩ := h
  have e1 := Nat.beq_eq.mp h1
  have e2 := Nat.beq_eq.mp h2
  have e3 := Nat.beq_eq.mp h3
  have e4 := Nat.beq_eq.mp h4
  subst e1 e2 e3 e4
  have h5 := List.all_eq_true.mp flL_ok e he
  simp only [Bool.and_eq_true, decide_eq_true_eq] at h5
  exact ⟨mG _ h5.1.1 rfl, Nat.ble_eq.mp h5.1.2, Nat.ble_eq.mp h5.2⟩
theorem mlE {oc x n : Nat} (h : mlC oc x n = true) : Cond.methodLink (clN oc) x (hdTab n).2.1 ∈ G := by
  unfold mlC at h
  obtain ⟨e, he, h⟩ := List.any_eq_true.mp h
  simp only [Bool.and_eq_true] at h
  obtain ⟨⟨h1, h2⟩, h3⟩ := h
  have e1 := Nat.beq_eq.mp h1
  have e2 := Nat.beq_eq.mp h2
  have e3 := Nat.beq_eq.mp h3
  subst e1 e2 e3
  have h5 := List.all_eq_true.mp mlL_ok e he
  simp only [Bool.and_eq_true, decide_eq_true_eq] at h5
  exact mG _ h5.1 rfl
theorem clCE {oc x : Nat} {v : Int} (h : clC oc x v = true) : Cond.constant (clN oc) x (Int32.ofInt v) ∈ G ∧ i32 v = v := by
  unfold clC at h
  obtain ⟨e, he, h⟩ := List.any_eq_true.mp h
  simp only [Bool.and_eq_true, decide_eq_true_eq] at h
  obtain ⟨⟨h1, h2⟩, h3⟩ := h
  have e1 := Nat.beq_eq.mp h1
  have e2 := Nat.beq_eq.mp h2
  subst e1 e2 h3
  have h5 := List.all_eq_true.mp clL_ok e he
  simp only [Bool.and_eq_true, decide_eq_true_eq] at h5
  exact ⟨mG _ h5.1 rfl, h5.2⟩
theorem cjCE {oc x : Nat} {v : Int} (h : cjC oc x v = true) : Cond.constantLong (clN oc) x (Int64.ofInt v) ∈ G ∧ i64 v = v := by
  unfold cjC at h
  obtain ⟨e, he, h⟩ := List.any_eq_true.mp h
  simp only [Bool.and_eq_true, decide_eq_true_eq] at h
  obtain ⟨⟨h1, h2⟩, h3⟩ := h
  have e1 := Nat.beq_eq.mp h1
  have e2 := Nat.beq_eq.mp h2
  subst e1 e2 h3
  have h5 := List.all_eq_true.mp clJ_ok e he
  simp only [Bool.and_eq_true, decide_eq_true_eq] at h5
  exact ⟨mG _ h5.1 rfl, h5.2⟩
theorem slE {oc x n : Nat} (h : slC oc x n = true) : ∃ q ∈ slL, q.1 = oc ∧ q.2.1 = x ∧ q.2.2.1 = n := by
  unfold slC at h
  obtain ⟨e, he, h⟩ := List.any_eq_true.mp h
  simp only [Bool.and_eq_true] at h
  obtain ⟨⟨h1, h2⟩, h3⟩ := h
  exact ⟨e, he, Nat.beq_eq.mp h1, Nat.beq_eq.mp h2, Nat.beq_eq.mp h3⟩
theorem slE4 : ∀ q ∈ slL, q.2.2.1 < 4 := by decide
theorem alE {oc x : Nat} (h : alC oc x = true) : Cond.methodLink (clN oc) x arraycopyName ∈ G := by
  unfold alC at h
  obtain ⟨e, he, h⟩ := List.any_eq_true.mp h
  simp only [Bool.and_eq_true] at h
  have e1 := Nat.beq_eq.mp h.1
  have e2 := Nat.beq_eq.mp h.2
  subst e1 e2
  have h5 := List.all_eq_true.mp alL_ok e he
  exact mG _ (of_decide_eq_true h5) rfl
theorem mmE {oc x n : Nat} (h : mmC oc x n = true) : Cond.methodLink (clN oc) x (mmN n) ∈ G := by
  unfold mmC at h
  obtain ⟨e, he, h⟩ := List.any_eq_true.mp h
  simp only [Bool.and_eq_true] at h
  obtain ⟨⟨h1, h2⟩, h3⟩ := h
  have e1 := Nat.beq_eq.mp h1
  have e2 := Nat.beq_eq.mp h2
  have e3 := Nat.beq_eq.mp h3
  subst e1 e2 e3
  have h5 := List.all_eq_true.mp mmL_ok e he
  exact mG _ (of_decide_eq_true h5) rfl
/-! numbers within their kinds -/
theorem up_c (S : St) (c : Nat) (j v : Int) : up S c j v c = fun j' => if j' = j then v else S c j' := by unfold up; rw [if_pos rfl]
theorem up_o (S : St) {c c' : Nat} (j v : Int) (h : c' ≠ c) : up S c j v c' = S c' := by unfold up; rw [if_neg h]
theorem cpS_c (S : St) (a : Nat) (sp : Int) (b : Nat) (dp n : Int) : cpS S a sp b dp n b = fun j => if dp ≤ j ∧ j < dp + n then S a (sp + (j - dp)) else S b j := by unfold cpS; rw [if_pos rfl]
theorem cpS_o (S : St) (a : Nat) (sp : Int) {b c' : Nat} (dp n : Int) (h : c' ≠ b) : cpS S a sp b dp n c' = S c' := by unfold cpS; rw [if_neg h]
theorem Can_up {S : St} {c : Nat} {j v : Int} (h : Can S) (hv : cnC c j v) : Can (up S c j v) := by
  intro c' j'
  by_cases hc : c' = c
  · subst hc
    rw [up_c]
    by_cases hj : j' = j
    · subst hj
      simp only [if_true]
      exact hv
    · simp only [if_neg hj]
      exact h c' j'
  · rw [up_o S j v hc]
    exact h c' j'
theorem Can_I {S : St} {c n : Nat} {m : Int} (h : Can S) (hs : shp c = .inr (0, n, m)) (j : Int) : i32 (S c j) = S c j := by
  have h1 := h c j
  unfold cnC at h1
  rw [hs] at h1
  exact h1
theorem Can_J {S : St} {c n : Nat} {m : Int} (h : Can S) (hs : shp c = .inr (1, n, m)) (j : Int) : i64 (S c j) = S c j := by
  have h1 := h c j
  unfold cnC at h1
  rw [hs] at h1
  exact h1
theorem Can_Z {S : St} {c n : Nat} {m : Int} (h : Can S) (hs : shp c = .inr (2, n, m)) (j : Int) : S c j = 0 ∨ S c j = 1 := by
  have h1 := h c j
  unfold cnC at h1
  rw [hs] at h1
  exact h1
theorem can01 {v : Int} (h : v = 0 ∨ v = 1) : i32 v = v := by rcases h with rfl | rfl <;> rfl
theorem Can_F {S : St} {c ci k : Nat} {ks : List (Nat × Nat × Nat × Int)} {q : Nat × Nat × Nat × Int} (h : Can S) (hs : shp c = .inl (ci, ks)) (hk : ks[k]? = some q) : cnK q.1 (S c q.2.2.2) := by
  have h1 := h c q.2.2.2
  unfold cnC at h1
  rw [hs] at h1
  exact h1 q (List.mem_of_getElem? hk) rfl
theorem kd_slot {ci k : Nat} {q : Nat × Nat × Nat × Int} (h : kdOk ci k q = true) : q.2.2.2 = (k : Int) := by
  unfold kdOk at h
  simp only [Bool.and_eq_true, decide_eq_true_eq] at h
  exact h.1
theorem cnC_F {c ci k : Nat} {ks : List (Nat × Nat × Nat × Int)} {q : Nat × Nat × Nat × Int} {v : Int} (hs : shp c = .inl (ci, ks)) (hk : ks[k]? = some q) (hv : cnK q.1 v) : cnC c q.2.2.2 v := by
  unfold cnC
  rw [hs]
  intro k' hk' e
  obtain ⟨i, hi⟩ := List.getElem?_of_mem hk'
  have h4 := (sh_obj hs).2.2.2
  have e1 := kd_slot (h4 i k' hi)
  have e2 := kd_slot (h4 k q hk)
  rw [e1, e2] at e
  have e3 : i = k := by omega
  subst e3
  rw [hi] at hk
  cases hk
  exact hv
end
section
/-! one instruction: the abstract machine's step is the machine's -/
section SND
variable {w : Wd} {h : Hd} {p : Program} {l : Launch} {e : Env} {s : State} {m : MethodId} {args : Array Value} {below : List Frame} {meth : Method} {c : Code} {Q : Option AV → St → Prop}
/-- in this context: from this place on the method ends with Q -/
def Nx (w : Wd) (h : Hd) (p : Program) (l : Launch) (e : Env) (s : State) (m : MethodId) (args : Array Value) (below : List Frame) (meth : Method) (c : Code) (Q : Option AV → St → Prop) (pc : Nat) (L : LL) (st : List AV) (S : St) : Prop :=
  ∀ (H : Heap) (locs : List Loc) (ls : Array Slot), Cfg w h s H locs ls L st S → W p l e (rmO h) s m args below meth c H locs 0 0 (MQ below (Qcf w Q) args s 0 0 (inA w)) (F0 m pc ls (st.map (cv w.2.1)))
variable {H : Heap} {locs : List Loc} {ls : Array Slot} {L : LL} {st : List AV} {S : St} {pc : Nat}
theorem cnS_c {v : AV} {r : List AV} (hv : cnV v) (hr : cnS r) : cnS (v :: r) := fun u hu => by
  rcases List.mem_cons.mp hu with q | q
  · rw [q]; exact hv
  · exact hr u q
theorem cnS_t {v : AV} {r : List AV} (hs : cnS (v :: r)) : cnS r := fun u hu => hs u (List.mem_cons_of_mem _ hu)
theorem cnS_h {v : AV} {r : List AV} (hs : cnS (v :: r)) : cnV v := hs v List.mem_cons_self
theorem cnS_a {a b : List AV} (ha : cnS a) (hb : cnS b) : cnS (a ++ b) := fun u hu => (List.mem_append.mp hu).elim (ha u) (hb u)
theorem cfS {st' : List AV} (K : Cfg w h s H locs ls L st S) (hst : cnS st') : Cfg w h s H locs ls L st' S := ⟨K.1, K.2.1, K.2.2.1, hst, K.2.2.2.2⟩
theorem cfN (K : Cfg w h s H locs ls L st S) : cnS st := K.2.2.2.1
theorem cfL (K : Cfg w h s H locs ls L st S) : cnL L := K.2.2.1
theorem cfV (K : Cfg w h s H locs ls L st S) : lvp w.2.1 ls h.2.2.2.1 L := K.2.2.2.2.2
theorem cfA (K : Cfg w h s H locs ls L st S) : va_S (inA w) s.heap H locs := K.2.2.2.2.1
theorem cfSL {st' : List AV} {ls' : Array Slot} {L' : LL} (K : Cfg w h s H locs ls L st S) (hL : cnL L') (hst : cnS st') (hv : lvp w.2.1 ls' h.2.2.2.1 L') : Cfg w h s H locs ls' L' st' S := ⟨K.1, K.2.1, hL, hst, K.2.2.2.2.1, hv⟩
theorem cfH {st' : List AV} {S' : St} {H' : Heap} {locs' : List Loc} (K : Cfg w h s H locs ls L st S) (hW : Wo w S' H') (hC : Can S') (hst : cnS st') (hS : va_S (inA w) s.heap H' locs') : Cfg w h s H' locs' ls L st' S' := ⟨hW, hC, K.2.2.1, hst, hS, K.2.2.2.2.2⟩
theorem mapcv_int (w : Wd) (a : Int) (r : List AV) : (Sum.inl a :: r : List AV).map (cv w.2.1) = .int (Int32.ofInt a) :: r.map (cv w.2.1) := rfl
theorem s_iload (C : Ctx w h p s m args meth c) {i : Nat} (hd : decode h.2.2.1 pc = .ok (.iload i, 2)) {k : LL → List AV → St → Prop} (hN : ∀ L st S, k L st S → Nx w h p l e s m args below meth c Q (pc + 2) L st S) (hs : ldI L i (fun a => k L (.inl a :: st) S)) : Nx w h p l e s m args below meth c Q pc L st S := by
  obtain ⟨a, h1, h2⟩ := ldI_spec L i hs
  intro H locs ls K
  refine lv_iload C.1 C.2.1 hd (lvp_get (cfV K) h1) ?_
  exact hN _ _ _ h2 H locs ls (cfS K (cnS_c (cnL_get (cfL K) h1) (cfN K)))
theorem s_iload_n (C : Ctx w h p s m args meth c) {i : Fin 4} (hd : decode h.2.2.1 pc = .ok (.iload_n i, 1)) {k : LL → List AV → St → Prop} (hN : ∀ L st S, k L st S → Nx w h p l e s m args below meth c Q (pc + 1) L st S) (hs : ldI L i.val (fun a => k L (.inl a :: st) S)) : Nx w h p l e s m args below meth c Q pc L st S := by
  obtain ⟨a, h1, h2⟩ := ldI_spec L i.val hs
  intro H locs ls K
  refine lv_iload_n C.1 C.2.1 hd rfl (lvp_get (cfV K) h1) ?_
  exact hN _ _ _ h2 H locs ls (cfS K (cnS_c (cnL_get (cfL K) h1) (cfN K)))
theorem s_lload (C : Ctx w h p s m args meth c) {i : Nat} (hd : decode h.2.2.1 pc = .ok (.lload i, 2)) {k : LL → List AV → St → Prop} (hN : ∀ L st S, k L st S → Nx w h p l e s m args below meth c Q (pc + 2) L st S) (hs : ldJ L i (fun a => k L (.inr (.inl a) :: st) S)) : Nx w h p l e s m args below meth c Q pc L st S := by
  obtain ⟨a, h1, h2⟩ := ldJ_spec L i hs
  intro H locs ls K
  refine lv_lload C.1 C.2.1 hd (lvp_get (cfV K) h1) ?_
  exact hN _ _ _ h2 H locs ls (cfS K (cnS_c (cnL_get (cfL K) h1) (cfN K)))
theorem s_lload_n (C : Ctx w h p s m args meth c) {i : Fin 4} (hd : decode h.2.2.1 pc = .ok (.lload_n i, 1)) {k : LL → List AV → St → Prop} (hN : ∀ L st S, k L st S → Nx w h p l e s m args below meth c Q (pc + 1) L st S) (hs : ldJ L i.val (fun a => k L (.inr (.inl a) :: st) S)) : Nx w h p l e s m args below meth c Q pc L st S := by
  obtain ⟨a, h1, h2⟩ := ldJ_spec L i.val hs
  intro H locs ls K
  refine lv_lload_n C.1 C.2.1 hd rfl (lvp_get (cfV K) h1) ?_
  exact hN _ _ _ h2 H locs ls (cfS K (cnS_c (cnL_get (cfL K) h1) (cfN K)))
theorem s_aload (C : Ctx w h p s m args meth c) {i : Nat} (hd : decode h.2.2.1 pc = .ok (.aload i, 2)) {k : LL → List AV → St → Prop} (hN : ∀ L st S, k L st S → Nx w h p l e s m args below meth c Q (pc + 2) L st S) (hs : ldR L i (fun a => k L (.inr (.inr a) :: st) S)) : Nx w h p l e s m args below meth c Q pc L st S := by
  obtain ⟨a, h1, h2⟩ := ldR_spec L i hs
  intro H locs ls K
  refine lv_aload C.1 C.2.1 hd (lvp_get (cfV K) h1) ?_
  exact hN _ _ _ h2 H locs ls (cfS K (cnS_c (cnL_get (cfL K) h1) (cfN K)))
theorem s_aload_n (C : Ctx w h p s m args meth c) {i : Fin 4} (hd : decode h.2.2.1 pc = .ok (.aload_n i, 1)) {k : LL → List AV → St → Prop} (hN : ∀ L st S, k L st S → Nx w h p l e s m args below meth c Q (pc + 1) L st S) (hs : ldR L i.val (fun a => k L (.inr (.inr a) :: st) S)) : Nx w h p l e s m args below meth c Q pc L st S := by
  obtain ⟨a, h1, h2⟩ := ldR_spec L i.val hs
  intro H locs ls K
  refine lv_aload_n C.1 C.2.1 hd rfl (lvp_get (cfV K) h1) ?_
  exact hN _ _ _ h2 H locs ls (cfS K (cnS_c (cnL_get (cfL K) h1) (cfN K)))
theorem s_istore (C : Ctx w h p s m args meth c) {i : Nat} (hd : decode h.2.2.1 pc = .ok (.istore i, 2)) (hi : i < h.2.2.2.1) {k : LL → List AV → St → Prop} (hN : ∀ L st S, k L st S → Nx w h p l e s m args below meth c Q (pc + 2) L st S) (hs : pI st (fun a r => st1 L i (.inl a) (fun L => k L r S))) : Nx w h p l e s m args below meth c Q pc L st S := by
  obtain ⟨a, r, rfl, h1⟩ := pI_spec hs
  obtain ⟨L', h2, h3⟩ := st1_spec L i _ h1
  intro H locs ls K
  refine lv_istore C.1 C.2.1 hd (cfV K) hi rfl (fun ls' hl' => ?_)
  exact hN _ _ _ h2 H locs ls' (cfSL K (cnL_st (i := i) (cfL K) (cnS_h (cfN K)) (fun j u q => (h3 j u q).imp id (fun z => z.2.1))) (cnS_t (cfN K)) (lvp_st1 (v := .inl a) hl' h3))
theorem s_istore_n (C : Ctx w h p s m args meth c) {i : Fin 4} (hd : decode h.2.2.1 pc = .ok (.istore_n i, 1)) (hi : i.val < h.2.2.2.1) {k : LL → List AV → St → Prop} (hN : ∀ L st S, k L st S → Nx w h p l e s m args below meth c Q (pc + 1) L st S) (hs : pI st (fun a r => st1 L i.val (.inl a) (fun L => k L r S))) : Nx w h p l e s m args below meth c Q pc L st S := by
  obtain ⟨a, r, rfl, h1⟩ := pI_spec hs
  obtain ⟨L', h2, h3⟩ := st1_spec L i.val _ h1
  intro H locs ls K
  refine lv_istore_n C.1 C.2.1 hd rfl (cfV K) hi rfl (fun ls' hl' => ?_)
  exact hN _ _ _ h2 H locs ls' (cfSL K (cnL_st (i := i.val) (cfL K) (cnS_h (cfN K)) (fun j u q => (h3 j u q).imp id (fun z => z.2.1))) (cnS_t (cfN K)) (lvp_st1 (v := .inl a) hl' h3))
theorem s_astore (C : Ctx w h p s m args meth c) {i : Nat} (hd : decode h.2.2.1 pc = .ok (.astore i, 2)) (hi : i < h.2.2.2.1) {k : LL → List AV → St → Prop} (hN : ∀ L st S, k L st S → Nx w h p l e s m args below meth c Q (pc + 2) L st S) (hs : pR st (fun a r => st1 L i (.inr (.inr a)) (fun L => k L r S))) : Nx w h p l e s m args below meth c Q pc L st S := by
  obtain ⟨a, r, rfl, h1⟩ := pR_spec hs
  obtain ⟨L', h2, h3⟩ := st1_spec L i _ h1
  intro H locs ls K
  refine lv_astore C.1 C.2.1 hd (cfV K) hi rfl (fun ls' hl' => ?_)
  exact hN _ _ _ h2 H locs ls' (cfSL K (cnL_st (i := i) (cfL K) (cnS_h (cfN K)) (fun j u q => (h3 j u q).imp id (fun z => z.2.1))) (cnS_t (cfN K)) (lvp_st1 (v := .inr (.inr a)) hl' h3))
theorem s_astore_n (C : Ctx w h p s m args meth c) {i : Fin 4} (hd : decode h.2.2.1 pc = .ok (.astore_n i, 1)) (hi : i.val < h.2.2.2.1) {k : LL → List AV → St → Prop} (hN : ∀ L st S, k L st S → Nx w h p l e s m args below meth c Q (pc + 1) L st S) (hs : pR st (fun a r => st1 L i.val (.inr (.inr a)) (fun L => k L r S))) : Nx w h p l e s m args below meth c Q pc L st S := by
  obtain ⟨a, r, rfl, h1⟩ := pR_spec hs
  obtain ⟨L', h2, h3⟩ := st1_spec L i.val _ h1
  intro H locs ls K
  refine lv_astore_n C.1 C.2.1 hd rfl (cfV K) hi rfl (fun ls' hl' => ?_)
  exact hN _ _ _ h2 H locs ls' (cfSL K (cnL_st (i := i.val) (cfL K) (cnS_h (cfN K)) (fun j u q => (h3 j u q).imp id (fun z => z.2.1))) (cnS_t (cfN K)) (lvp_st1 (v := .inr (.inr a)) hl' h3))
theorem s_lstore (C : Ctx w h p s m args meth c) {i : Nat} (hd : decode h.2.2.1 pc = .ok (.lstore i, 2)) (hi : i + 1 < h.2.2.2.1) {k : LL → List AV → St → Prop} (hN : ∀ L st S, k L st S → Nx w h p l e s m args below meth c Q (pc + 2) L st S) (hs : pJ st (fun a r => st2 L i (.inr (.inl a)) (fun L => k L r S))) : Nx w h p l e s m args below meth c Q pc L st S := by
  obtain ⟨a, r, rfl, h1⟩ := pJ_spec hs
  obtain ⟨L', h2, h3⟩ := st2_spec L i _ h1
  intro H locs ls K
  refine lv_lstore C.1 C.2.1 hd (cfV K) hi rfl (fun ls' hl' => ?_)
  exact hN _ _ _ h2 H locs ls' (cfSL K (cnL_st (i := i) (cfL K) (cnS_h (cfN K)) (fun j u q => (h3 j u q).imp id (fun z => z.2.2.1))) (cnS_t (cfN K)) (lvp_st2 (v := .inr (.inl a)) hl' h3))
theorem s_lstore_n (C : Ctx w h p s m args meth c) {i : Fin 4} (hd : decode h.2.2.1 pc = .ok (.lstore_n i, 1)) (hi : i.val + 1 < h.2.2.2.1) {k : LL → List AV → St → Prop} (hN : ∀ L st S, k L st S → Nx w h p l e s m args below meth c Q (pc + 1) L st S) (hs : pJ st (fun a r => st2 L i.val (.inr (.inl a)) (fun L => k L r S))) : Nx w h p l e s m args below meth c Q pc L st S := by
  obtain ⟨a, r, rfl, h1⟩ := pJ_spec hs
  obtain ⟨L', h2, h3⟩ := st2_spec L i.val _ h1
  intro H locs ls K
  refine lv_lstore_n C.1 C.2.1 hd rfl (cfV K) hi rfl (fun ls' hl' => ?_)
  exact hN _ _ _ h2 H locs ls' (cfSL K (cnL_st (i := i.val) (cfL K) (cnS_h (cfN K)) (fun j u q => (h3 j u q).imp id (fun z => z.2.2.1))) (cnS_t (cfN K)) (lvp_st2 (v := .inr (.inl a)) hl' h3))
theorem s_iinc (C : Ctx w h p s m args meth c) {i : Nat} {n : Int} (hd : decode h.2.2.1 pc = .ok (.iinc i n, 3)) (hi : i < h.2.2.2.1) {k : LL → List AV → St → Prop} (hN : ∀ L st S, k L st S → Nx w h p l e s m args below meth c Q (pc + 3) L st S) (hs : ldI L i (fun a => st1 L i (.inl (i32 (a + n))) (fun L => k L st S))) : Nx w h p l e s m args below meth c Q pc L st S := by
  obtain ⟨a, h0, h1⟩ := ldI_spec L i hs
  obtain ⟨L', h2, h3⟩ := st1_spec L i _ h1
  intro H locs ls K
  have hm : (i, cv w.2.1 (.inl a)) ∈ al w.2.1 0 L := (mem_al L 0 _).mpr ⟨i, .inl a, by rw [Nat.zero_add], h0⟩
  obtain ⟨k, hk⟩ := List.getElem?_of_mem hm
  refine lv_iinc (v := Int32.ofInt (i32 (a + n))) C.1 C.2.1 hd (cfV K) hk (by rw [ofInt_i32, Int32.ofInt_add]) hi rfl (fun ls' hl' => ?_)
  exact hN _ _ _ h2 H locs ls' (cfSL K (cnL_st (i := i) (v := .inl (i32 (a + n))) (cfL K) (i32_i32 _) (fun j u q => (h3 j u q).imp id (fun z => z.2.1))) (cfN K) (lvp_st1 (v := .inl (i32 (a + n))) hl' h3))
theorem s_iconst (C : Ctx w h p s m args meth c) {n : Int} (hd : decode h.2.2.1 pc = .ok (.iconst n, 1)) (hc : i32 n = n) {k : LL → List AV → St → Prop} (hN : ∀ L st S, k L st S → Nx w h p l e s m args below meth c Q (pc + 1) L st S) (hs : k L (.inl n :: st) S) : Nx w h p l e s m args below meth c Q pc L st S := by
  intro H locs ls K
  refine lv_iconst (v := Int32.ofInt n) C.1 C.2.1 hd rfl ?_
  exact hN _ _ _ hs H locs ls (cfS K (cnS_c hc (cfN K)))
theorem s_bipush (C : Ctx w h p s m args meth c) {n : Int} (hd : decode h.2.2.1 pc = .ok (.bipush n, 2)) (h8 : (Int8.ofInt n).toInt32 = Int32.ofInt n) (hc : i32 n = n) {k : LL → List AV → St → Prop} (hN : ∀ L st S, k L st S → Nx w h p l e s m args below meth c Q (pc + 2) L st S) (hs : k L (.inl n :: st) S) : Nx w h p l e s m args below meth c Q pc L st S := by
  intro H locs ls K
  refine lv_bipush (v := Int32.ofInt n) C.1 C.2.1 hd h8 ?_
  exact hN _ _ _ hs H locs ls (cfS K (cnS_c hc (cfN K)))
theorem s_sipush (C : Ctx w h p s m args meth c) {n : Int} (hd : decode h.2.2.1 pc = .ok (.sipush n, 3)) (h8 : (Int16.ofInt n).toInt32 = Int32.ofInt n) (hc : i32 n = n) {k : LL → List AV → St → Prop} (hN : ∀ L st S, k L st S → Nx w h p l e s m args below meth c Q (pc + 3) L st S) (hs : k L (.inl n :: st) S) : Nx w h p l e s m args below meth c Q pc L st S := by
  intro H locs ls K
  refine lv_sipush (v := Int32.ofInt n) C.1 C.2.1 hd h8 ?_
  exact hN _ _ _ hs H locs ls (cfS K (cnS_c hc (cfN K)))
theorem s_lconst (C : Ctx w h p s m args meth c) {n : Fin 2} (hd : decode h.2.2.1 pc = .ok (.lconst n, 1)) {k : LL → List AV → St → Prop} (hN : ∀ L st S, k L st S → Nx w h p l e s m args below meth c Q (pc + 1) L st S) (hs : k L (.inr (.inl (n.val : Int)) :: st) S) : Nx w h p l e s m args below meth c Q pc L st S := by
  intro H locs ls K
  refine lv_lconst (v := Int64.ofInt (n.val : Int)) C.1 C.2.1 hd (by first | rfl | simp) ?_
  exact hN _ _ _ hs H locs ls (cfS K (cnS_c (show i64 (n.val : Int) = _ from i64_id (by omega) (by have := n.isLt; omega)) (cfN K)))
theorem s_ldc (C : Ctx w h p s m args meth c) {x : Nat} {v : Int} (hd : decode h.2.2.1 pc = .ok (.ldc x, 2)) (hc : clC h.1 x v = true) {k : LL → List AV → St → Prop} (hN : ∀ L st S, k L st S → Nx w h p l e s m args below meth c Q (pc + 2) L st S) (hs : k L (.inl v :: st) S) : Nx w h p l e s m args below meth c Q pc L st S := by
  intro H locs ls K
  refine lv_ldc C.1 C.2.1 C.2.2.2.2.1 (C.2.2.2.2.2.1 _ (clCE hc).1) hd ?_
  exact hN _ _ _ hs H locs ls (cfS K (cnS_c (clCE hc).2 (cfN K)))
theorem s_ldc_w (C : Ctx w h p s m args meth c) {x : Nat} {v : Int} (hd : decode h.2.2.1 pc = .ok (.ldc_w x, 3)) (hc : clC h.1 x v = true) {k : LL → List AV → St → Prop} (hN : ∀ L st S, k L st S → Nx w h p l e s m args below meth c Q (pc + 3) L st S) (hs : k L (.inl v :: st) S) : Nx w h p l e s m args below meth c Q pc L st S := by
  intro H locs ls K
  refine lv_ldcw C.1 C.2.1 C.2.2.2.2.1 (C.2.2.2.2.2.1 _ (clCE hc).1) hd ?_
  exact hN _ _ _ hs H locs ls (cfS K (cnS_c (clCE hc).2 (cfN K)))
theorem s_ldc2_w (C : Ctx w h p s m args meth c) {x : Nat} {v : Int} (hd : decode h.2.2.1 pc = .ok (.ldc2_w x, 3)) (hc : cjC h.1 x v = true) {k : LL → List AV → St → Prop} (hN : ∀ L st S, k L st S → Nx w h p l e s m args below meth c Q (pc + 3) L st S) (hs : k L (.inr (.inl v) :: st) S) : Nx w h p l e s m args below meth c Q pc L st S := by
  intro H locs ls K
  refine lv_ldc2 C.1 C.2.1 C.2.2.2.2.1 (C.2.2.2.2.2.1 _ (cjCE hc).1) hd ?_
  exact hN _ _ _ hs H locs ls (cfS K (cnS_c (cjCE hc).2 (cfN K)))
theorem s_iadd (C : Ctx w h p s m args meth c) (hd : decode h.2.2.1 pc = .ok (.iadd, 1)) {k : LL → List AV → St → Prop} (hN : ∀ L st S, k L st S → Nx w h p l e s m args below meth c Q (pc + 1) L st S) (hs : pII st (fun a b r => k L (.inl (i32 (a + b)) :: r) S)) : Nx w h p l e s m args below meth c Q pc L st S := by
  obtain ⟨a, b, r, rfl, h2⟩ := pII_spec hs
  intro H locs ls K
  refine lv_iadd C.1 C.2.1 hd ?_
  have e0 : Int32.ofInt (i32 (a + b)) = Int32.ofInt a + Int32.ofInt b := by rw [ofInt_i32, Int32.ofInt_add]
  rw [← e0]
  exact hN _ _ _ h2 H locs ls (cfS K (cnS_c (v := .inl (i32 (a + b))) (i32_i32 _) (cnS_t (cnS_t (cfN K)))))
theorem s_isub (C : Ctx w h p s m args meth c) (hd : decode h.2.2.1 pc = .ok (.isub, 1)) {k : LL → List AV → St → Prop} (hN : ∀ L st S, k L st S → Nx w h p l e s m args below meth c Q (pc + 1) L st S) (hs : pII st (fun a b r => k L (.inl (i32 (a - b)) :: r) S)) : Nx w h p l e s m args below meth c Q pc L st S := by
  obtain ⟨a, b, r, rfl, h2⟩ := pII_spec hs
  intro H locs ls K
  refine lv_isub C.1 C.2.1 hd ?_
  have e0 : Int32.ofInt (i32 (a - b)) = Int32.ofInt a - Int32.ofInt b := by rw [ofInt_i32, Int32.ofInt_sub]
  rw [← e0]
  exact hN _ _ _ h2 H locs ls (cfS K (cnS_c (v := .inl (i32 (a - b))) (i32_i32 _) (cnS_t (cnS_t (cfN K)))))
theorem s_imul (C : Ctx w h p s m args meth c) (hd : decode h.2.2.1 pc = .ok (.imul, 1)) {k : LL → List AV → St → Prop} (hN : ∀ L st S, k L st S → Nx w h p l e s m args below meth c Q (pc + 1) L st S) (hs : pII st (fun a b r => k L (.inl (i32 (a * b)) :: r) S)) : Nx w h p l e s m args below meth c Q pc L st S := by
  obtain ⟨a, b, r, rfl, h2⟩ := pII_spec hs
  intro H locs ls K
  refine lv_imul C.1 C.2.1 hd ?_
  have e0 : Int32.ofInt (i32 (a * b)) = Int32.ofInt a * Int32.ofInt b := by rw [ofInt_i32, Int32.ofInt_mul]
  rw [← e0]
  exact hN _ _ _ h2 H locs ls (cfS K (cnS_c (v := .inl (i32 (a * b))) (i32_i32 _) (cnS_t (cnS_t (cfN K)))))
theorem s_iand (C : Ctx w h p s m args meth c) (hd : decode h.2.2.1 pc = .ok (.iand, 1)) {k : LL → List AV → St → Prop} (hN : ∀ L st S, k L st S → Nx w h p l e s m args below meth c Q (pc + 1) L st S) (hs : pII st (fun a b r => k L (.inl (iand a b) :: r) S)) : Nx w h p l e s m args below meth c Q pc L st S := by
  obtain ⟨a, b, r, rfl, h2⟩ := pII_spec hs
  intro H locs ls K
  refine lv_iand C.1 C.2.1 hd ?_
  have e0 : Int32.ofInt (iand a b) = Int32.ofInt a &&& Int32.ofInt b := Int32.ofInt_toInt _
  rw [← e0]
  exact hN _ _ _ h2 H locs ls (cfS K (cnS_c (v := .inl (iand a b)) (can_toInt32 _) (cnS_t (cnS_t (cfN K)))))
theorem s_ior (C : Ctx w h p s m args meth c) (hd : decode h.2.2.1 pc = .ok (.ior, 1)) {k : LL → List AV → St → Prop} (hN : ∀ L st S, k L st S → Nx w h p l e s m args below meth c Q (pc + 1) L st S) (hs : pII st (fun a b r => k L (.inl (ior a b) :: r) S)) : Nx w h p l e s m args below meth c Q pc L st S := by
  obtain ⟨a, b, r, rfl, h2⟩ := pII_spec hs
  intro H locs ls K
  refine lv_ior C.1 C.2.1 hd ?_
  have e0 : Int32.ofInt (ior a b) = Int32.ofInt a ||| Int32.ofInt b := Int32.ofInt_toInt _
  rw [← e0]
  exact hN _ _ _ h2 H locs ls (cfS K (cnS_c (v := .inl (ior a b)) (can_toInt32 _) (cnS_t (cnS_t (cfN K)))))
theorem s_ixor (C : Ctx w h p s m args meth c) (hd : decode h.2.2.1 pc = .ok (.ixor, 1)) {k : LL → List AV → St → Prop} (hN : ∀ L st S, k L st S → Nx w h p l e s m args below meth c Q (pc + 1) L st S) (hs : pII st (fun a b r => k L (.inl (ixor a b) :: r) S)) : Nx w h p l e s m args below meth c Q pc L st S := by
  obtain ⟨a, b, r, rfl, h2⟩ := pII_spec hs
  intro H locs ls K
  refine lv_ixor C.1 C.2.1 hd ?_
  have e0 : Int32.ofInt (ixor a b) = Int32.ofInt a ^^^ Int32.ofInt b := Int32.ofInt_toInt _
  rw [← e0]
  exact hN _ _ _ h2 H locs ls (cfS K (cnS_c (v := .inl (ixor a b)) (can_toInt32 _) (cnS_t (cnS_t (cfN K)))))
theorem s_ishl (C : Ctx w h p s m args meth c) (hd : decode h.2.2.1 pc = .ok (.ishl, 1)) {k : LL → List AV → St → Prop} (hN : ∀ L st S, k L st S → Nx w h p l e s m args below meth c Q (pc + 1) L st S) (hs : pII st (fun a b r => k L (.inl (ishl a b) :: r) S)) : Nx w h p l e s m args below meth c Q pc L st S := by
  obtain ⟨a, b, r, rfl, h2⟩ := pII_spec hs
  intro H locs ls K
  refine lv_ishl C.1 C.2.1 hd ?_
  have e0 : Int32.ofInt (ishl a b) = Int32.ofInt a <<< (Int32.ofInt b &&& 31) := Int32.ofInt_toInt _
  rw [← e0]
  exact hN _ _ _ h2 H locs ls (cfS K (cnS_c (v := .inl (ishl a b)) (can_toInt32 _) (cnS_t (cnS_t (cfN K)))))
theorem s_ishr (C : Ctx w h p s m args meth c) (hd : decode h.2.2.1 pc = .ok (.ishr, 1)) {k : LL → List AV → St → Prop} (hN : ∀ L st S, k L st S → Nx w h p l e s m args below meth c Q (pc + 1) L st S) (hs : pII st (fun a b r => k L (.inl (ishr a b) :: r) S)) : Nx w h p l e s m args below meth c Q pc L st S := by
  obtain ⟨a, b, r, rfl, h2⟩ := pII_spec hs
  intro H locs ls K
  refine lv_ishr C.1 C.2.1 hd ?_
  have e0 : Int32.ofInt (ishr a b) = Int32.ofInt a >>> (Int32.ofInt b &&& 31) := Int32.ofInt_toInt _
  rw [← e0]
  exact hN _ _ _ h2 H locs ls (cfS K (cnS_c (v := .inl (ishr a b)) (can_toInt32 _) (cnS_t (cnS_t (cfN K)))))
theorem s_ineg (C : Ctx w h p s m args meth c) (hd : decode h.2.2.1 pc = .ok (.ineg, 1)) {k : LL → List AV → St → Prop} (hN : ∀ L st S, k L st S → Nx w h p l e s m args below meth c Q (pc + 1) L st S) (hs : pI st (fun a r => k L (.inl (i32 (-a)) :: r) S)) : Nx w h p l e s m args below meth c Q pc L st S := by
  obtain ⟨a, r, rfl, h2⟩ := pI_spec hs
  intro H locs ls K
  refine lv_ineg C.1 C.2.1 hd ?_
  have e0 : Int32.ofInt (i32 (-a)) = - Int32.ofInt a := by rw [ofInt_i32, Int32.ofInt_neg]
  rw [← e0]
  exact hN _ _ _ h2 H locs ls (cfS K (cnS_c (v := .inl (i32 (-a))) (i32_i32 _) (cnS_t (cfN K))))
theorem s_iushr (C : Ctx w h p s m args meth c) (hd : decode h.2.2.1 pc = .ok (.iushr, 1)) {k : LL → List AV → St → Prop} (hN : ∀ L st S, k L st S → Nx w h p l e s m args below meth c Q (pc + 1) L st S) (hs : pII st (fun a b r => k L (.inl (iushr a b) :: r) S)) : Nx w h p l e s m args below meth c Q pc L st S := by
  obtain ⟨a, b, r, rfl, h2⟩ := pII_spec hs
  intro H locs ls K
  refine lv_iushr (v := Int32.ofInt (iushr a b)) C.1 C.2.1 hd (Int32.ofInt_toInt _).symm ?_
  exact hN _ _ _ h2 H locs ls (cfS K (cnS_c (v := .inl (iushr a b)) (can_toInt32 _) (cnS_t (cnS_t (cfN K)))))
theorem s_idiv (C : Ctx w h p s m args meth c) (hd : decode h.2.2.1 pc = .ok (.idiv, 1)) {k : LL → List AV → St → Prop} (hN : ∀ L st S, k L st S → Nx w h p l e s m args below meth c Q (pc + 1) L st S) (hs : pII st (fun a b r => ¬ b = 0 ∧ k L (.inl (idiv a b) :: r) S)) : Nx w h p l e s m args below meth c Q pc L st S := by
  obtain ⟨a, b, r, rfl, h0, h2⟩ := pII_spec hs
  intro H locs ls K
  refine lv_idiv C.1 C.2.1 hd (Int32_0 (cnS_h (cfN K)) h0) ?_
  have e0 : Int32.ofInt (idiv a b) = Int32.ofInt a / Int32.ofInt b := Int32.ofInt_toInt _
  rw [← e0]
  exact hN _ _ _ h2 H locs ls (cfS K (cnS_c (v := .inl (idiv a b)) (can_toInt32 _) (cnS_t (cnS_t (cfN K)))))
theorem s_irem (C : Ctx w h p s m args meth c) (hd : decode h.2.2.1 pc = .ok (.irem, 1)) {k : LL → List AV → St → Prop} (hN : ∀ L st S, k L st S → Nx w h p l e s m args below meth c Q (pc + 1) L st S) (hs : pII st (fun a b r => ¬ b = 0 ∧ k L (.inl (irem a b) :: r) S)) : Nx w h p l e s m args below meth c Q pc L st S := by
  obtain ⟨a, b, r, rfl, h0, h2⟩ := pII_spec hs
  intro H locs ls K
  refine lv_irem C.1 C.2.1 hd (Int32_0 (cnS_h (cfN K)) h0) ?_
  have e0 : Int32.ofInt (irem a b) = Int32.ofInt a - Int32.ofInt a / Int32.ofInt b * Int32.ofInt b := Int32.ofInt_toInt _
  rw [← e0]
  exact hN _ _ _ h2 H locs ls (cfS K (cnS_c (v := .inl (irem a b)) (can_toInt32 _) (cnS_t (cnS_t (cfN K)))))
theorem s_ladd (C : Ctx w h p s m args meth c) (hd : decode h.2.2.1 pc = .ok (.ladd, 1)) {k : LL → List AV → St → Prop} (hN : ∀ L st S, k L st S → Nx w h p l e s m args below meth c Q (pc + 1) L st S) (hs : pJJ st (fun a b r => k L (.inr (.inl (i64 (a + b))) :: r) S)) : Nx w h p l e s m args below meth c Q pc L st S := by
  obtain ⟨a, b, r, rfl, h2⟩ := pJJ_spec hs
  intro H locs ls K
  refine lv_ladd C.1 C.2.1 hd ?_
  have e0 : Int64.ofInt (i64 (a + b)) = Int64.ofInt a + Int64.ofInt b := by rw [ofInt_i64, Int64.ofInt_add]
  rw [← e0]
  exact hN _ _ _ h2 H locs ls (cfS K (cnS_c (v := .inr (.inl (i64 (a + b)))) (i64_i64 _) (cnS_t (cnS_t (cfN K)))))
theorem s_lsub (C : Ctx w h p s m args meth c) (hd : decode h.2.2.1 pc = .ok (.lsub, 1)) {k : LL → List AV → St → Prop} (hN : ∀ L st S, k L st S → Nx w h p l e s m args below meth c Q (pc + 1) L st S) (hs : pJJ st (fun a b r => k L (.inr (.inl (i64 (a - b))) :: r) S)) : Nx w h p l e s m args below meth c Q pc L st S := by
  obtain ⟨a, b, r, rfl, h2⟩ := pJJ_spec hs
  intro H locs ls K
  refine lv_lsub C.1 C.2.1 hd ?_
  have e0 : Int64.ofInt (i64 (a - b)) = Int64.ofInt a - Int64.ofInt b := by rw [ofInt_i64, Int64.ofInt_sub]
  rw [← e0]
  exact hN _ _ _ h2 H locs ls (cfS K (cnS_c (v := .inr (.inl (i64 (a - b)))) (i64_i64 _) (cnS_t (cnS_t (cfN K)))))
theorem s_lmul (C : Ctx w h p s m args meth c) (hd : decode h.2.2.1 pc = .ok (.lmul, 1)) {k : LL → List AV → St → Prop} (hN : ∀ L st S, k L st S → Nx w h p l e s m args below meth c Q (pc + 1) L st S) (hs : pJJ st (fun a b r => k L (.inr (.inl (i64 (a * b))) :: r) S)) : Nx w h p l e s m args below meth c Q pc L st S := by
  obtain ⟨a, b, r, rfl, h2⟩ := pJJ_spec hs
  intro H locs ls K
  refine lv_lmul C.1 C.2.1 hd ?_
  have e0 : Int64.ofInt (i64 (a * b)) = Int64.ofInt a * Int64.ofInt b := by rw [ofInt_i64, Int64.ofInt_mul]
  rw [← e0]
  exact hN _ _ _ h2 H locs ls (cfS K (cnS_c (v := .inr (.inl (i64 (a * b)))) (i64_i64 _) (cnS_t (cnS_t (cfN K)))))
theorem s_ldiv (C : Ctx w h p s m args meth c) (hd : decode h.2.2.1 pc = .ok (.ldiv, 1)) {k : LL → List AV → St → Prop} (hN : ∀ L st S, k L st S → Nx w h p l e s m args below meth c Q (pc + 1) L st S) (hs : pJJ st (fun a b r => ¬ b = 0 ∧ k L (.inr (.inl (jdiv a b)) :: r) S)) : Nx w h p l e s m args below meth c Q pc L st S := by
  obtain ⟨a, b, r, rfl, h0, h2⟩ := pJJ_spec hs
  intro H locs ls K
  refine lv_ldiv C.1 C.2.1 hd (Int64_0 (cnS_h (cfN K)) h0) ?_
  have e0 : Int64.ofInt (jdiv a b) = Int64.ofInt a / Int64.ofInt b := Int64.ofInt_toInt _
  rw [← e0]
  exact hN _ _ _ h2 H locs ls (cfS K (cnS_c (v := .inr (.inl (jdiv a b))) (can_toInt64 _) (cnS_t (cnS_t (cfN K)))))
theorem s_lrem (C : Ctx w h p s m args meth c) (hd : decode h.2.2.1 pc = .ok (.lrem, 1)) {k : LL → List AV → St → Prop} (hN : ∀ L st S, k L st S → Nx w h p l e s m args below meth c Q (pc + 1) L st S) (hs : pJJ st (fun a b r => ¬ b = 0 ∧ k L (.inr (.inl (jrem a b)) :: r) S)) : Nx w h p l e s m args below meth c Q pc L st S := by
  obtain ⟨a, b, r, rfl, h0, h2⟩ := pJJ_spec hs
  intro H locs ls K
  refine lv_lrem C.1 C.2.1 hd (Int64_0 (cnS_h (cfN K)) h0) ?_
  have e0 : Int64.ofInt (jrem a b) = Int64.ofInt a - Int64.ofInt a / Int64.ofInt b * Int64.ofInt b := Int64.ofInt_toInt _
  rw [← e0]
  exact hN _ _ _ h2 H locs ls (cfS K (cnS_c (v := .inr (.inl (jrem a b))) (can_toInt64 _) (cnS_t (cnS_t (cfN K)))))
theorem s_lushr (C : Ctx w h p s m args meth c) (hd : decode h.2.2.1 pc = .ok (.lushr, 1)) {k : LL → List AV → St → Prop} (hN : ∀ L st S, k L st S → Nx w h p l e s m args below meth c Q (pc + 1) L st S) (hs : pIJ st (fun a b r => k L (.inr (.inl (jushr a b)) :: r) S)) : Nx w h p l e s m args below meth c Q pc L st S := by
  obtain ⟨a, b, r, rfl, h2⟩ := pIJ_spec hs
  intro H locs ls K
  refine lv_lushr (v := Int64.ofInt (jushr a b)) C.1 C.2.1 hd (Int64.ofInt_toInt _).symm ?_
  exact hN _ _ _ h2 H locs ls (cfS K (cnS_c (v := .inr (.inl (jushr a b))) (can_toInt64 _) (cnS_t (cnS_t (cfN K)))))
theorem s_lcmp (C : Ctx w h p s m args meth c) (hd : decode h.2.2.1 pc = .ok (.lcmp, 1)) {k : LL → List AV → St → Prop} (hN : ∀ L st S, k L st S → Nx w h p l e s m args below meth c Q (pc + 1) L st S) (hs : pJJ st (fun a b r => k L (.inl (jcmp a b) :: r) S)) : Nx w h p l e s m args below meth c Q pc L st S := by
  obtain ⟨a, b, r, rfl, h2⟩ := pJJ_spec hs
  intro H locs ls K
  refine W.lcmp C.1 C.2.1 hd ?_
  rw [of_lcmp (cnS_h (cnS_t (cfN K))) (cnS_h (cfN K))]
  exact hN _ _ _ h2 H locs ls (cfS K (cnS_c (v := .inl (jcmp a b)) (can_jcmp a b) (cnS_t (cnS_t (cfN K)))))
theorem s_i2l (C : Ctx w h p s m args meth c) (hd : decode h.2.2.1 pc = .ok (.i2l, 1)) {k : LL → List AV → St → Prop} (hN : ∀ L st S, k L st S → Nx w h p l e s m args below meth c Q (pc + 1) L st S) (hs : pI st (fun a r => k L (.inr (.inl a) :: r) S)) : Nx w h p l e s m args below meth c Q pc L st S := by
  obtain ⟨a, r, rfl, h2⟩ := pI_spec hs
  intro H locs ls K
  have hc : i32 a = a := cnS_h (cfN K)
  refine lv_i2l (v := Int64.ofInt a) C.1 C.2.1 hd (Int64.toInt_inj.mp (by rw [Int32.toInt_toInt64, toInt_i32, toInt_i64, hc, i64_of32 hc])) ?_
  exact hN _ _ _ h2 H locs ls (cfS K (cnS_c (v := .inr (.inl a)) (i64_of32 hc) (cnS_t (cfN K))))
theorem s_l2i (C : Ctx w h p s m args meth c) (hd : decode h.2.2.1 pc = .ok (.l2i, 1)) {k : LL → List AV → St → Prop} (hN : ∀ L st S, k L st S → Nx w h p l e s m args below meth c Q (pc + 1) L st S) (hs : pJ st (fun a r => k L (.inl (i32 a) :: r) S)) : Nx w h p l e s m args below meth c Q pc L st S := by
  obtain ⟨a, r, rfl, h2⟩ := pJ_spec hs
  intro H locs ls K
  refine lv_l2i (v := Int32.ofInt (i32 a)) C.1 C.2.1 hd (by rw [ofInt_i32, Int64.toInt32_ofInt]) ?_
  exact hN _ _ _ h2 H locs ls (cfS K (cnS_c (v := .inl (i32 a)) (i32_i32 _) (cnS_t (cfN K))))
theorem s_dup (C : Ctx w h p s m args meth c) (hd : decode h.2.2.1 pc = .ok (.dup, 1)) {k : LL → List AV → St → Prop} (hN : ∀ L st S, k L st S → Nx w h p l e s m args below meth c Q (pc + 1) L st S) (hs : match (generalizing := false) st with | .inl a :: r => k L (.inl a :: .inl a :: r) S | .inr (.inr a) :: r => k L (.inr (.inr a) :: .inr (.inr a) :: r) S | _ => False) : Nx w h p l e s m args below meth c Q pc L st S := by
  split at hs
  · intro H locs ls K
    refine lv_dup C.1 C.2.1 hd rfl ?_
    exact hN _ _ _ hs H locs ls (cfS K (cnS_c (cnS_h (cfN K)) (cfN K)))
  · intro H locs ls K
    refine lv_dup C.1 C.2.1 hd rfl ?_
    exact hN _ _ _ hs H locs ls (cfS K (cnS_c (cnS_h (cfN K)) (cfN K)))
  · exact hs.elim
theorem s_pop (C : Ctx w h p s m args meth c) (hd : decode h.2.2.1 pc = .ok (.pop, 1)) {k : LL → List AV → St → Prop} (hN : ∀ L st S, k L st S → Nx w h p l e s m args below meth c Q (pc + 1) L st S) (hs : match (generalizing := false) st with | .inl _ :: r => k L r S | .inr (.inr _) :: r => k L r S | _ => False) : Nx w h p l e s m args below meth c Q pc L st S := by
  split at hs
  · intro H locs ls K
    refine lv_pop C.1 C.2.1 hd rfl ?_
    exact hN _ _ _ hs H locs ls (cfS K (cnS_t (cfN K)))
  · intro H locs ls K
    refine lv_pop C.1 C.2.1 hd rfl ?_
    exact hN _ _ _ hs H locs ls (cfS K (cnS_t (cfN K)))
  · exact hs.elim
theorem s_dup2 (C : Ctx w h p s m args meth c) (hd : decode h.2.2.1 pc = .ok (.dup2, 1)) {k : LL → List AV → St → Prop} (hN : ∀ L st S, k L st S → Nx w h p l e s m args below meth c Q (pc + 1) L st S) (hs : pIR st (fun i c r => k L (.inl i :: .inr (.inr c) :: .inl i :: .inr (.inr c) :: r) S)) : Nx w h p l e s m args below meth c Q pc L st S := by
  obtain ⟨i, c, r, rfl, h2⟩ := pIR_spec hs
  intro H locs ls K
  refine lv_dup2_11 C.1 C.2.1 hd rfl rfl ?_
  exact hN _ _ _ h2 H locs ls (cfS K (cnS_c (cnS_h (cfN K)) (cnS_c (cnS_h (cnS_t (cfN K))) (cfN K))))
theorem s_goto (C : Ctx w h p s m args meth c) {o : Int} {t : Nat} (hd : decode h.2.2.1 pc = .ok (.goto o, 3)) (ht : (pc : Int) + o = (t : Int)) {k : LL → List AV → St → Prop} (hN : ∀ L st S, k L st S → Nx w h p l e s m args below meth c Q (pc + 3) L st S) {j : LL → List AV → St → Prop} (hJ : ∀ L st S, j L st S → Nx w h p l e s m args below meth c Q t L st S) (hs : j L st S) : Nx w h p l e s m args below meth c Q pc L st S := by
  intro H locs ls K
  refine lv_goto C.1 C.2.1 hd ht ?_
  exact hJ _ _ _ hs H locs ls K
theorem s_if_eq (C : Ctx w h p s m args meth c) {o : Int} {t : Nat} (hd : decode h.2.2.1 pc = .ok (.ifCond .eq o, 3)) (ht : (pc : Int) + o = (t : Int)) {k : LL → List AV → St → Prop} (hN : ∀ L st S, k L st S → Nx w h p l e s m args below meth c Q (pc + 3) L st S) {j : LL → List AV → St → Prop} (hJ : ∀ L st S, j L st S → Nx w h p l e s m args below meth c Q t L st S) (hs : pI st (fun a r => br0 .eq a (j L r S) (k L r S))) : Nx w h p l e s m args below meth c Q pc L st S := by
  obtain ⟨a, r, rfl, h1, h2⟩ := pI_spec hs
  intro H locs ls K
  have hc : i32 a = a := cnS_h (cfN K)
  refine lv_if_eq C.1 C.2.1 hd ht (fun q => ?_) (fun q => ?_)
  · exact hJ _ _ _ (h1 ((eq32 hc c0).mp q)) H locs ls (cfS K (cnS_t (cfN K)))
  · exact hN _ _ _ (h2 (fun z => q ((eq32 hc c0).mpr z))) H locs ls (cfS K (cnS_t (cfN K)))
theorem s_if_ne (C : Ctx w h p s m args meth c) {o : Int} {t : Nat} (hd : decode h.2.2.1 pc = .ok (.ifCond .ne o, 3)) (ht : (pc : Int) + o = (t : Int)) {k : LL → List AV → St → Prop} (hN : ∀ L st S, k L st S → Nx w h p l e s m args below meth c Q (pc + 3) L st S) {j : LL → List AV → St → Prop} (hJ : ∀ L st S, j L st S → Nx w h p l e s m args below meth c Q t L st S) (hs : pI st (fun a r => br0 .ne a (j L r S) (k L r S))) : Nx w h p l e s m args below meth c Q pc L st S := by
  obtain ⟨a, r, rfl, h1, h2⟩ := pI_spec hs
  intro H locs ls K
  have hc : i32 a = a := cnS_h (cfN K)
  refine lv_if_ne C.1 C.2.1 hd ht (fun q => ?_) (fun q => ?_)
  · exact hJ _ _ _ (h1 (fun z => q ((eq32 hc c0).mpr z))) H locs ls (cfS K (cnS_t (cfN K)))
  · exact hN _ _ _ (h2 ((eq32 hc c0).mp q)) H locs ls (cfS K (cnS_t (cfN K)))
theorem s_if_lt (C : Ctx w h p s m args meth c) {o : Int} {t : Nat} (hd : decode h.2.2.1 pc = .ok (.ifCond .lt o, 3)) (ht : (pc : Int) + o = (t : Int)) {k : LL → List AV → St → Prop} (hN : ∀ L st S, k L st S → Nx w h p l e s m args below meth c Q (pc + 3) L st S) {j : LL → List AV → St → Prop} (hJ : ∀ L st S, j L st S → Nx w h p l e s m args below meth c Q t L st S) (hs : pI st (fun a r => br0 .lt a (j L r S) (k L r S))) : Nx w h p l e s m args below meth c Q pc L st S := by
  obtain ⟨a, r, rfl, h1, h2⟩ := pI_spec hs
  intro H locs ls K
  have hc : i32 a = a := cnS_h (cfN K)
  refine lv_if_lt C.1 C.2.1 hd ht (fun q => ?_) (fun q => ?_)
  · exact hJ _ _ _ (h1 ((lt32 hc c0).mp q)) H locs ls (cfS K (cnS_t (cfN K)))
  · exact hN _ _ _ (h2 (Int.not_lt.mp (fun z => q ((lt32 hc c0).mpr z)))) H locs ls (cfS K (cnS_t (cfN K)))
theorem s_if_ge (C : Ctx w h p s m args meth c) {o : Int} {t : Nat} (hd : decode h.2.2.1 pc = .ok (.ifCond .ge o, 3)) (ht : (pc : Int) + o = (t : Int)) {k : LL → List AV → St → Prop} (hN : ∀ L st S, k L st S → Nx w h p l e s m args below meth c Q (pc + 3) L st S) {j : LL → List AV → St → Prop} (hJ : ∀ L st S, j L st S → Nx w h p l e s m args below meth c Q t L st S) (hs : pI st (fun a r => br0 .ge a (j L r S) (k L r S))) : Nx w h p l e s m args below meth c Q pc L st S := by
  obtain ⟨a, r, rfl, h1, h2⟩ := pI_spec hs
  intro H locs ls K
  have hc : i32 a = a := cnS_h (cfN K)
  refine lv_if_ge C.1 C.2.1 hd ht (fun q => ?_) (fun q => ?_)
  · exact hJ _ _ _ (h1 ((le32 c0 hc).mp q)) H locs ls (cfS K (cnS_t (cfN K)))
  · exact hN _ _ _ (h2 (Int.not_le.mp (fun z => q ((le32 c0 hc).mpr z)))) H locs ls (cfS K (cnS_t (cfN K)))
theorem s_if_gt (C : Ctx w h p s m args meth c) {o : Int} {t : Nat} (hd : decode h.2.2.1 pc = .ok (.ifCond .gt o, 3)) (ht : (pc : Int) + o = (t : Int)) {k : LL → List AV → St → Prop} (hN : ∀ L st S, k L st S → Nx w h p l e s m args below meth c Q (pc + 3) L st S) {j : LL → List AV → St → Prop} (hJ : ∀ L st S, j L st S → Nx w h p l e s m args below meth c Q t L st S) (hs : pI st (fun a r => br0 .gt a (j L r S) (k L r S))) : Nx w h p l e s m args below meth c Q pc L st S := by
  obtain ⟨a, r, rfl, h1, h2⟩ := pI_spec hs
  intro H locs ls K
  have hc : i32 a = a := cnS_h (cfN K)
  refine lv_if_gt C.1 C.2.1 hd ht (fun q => ?_) (fun q => ?_)
  · exact hJ _ _ _ (h1 ((lt32 c0 hc).mp q)) H locs ls (cfS K (cnS_t (cfN K)))
  · exact hN _ _ _ (h2 (Int.not_lt.mp (fun z => q ((lt32 c0 hc).mpr z)))) H locs ls (cfS K (cnS_t (cfN K)))
theorem s_if_le (C : Ctx w h p s m args meth c) {o : Int} {t : Nat} (hd : decode h.2.2.1 pc = .ok (.ifCond .le o, 3)) (ht : (pc : Int) + o = (t : Int)) {k : LL → List AV → St → Prop} (hN : ∀ L st S, k L st S → Nx w h p l e s m args below meth c Q (pc + 3) L st S) {j : LL → List AV → St → Prop} (hJ : ∀ L st S, j L st S → Nx w h p l e s m args below meth c Q t L st S) (hs : pI st (fun a r => br0 .le a (j L r S) (k L r S))) : Nx w h p l e s m args below meth c Q pc L st S := by
  obtain ⟨a, r, rfl, h1, h2⟩ := pI_spec hs
  intro H locs ls K
  have hc : i32 a = a := cnS_h (cfN K)
  refine lv_if_le C.1 C.2.1 hd ht (fun q => ?_) (fun q => ?_)
  · exact hJ _ _ _ (h1 ((le32 hc c0).mp q)) H locs ls (cfS K (cnS_t (cfN K)))
  · exact hN _ _ _ (h2 (Int.not_le.mp (fun z => q ((le32 hc c0).mpr z)))) H locs ls (cfS K (cnS_t (cfN K)))
theorem s_icmp_eq (C : Ctx w h p s m args meth c) {o : Int} {t : Nat} (hd : decode h.2.2.1 pc = .ok (.if_icmp .eq o, 3)) (ht : (pc : Int) + o = (t : Int)) {k : LL → List AV → St → Prop} (hN : ∀ L st S, k L st S → Nx w h p l e s m args below meth c Q (pc + 3) L st S) {j : LL → List AV → St → Prop} (hJ : ∀ L st S, j L st S → Nx w h p l e s m args below meth c Q t L st S) (hs : pII st (fun a b r => br2 .eq a b (j L r S) (k L r S))) : Nx w h p l e s m args below meth c Q pc L st S := by
  obtain ⟨a, b, r, rfl, h1, h2⟩ := pII_spec hs
  intro H locs ls K
  have hc : i32 a = a := cnS_h (cnS_t (cfN K))
  have hc2 : i32 b = b := cnS_h (cfN K)
  refine lv_icmp_eq C.1 C.2.1 hd ht (fun q => ?_) (fun q => ?_)
  · exact hJ _ _ _ (h1 ((eq32 hc hc2).mp q)) H locs ls (cfS K (cnS_t (cnS_t (cfN K))))
  · exact hN _ _ _ (h2 (fun z => q ((eq32 hc hc2).mpr z))) H locs ls (cfS K (cnS_t (cnS_t (cfN K))))
theorem s_icmp_ne (C : Ctx w h p s m args meth c) {o : Int} {t : Nat} (hd : decode h.2.2.1 pc = .ok (.if_icmp .ne o, 3)) (ht : (pc : Int) + o = (t : Int)) {k : LL → List AV → St → Prop} (hN : ∀ L st S, k L st S → Nx w h p l e s m args below meth c Q (pc + 3) L st S) {j : LL → List AV → St → Prop} (hJ : ∀ L st S, j L st S → Nx w h p l e s m args below meth c Q t L st S) (hs : pII st (fun a b r => br2 .ne a b (j L r S) (k L r S))) : Nx w h p l e s m args below meth c Q pc L st S := by
  obtain ⟨a, b, r, rfl, h1, h2⟩ := pII_spec hs
  intro H locs ls K
  have hc : i32 a = a := cnS_h (cnS_t (cfN K))
  have hc2 : i32 b = b := cnS_h (cfN K)
  refine lv_icmp_ne C.1 C.2.1 hd ht (fun q => ?_) (fun q => ?_)
  · exact hJ _ _ _ (h1 (fun z => q ((eq32 hc hc2).mpr z))) H locs ls (cfS K (cnS_t (cnS_t (cfN K))))
  · exact hN _ _ _ (h2 ((eq32 hc hc2).mp q)) H locs ls (cfS K (cnS_t (cnS_t (cfN K))))
theorem s_icmp_lt (C : Ctx w h p s m args meth c) {o : Int} {t : Nat} (hd : decode h.2.2.1 pc = .ok (.if_icmp .lt o, 3)) (ht : (pc : Int) + o = (t : Int)) {k : LL → List AV → St → Prop} (hN : ∀ L st S, k L st S → Nx w h p l e s m args below meth c Q (pc + 3) L st S) {j : LL → List AV → St → Prop} (hJ : ∀ L st S, j L st S → Nx w h p l e s m args below meth c Q t L st S) (hs : pII st (fun a b r => br2 .lt a b (j L r S) (k L r S))) : Nx w h p l e s m args below meth c Q pc L st S := by
  obtain ⟨a, b, r, rfl, h1, h2⟩ := pII_spec hs
  intro H locs ls K
  have hc : i32 a = a := cnS_h (cnS_t (cfN K))
  have hc2 : i32 b = b := cnS_h (cfN K)
  refine lv_icmp_lt C.1 C.2.1 hd ht (fun q => ?_) (fun q => ?_)
  · exact hJ _ _ _ (h1 ((lt32 hc hc2).mp q)) H locs ls (cfS K (cnS_t (cnS_t (cfN K))))
  · exact hN _ _ _ (h2 (Int.not_lt.mp (fun z => q ((lt32 hc hc2).mpr z)))) H locs ls (cfS K (cnS_t (cnS_t (cfN K))))
theorem s_icmp_ge (C : Ctx w h p s m args meth c) {o : Int} {t : Nat} (hd : decode h.2.2.1 pc = .ok (.if_icmp .ge o, 3)) (ht : (pc : Int) + o = (t : Int)) {k : LL → List AV → St → Prop} (hN : ∀ L st S, k L st S → Nx w h p l e s m args below meth c Q (pc + 3) L st S) {j : LL → List AV → St → Prop} (hJ : ∀ L st S, j L st S → Nx w h p l e s m args below meth c Q t L st S) (hs : pII st (fun a b r => br2 .ge a b (j L r S) (k L r S))) : Nx w h p l e s m args below meth c Q pc L st S := by
  obtain ⟨a, b, r, rfl, h1, h2⟩ := pII_spec hs
  intro H locs ls K
  have hc : i32 a = a := cnS_h (cnS_t (cfN K))
  have hc2 : i32 b = b := cnS_h (cfN K)
  refine lv_icmp_ge C.1 C.2.1 hd ht (fun q => ?_) (fun q => ?_)
  · exact hJ _ _ _ (h1 ((le32 hc2 hc).mp q)) H locs ls (cfS K (cnS_t (cnS_t (cfN K))))
  · exact hN _ _ _ (h2 (Int.not_le.mp (fun z => q ((le32 hc2 hc).mpr z)))) H locs ls (cfS K (cnS_t (cnS_t (cfN K))))
theorem s_icmp_gt (C : Ctx w h p s m args meth c) {o : Int} {t : Nat} (hd : decode h.2.2.1 pc = .ok (.if_icmp .gt o, 3)) (ht : (pc : Int) + o = (t : Int)) {k : LL → List AV → St → Prop} (hN : ∀ L st S, k L st S → Nx w h p l e s m args below meth c Q (pc + 3) L st S) {j : LL → List AV → St → Prop} (hJ : ∀ L st S, j L st S → Nx w h p l e s m args below meth c Q t L st S) (hs : pII st (fun a b r => br2 .gt a b (j L r S) (k L r S))) : Nx w h p l e s m args below meth c Q pc L st S := by
  obtain ⟨a, b, r, rfl, h1, h2⟩ := pII_spec hs
  intro H locs ls K
  have hc : i32 a = a := cnS_h (cnS_t (cfN K))
  have hc2 : i32 b = b := cnS_h (cfN K)
  refine lv_icmp_gt C.1 C.2.1 hd ht (fun q => ?_) (fun q => ?_)
  · exact hJ _ _ _ (h1 ((lt32 hc2 hc).mp q)) H locs ls (cfS K (cnS_t (cnS_t (cfN K))))
  · exact hN _ _ _ (h2 (Int.not_lt.mp (fun z => q ((lt32 hc2 hc).mpr z)))) H locs ls (cfS K (cnS_t (cnS_t (cfN K))))
theorem s_icmp_le (C : Ctx w h p s m args meth c) {o : Int} {t : Nat} (hd : decode h.2.2.1 pc = .ok (.if_icmp .le o, 3)) (ht : (pc : Int) + o = (t : Int)) {k : LL → List AV → St → Prop} (hN : ∀ L st S, k L st S → Nx w h p l e s m args below meth c Q (pc + 3) L st S) {j : LL → List AV → St → Prop} (hJ : ∀ L st S, j L st S → Nx w h p l e s m args below meth c Q t L st S) (hs : pII st (fun a b r => br2 .le a b (j L r S) (k L r S))) : Nx w h p l e s m args below meth c Q pc L st S := by
  obtain ⟨a, b, r, rfl, h1, h2⟩ := pII_spec hs
  intro H locs ls K
  have hc : i32 a = a := cnS_h (cnS_t (cfN K))
  have hc2 : i32 b = b := cnS_h (cfN K)
  refine lv_icmp_le C.1 C.2.1 hd ht (fun q => ?_) (fun q => ?_)
  · exact hJ _ _ _ (h1 ((le32 hc hc2).mp q)) H locs ls (cfS K (cnS_t (cnS_t (cfN K))))
  · exact hN _ _ _ (h2 (Int.not_le.mp (fun z => q ((le32 hc hc2).mpr z)))) H locs ls (cfS K (cnS_t (cnS_t (cfN K))))
end SND
end
section
/-! fields, arrays, calls, ends -/
section SNM
variable {w : Wd} {h : Hd} {p : Program} {l : Launch} {e : Env} {s : State} {m : MethodId} {args : Array Value} {below : List Frame} {meth : Method} {c : Code} {Q : Option AV → St → Prop}
variable {H : Heap} {locs : List Loc} {ls : Array Slot} {L : LL} {st : List AV} {S : St} {pc : Nat}
theorem getK_spec {c ci k : Nat} {f : AV → Prop} (hC : Can S) (h1 : getK c ci k S f) : ∃ ks q v, shp c = .inl (ci, ks) ∧ ks[k]? = some q ∧ (∀ ad, fv ad q (S c q.2.2.2) = cv ad v) ∧ cnV v ∧ f v := by
  unfold getK at h1
  split at h1
  · rename_i ci' ks hsh
    split at h1
    · rename_i hbe
      have e0 := Nat.beq_eq.mp hbe
      subst e0
      split at h1
      · rename_i j hk
        exact ⟨ks, _, .inl (S c j), hsh, hk, fun ad => rfl, Can_F hC hsh hk, h1⟩
      · rename_i j hk
        exact ⟨ks, _, .inr (.inl (S c j)), hsh, hk, fun ad => rfl, Can_F hC hsh hk, h1⟩
      · rename_i t z1 z2 hk
        exact ⟨ks, _, .inr (.inr t), hsh, hk, fun ad => rfl, trivial, h1⟩
      · rename_i j hk
        exact ⟨ks, _, .inl (S c j), hsh, hk, fun ad => rfl, can01 (Can_F hC hsh hk), h1⟩
      · rename_i a b j hk
        have h01 : S c j = 0 ∨ S c j = 1 := Can_F hC hsh hk
        rcases h01 with z | z
        · exact ⟨ks, _, .inr (.inr a), hsh, hk, fun ad => by simp only [fv, cv, z, if_true], trivial, h1.1 z⟩
        · exact ⟨ks, _, .inr (.inr b), hsh, hk, fun ad => by simp only [fv, cv, z]; rfl, trivial, h1.2 z⟩
      · exact h1.elim
    · exact h1.elim
  · exact h1.elim
theorem cell_obj {c ci : Nat} {ks : List (Nat × Nat × Nat × Int)} (hsh : shp c = .inl (ci, ks)) : cellE w c S = .inr (ci, ks.map (fun k => fv w.2.1 k (S c k.2.2.2))) := by unfold cellE cellF; rw [hsh]
theorem s_getfield (C : Ctx w h p s m args meth c) {x ci j : Nat} (hd : decode h.2.2.1 pc = .ok (.getfield x, 3)) (hf : flC h.1 x ci j = true) {k : LL → List AV → St → Prop} (hN : ∀ L st S, k L st S → Nx w h p l e s m args below meth c Q (pc + 3) L st S) (hs : pR st (fun c r => getK c ci j S (fun v => k L (v :: r) S))) : Nx w h p l e s m args below meth c Q pc L st S := by
  obtain ⟨c0, r, rfl, h1⟩ := pR_spec hs
  obtain ⟨hlk, hk, hci⟩ := flE hf
  intro H locs ls K
  obtain ⟨ks, q, v, hsh, hq, hfv, hcn, h2⟩ := getK_spec K.2.1 h1
  have hcell := wl_get w S (sh_obj hsh).1
  rw [cell_obj hsh] at hcell
  refine va_get (D := w.1) (ci := ci) (C := (clE ci).1) (T := (clE ci).2.1) (N := (clE ci).2.2) (v := cv w.2.1 v) C.1 C.2.1 C.2.2.2.2.2.1 (uE ci hci) C.2.2.2.2.1 C.2.2.2.2.2.2.2.1.1 K.1 c0 hcell (clE_get ci hci) j hk (C.2.2.2.2.2.1 _ hlk) (fun _ h9 => h9) ?_ hd ?_
  · rw [List.getElem?_map, hq]
    exact congrArg some (hfv _)
  · exact hN _ _ _ h2 H locs ls (cfS K (cnS_c hcn (cnS_t (cfN K))))
theorem putK_spec {ci k : Nat} {f : List AV → St → Prop} (h1 : putK st ci k S f) : ∃ v c r ks q a, st = v :: .inr (.inr c) :: r ∧ shp c = .inl (ci, ks) ∧ ks[k]? = some q ∧ f r (up S c q.2.2.2 a) ∧ (∀ ad, fv ad q a = cv ad v) ∧ (cnV v → cnK q.1 a) ∧
    ((q.1 = 0 ∧ ∃ x, v = .inl x) ∨ (q.1 = 1 ∧ ∃ x, v = .inr (.inl x)) ∨ (q.1 = 3 ∧ ∃ x, v = .inl x ∧ (x = 0 ∨ x = 1)) ∨ (q.1 = 4 ∧ ∃ x, v = .inr (.inr x))) := by
  unfold putK at h1
  split at h1
  · rename_i v c r
    split at h1
    · rename_i ci' ks hsh
      split at h1
      · rename_i hbe
        have e0 := Nat.beq_eq.mp hbe
        subst e0
        split at h1
        · rename_i j a hk
          exact ⟨_, c, r, ks, _, a, rfl, hsh, hk, h1, fun ad => rfl, fun z => z, Or.inl ⟨rfl, a, rfl⟩⟩
        · rename_i j a hk
          exact ⟨_, c, r, ks, _, a, rfl, hsh, hk, h1, fun ad => rfl, fun z => z, Or.inr (Or.inl ⟨rfl, a, rfl⟩)⟩
        · rename_i j a hk
          exact ⟨_, c, r, ks, _, a, rfl, hsh, hk, h1.2, fun ad => rfl, fun _ => h1.1, Or.inr (Or.inr (Or.inl ⟨rfl, a, rfl, h1.1⟩))⟩
        · rename_i x y j t hk
          split at h1
          · rename_i hb1
            have e1 := Nat.beq_eq.mp hb1
            exact ⟨_, c, r, ks, _, 0, rfl, hsh, hk, h1, fun ad => by simp only [fv, cv, if_true, e1], fun _ => Or.inl rfl, Or.inr (Or.inr (Or.inr ⟨rfl, t, rfl⟩))⟩
          · split at h1
            · rename_i hb1
              have e1 := Nat.beq_eq.mp hb1
              exact ⟨_, c, r, ks, _, 1, rfl, hsh, hk, h1, fun ad => by simp only [fv, cv, e1]; rfl, fun _ => Or.inr rfl, Or.inr (Or.inr (Or.inr ⟨rfl, t, rfl⟩))⟩
            · exact h1.elim
        · exact h1.elim
      · exact h1.elim
    · exact h1.elim
  · exact h1.elim
theorem up_obj {c ci k : Nat} {ks : List (Nat × Nat × Nat × Int)} {q : Nat × Nat × Nat × Int} {a : Int} (hsh : shp c = .inl (ci, ks)) (hk : ks[k]? = some q) (ad : Nat → Nat) : (ks.map (fun k => fv ad k (S c k.2.2.2))).set k (fv ad q a) = ks.map (fun k => fv ad k (up S c q.2.2.2 a c k.2.2.2)) := by
  have h4 := (sh_obj hsh).2.2.2
  have hl := (List.getElem?_eq_some_iff.mp hk).1
  apply List.ext_getElem?
  intro i
  by_cases hi : i = k
  · subst hi
    rw [List.getElem?_set_self (by rw [List.length_map]; exact hl), List.getElem?_map, hk]
    simp only [Option.map_some, up_c, if_true]
  · rw [List.getElem?_set_ne (Ne.symm hi), List.getElem?_map, List.getElem?_map]
    cases hq : ks[i]? with
    | none => rfl
    | some q' =>
      have e1 := kd_slot (h4 i q' hq)
      have e2 := kd_slot (h4 k q hk)
      simp only [Option.map_some, up_c]
      rw [if_neg (by rw [e1, e2]; omega)]
theorem s_putfield (C : Ctx w h p s m args meth c) {x ci j : Nat} (hd : decode h.2.2.1 pc = .ok (.putfield x, 3)) (hf : flC h.1 x ci j = true) (hfin : ((clE ci).2.1 j).2.2.2 = false) {k : LL → List AV → St → Prop} (hN : ∀ L st S, k L st S → Nx w h p l e s m args below meth c Q (pc + 3) L st S) (hs : putK st ci j S (fun r S => k L r S)) : Nx w h p l e s m args below meth c Q pc L st S := by
  obtain ⟨v, c0, r, ks, q, a, rfl, hsh, hq, h2, hfv, hcn, hty⟩ := putK_spec hs
  obtain ⟨hlk, hk, hci⟩ := flE hf
  intro H locs ls K
  have hcell := wl_get w S (sh_obj hsh).1
  rw [cell_obj hsh] at hcell
  have hkd := (sh_obj hsh).2.2.2 j q hq
  unfold kdOk at hkd
  have hpt := tyE ci hci j hk
  have hnf : narrow ((tyCl.getD ci (fun _ => .int)) j) (cv w.2.1 v) = cv w.2.1 v ∧ fits ((tyCl.getD ci (fun _ => .int)) j) (cv w.2.1 v) = true := by
    rcases hty with ⟨z, x, rfl⟩ | ⟨z, x, rfl⟩ | ⟨z, x, rfl, zz⟩ | ⟨z, x, rfl⟩
    · rw [z] at hkd
      simp only [Bool.and_eq_true, decide_eq_true_eq] at hkd
      rw [hkd.2]
      exact ⟨rfl, rfl⟩
    · rw [z] at hkd
      simp only [Bool.and_eq_true, decide_eq_true_eq] at hkd
      rw [hkd.2]
      exact ⟨rfl, rfl⟩
    · rw [z] at hkd
      simp only [Bool.and_eq_true, decide_eq_true_eq] at hkd
      rw [hkd.2]
      rcases zz with rfl | rfl <;> exact ⟨rfl, rfl⟩
    · rw [z] at hkd
      simp only [Bool.and_eq_true, decide_eq_true_eq] at hkd
      have hkd2 := hkd.2
      split at hkd2
      · rename_i nm e1
        rw [e1]
        exact ⟨rfl, rfl⟩
      · cases hkd2
  refine va_put (D := w.1) (ci := ci) (C := (clE ci).1) (T := (clE ci).2.1) (N := (clE ci).2.2) (v := cv w.2.1 v) (ty := (tyCl.getD ci (fun _ => .int)) j) C.1 C.2.1 C.2.2.2.2.2.1 (uE ci hci) (tyCl.getD ci (fun _ => .int)) (tyE ci hci) (nmE ci hci) C.2.2.2.2.1 C.2.2.2.2.2.2.2.1.1 K.1 (wl_D w S C.2.2.2.2.2.2.2.2) (cfA K) c0 hcell (clE_get ci hci) j hk (C.2.2.2.2.2.1 _ hlk) (fun _ h9 => h9) hfin hpt hnf.1 hnf.2 (by rw [List.length_map]; exact (List.getElem?_eq_some_iff.mp hq).1) hd (fun H1 locs1 hP1 hD1 hS1 => ?_)
  have hce : (ci, (ks.map (fun k => fv w.2.1 k (S c0 k.2.2.2))).set j (cv w.2.1 v)) = (ci, ks.map (fun k => fv w.2.1 k (up S c0 q.2.2.2 a c0 k.2.2.2))) := by rw [← hfv, up_obj hsh hq]
  rw [hce] at hP1
  have hWo : Wo w (up S c0 q.2.2.2 a) H1 := by
    unfold Wo
    rw [← wl_set w (S := S) (S' := up S c0 q.2.2.2 a) (sh_obj hsh).1 (fun c' hc' => up_o S _ _ hc'), cell_obj hsh]
    exact hP1
  exact hN _ _ _ h2 H1 locs1 ls (cfH K hWo (Can_up K.2.1 (cnC_F hsh hq (hcn (cnS_h (cfN K))))) (cnS_t (cnS_t (cfN K))) hS1)
/-! arrays -/
theorem cell_I {c n : Nat} {k : Int} (hsh : shp c = .inr (0, n, k)) : cellE w c S = .inl (w.2.2.1, n, .inl (fun j => Int32.ofInt (S c j))) := by unfold cellE cellF; rw [hsh]; rfl
theorem cell_J {c n : Nat} {k : Int} (hsh : shp c = .inr (1, n, k)) : cellE w c S = .inl (w.2.2.2.1, n, .inr (.inl (fun j => Int64.ofInt (S c j)))) := by unfold cellE cellF; rw [hsh]; rfl
theorem cell_Z {c n : Nat} {k : Int} (hsh : shp c = .inr (2, n, k)) : cellE w c S = .inl (w.2.2.2.2.1, n, .inl (fun j => Int32.ofInt (S c j))) := by unfold cellE cellF; rw [hsh]; rfl
theorem toN {i : Int} (h : 0 ≤ i) : ((i.toNat : Nat) : Int) = i := Int.toNat_of_nonneg h
theorem stK_i (C : Ctx w h p s m args meth c) {n : Nat} (hn : n < 4) (h1 : n ≠ 1) : va_T .int (w.2.1 (sA n)) 16 (fun j => .int (Int32.ofInt (cst n j))) (inA w) s s.heap := by
  have h2 := C.2.2.2.2.2.2.2.1.2.1
  rw [C.2.2.2.2.2.2.2.2.2 n hn]
  match n, hn, h1 with
  | 0, _, _ => exact h2.1.2
  | 1, _, z => exact absurd rfl z
  | 2, _, _ => exact h2.2.2.1.2
  | 3, _, _ => exact h2.2.2.2.2
theorem can_cst (n : Nat) (i : Int) : i32 (cst n i) = cst n i := by
  unfold cst
  refine getD_P (P := fun z : Int => i32 z = z) _ _ (getD_P (P := fun l : List Int => ∀ z ∈ l, i32 z = z) _ _ ?_ (fun _ z => absurd z List.not_mem_nil)) rfl
  decide +kernel
theorem s_iaload (C : Ctx w h p s m args meth c) (hd : decode h.2.2.1 pc = .ok (.iaload, 1)) {k : LL → List AV → St → Prop} (hN : ∀ L st S, k L st S → Nx w h p l e s m args below meth c Q (pc + 1) L st S) (hs : pIR st (fun i c r => aldI c i S (fun v => k L (v :: r) S))) : Nx w h p l e s m args below meth c Q pc L st S := by
  obtain ⟨i, c0, r, rfl, h1⟩ := pIR_spec hs
  unfold aldI at h1
  split at h1
  · rename_i n k hsh
    obtain ⟨hlt, hk, hn⟩ := sh_arr hsh (Or.inl rfl)
    subst hk
    intro H locs ls K
    have hi : i32 i = i := cnS_h (cfN K)
    have hcell := wl_get w S hlt
    rw [cell_I hsh] at hcell
    refine va_iald (D := w.1) C.1 C.2.1 C.2.2.2.2.2.2.2.1.1 K.1 c0 0 hcell rfl (vpin hi h1.1) hd ?_
    have e0 : Int32.ofInt (S c0 ((Int32.ofInt i).toNatClampNeg : Int)) = Int32.ofInt (S c0 i) := by rw [clamp32 hi h1.1.1, toN h1.1.1]
    rw [e0]
    exact hN _ _ _ h1.2 H locs ls (cfS K (cnS_c (v := .inl (S c0 i)) (Can_I K.2.1 hsh i) (cnS_t (cnS_t (cfN K)))))
  · rename_i t k hsh
    obtain ⟨hc, ht, hk, ht1⟩ := sh_st5 hsh
    subst hc hk
    intro H locs ls K
    have hi : i32 i = i := cnS_h (cfN K)
    refine va_ti C.1 C.2.1 (stK_i C ht ht1) (cfA K) (i := Int32.ofInt i) (vpin hi h1.1) (v := .int (Int32.ofInt (cst t i))) (by show Value.int (Int32.ofInt (cst t ((Int32.ofInt i).toNatClampNeg : Int))) = _; rw [clamp32 hi h1.1.1, toN h1.1.1]) hd ?_
    exact hN _ _ _ h1.2 H locs ls (cfS K (cnS_c (v := .inl (cst t i)) (can_cst t i) (cnS_t (cnS_t (cfN K)))))
  · exact h1.elim
theorem s_caload (C : Ctx w h p s m args meth c) (hd : decode h.2.2.1 pc = .ok (.caload, 1)) {k : LL → List AV → St → Prop} (hN : ∀ L st S, k L st S → Nx w h p l e s m args below meth c Q (pc + 1) L st S) (hs : pIR st (fun i c r => aldC c i (fun v => k L (v :: r) S))) : Nx w h p l e s m args below meth c Q pc L st S := by
  obtain ⟨i, c0, r, rfl, h1⟩ := pIR_spec hs
  unfold aldC at h1
  split at h1
  · rename_i t k hsh
    obtain ⟨hc, ht, hk⟩ := sh_st6 hsh
    subst hc ht hk
    intro H locs ls K
    have hi : i32 i = i := cnS_h (cfN K)
    have hT : va_T .char (w.2.1 (sA 1)) 16 (fun j => .int (Int32.ofInt (cst 1 j))) (inA w) s s.heap := by
      rw [C.2.2.2.2.2.2.2.2.2 1 (by omega)]
      exact C.2.2.2.2.2.2.2.1.2.1.2.1.2
    refine va_tc C.1 C.2.1 hT (cfA K) (i := Int32.ofInt i) (vpin hi h1.1) (v := .int (Int32.ofInt (cst 1 i))) (by show Value.int (Int32.ofInt (cst 1 ((Int32.ofInt i).toNatClampNeg : Int))) = _; rw [clamp32 hi h1.1.1, toN h1.1.1]) hd ?_
    exact hN _ _ _ h1.2 H locs ls (cfS K (cnS_c (v := .inl (cst 1 i)) (can_cst 1 i) (cnS_t (cnS_t (cfN K)))))
  · exact h1.elim
theorem s_laload (C : Ctx w h p s m args meth c) (hd : decode h.2.2.1 pc = .ok (.laload, 1)) {k : LL → List AV → St → Prop} (hN : ∀ L st S, k L st S → Nx w h p l e s m args below meth c Q (pc + 1) L st S) (hs : pIR st (fun i c r => aldJ c i S (fun v => k L (v :: r) S))) : Nx w h p l e s m args below meth c Q pc L st S := by
  obtain ⟨i, c0, r, rfl, h1⟩ := pIR_spec hs
  unfold aldJ at h1
  split at h1
  · rename_i n k hsh
    obtain ⟨hlt, hk, hn⟩ := sh_arr hsh (Or.inr (Or.inl rfl))
    subst hk
    intro H locs ls K
    have hi : i32 i = i := cnS_h (cfN K)
    have hcell := wl_get w S hlt
    rw [cell_J hsh] at hcell
    refine va_lald (D := w.1) C.1 C.2.1 C.2.2.2.2.2.2.2.1.1 K.1 c0 1 hcell rfl (vpin hi h1.1) hd ?_
    have e0 : Int64.ofInt (S c0 ((Int32.ofInt i).toNatClampNeg : Int)) = Int64.ofInt (S c0 i) := by rw [clamp32 hi h1.1.1, toN h1.1.1]
    rw [e0]
    exact hN _ _ _ h1.2 H locs ls (cfS K (cnS_c (v := .inr (.inl (S c0 i))) (Can_J K.2.1 hsh i) (cnS_t (cnS_t (cfN K)))))
  · exact h1.elim
theorem s_baload (C : Ctx w h p s m args meth c) (hd : decode h.2.2.1 pc = .ok (.baload, 1)) {k : LL → List AV → St → Prop} (hN : ∀ L st S, k L st S → Nx w h p l e s m args below meth c Q (pc + 1) L st S) (hs : pIR st (fun i c r => aldZ c i S (fun v => k L (v :: r) S))) : Nx w h p l e s m args below meth c Q pc L st S := by
  obtain ⟨i, c0, r, rfl, h1⟩ := pIR_spec hs
  unfold aldZ at h1
  split at h1
  · rename_i n k hsh
    obtain ⟨hlt, hk, hn⟩ := sh_arr hsh (Or.inr (Or.inr rfl))
    subst hk
    intro H locs ls K
    have hi : i32 i = i := cnS_h (cfN K)
    have hcell := wl_get w S hlt
    rw [cell_Z hsh] at hcell
    refine va_zald (D := w.1) C.1 C.2.1 C.2.2.2.2.2.2.2.1.1 K.1 c0 2 hcell rfl (vpin hi h1.1) hd ?_
    have e0 : Int32.ofInt (S c0 ((Int32.ofInt i).toNatClampNeg : Int)) = Int32.ofInt (S c0 i) := by rw [clamp32 hi h1.1.1, toN h1.1.1]
    rw [e0]
    exact hN _ _ _ h1.2 H locs ls (cfS K (cnS_c (v := .inl (S c0 i)) (can01 (Can_Z K.2.1 hsh i)) (cnS_t (cnS_t (cfN K)))))
  · exact h1.elim
theorem upd_eq {f : Int → Int} {i v : Int} (hi : i32 i = i) (h0 : 0 ≤ i) : upd (fun (j : Nat) => Int32.ofInt (f (j : Int))) (Int32.ofInt i).toNatClampNeg (Int32.ofInt v) = fun (j : Nat) => Int32.ofInt (if (j : Int) = i then v else f (j : Int)) := by
  funext j
  unfold upd
  rw [clamp32 hi h0]
  by_cases hj : j = i.toNat
  · rw [if_pos hj, if_pos (by rw [hj, toN h0])]
  · rw [if_neg hj, if_neg (fun z => hj (by omega))]
theorem updL_eq {f : Int → Int} {i v : Int} (hi : i32 i = i) (h0 : 0 ≤ i) : vp_updL (fun (j : Nat) => Int64.ofInt (f (j : Int))) (Int32.ofInt i).toNatClampNeg (Int64.ofInt v) = fun (j : Nat) => Int64.ofInt (if (j : Int) = i then v else f (j : Int)) := by
  funext j
  unfold vp_updL
  rw [clamp32 hi h0]
  by_cases hj : j = i.toNat
  · rw [if_pos hj, if_pos (by rw [hj, toN h0])]
  · rw [if_neg hj, if_neg (fun z => hj (by omega))]
theorem s_iastore (C : Ctx w h p s m args meth c) (hd : decode h.2.2.1 pc = .ok (.iastore, 1)) {k : LL → List AV → St → Prop} (hN : ∀ L st S, k L st S → Nx w h p l e s m args below meth c Q (pc + 1) L st S) (hs : astI st S (fun r S => k L r S)) : Nx w h p l e s m args below meth c Q pc L st S := by
  unfold astI at hs
  split at hs
  · rename_i v i c0 r
    split at hs
    · rename_i n k hsh
      obtain ⟨hlt, hk, hn⟩ := sh_arr hsh (Or.inl rfl)
      subst hk
      intro H locs ls K
      have hv : i32 v = v := cnS_h (cfN K)
      have hi : i32 i = i := cnS_h (cnS_t (cfN K))
      have hcell := wl_get w S hlt
      rw [cell_I hsh] at hcell
      refine va_iast (D := w.1) C.1 C.2.1 C.2.2.2.2.2.2.2.1.1 K.1 (wl_D w S C.2.2.2.2.2.2.2.2) (cfA K) c0 0 hcell rfl (vpin hi hs.1) hd (fun H1 locs1 hP1 hD1 hS1 => ?_)
      rw [upd_eq hi hs.1.1] at hP1
      have hWo : Wo w (up S c0 i v) H1 := by
        unfold Wo
        rw [← wl_set w (S := S) (S' := up S c0 i v) hlt (fun c' hc' => up_o S _ _ hc'), cell_I hsh, up_c]
        exact hP1
      exact hN _ _ _ hs.2 H1 locs1 ls (cfH K hWo (Can_up K.2.1 (by unfold cnC; rw [hsh]; exact hv)) (cnS_t (cnS_t (cnS_t (cfN K)))) hS1)
    · exact hs.elim
  · exact hs.elim
theorem s_lastore (C : Ctx w h p s m args meth c) (hd : decode h.2.2.1 pc = .ok (.lastore, 1)) {k : LL → List AV → St → Prop} (hN : ∀ L st S, k L st S → Nx w h p l e s m args below meth c Q (pc + 1) L st S) (hs : astJ st S (fun r S => k L r S)) : Nx w h p l e s m args below meth c Q pc L st S := by
  unfold astJ at hs
  split at hs
  · rename_i v i c0 r
    split at hs
    · rename_i n k hsh
      obtain ⟨hlt, hk, hn⟩ := sh_arr hsh (Or.inr (Or.inl rfl))
      subst hk
      intro H locs ls K
      have hv : i64 v = v := cnS_h (cfN K)
      have hi : i32 i = i := cnS_h (cnS_t (cfN K))
      have hcell := wl_get w S hlt
      rw [cell_J hsh] at hcell
      refine va_last (D := w.1) C.1 C.2.1 C.2.2.2.2.2.2.2.1.1 K.1 (wl_D w S C.2.2.2.2.2.2.2.2) (cfA K) c0 1 hcell rfl (vpin hi hs.1) hd (fun H1 locs1 hP1 hD1 hS1 => ?_)
      rw [updL_eq hi hs.1.1] at hP1
      have hWo : Wo w (up S c0 i v) H1 := by
        unfold Wo
        rw [← wl_set w (S := S) (S' := up S c0 i v) hlt (fun c' hc' => up_o S _ _ hc'), cell_J hsh, up_c]
        exact hP1
      exact hN _ _ _ hs.2 H1 locs1 ls (cfH K hWo (Can_up K.2.1 (by unfold cnC; rw [hsh]; exact hv)) (cnS_t (cnS_t (cnS_t (cfN K)))) hS1)
    · exact hs.elim
  · exact hs.elim
theorem nar01 {v : Int} (h : v = 0 ∨ v = 1) : vp_nar .boolean (Int32.ofInt v) = Int32.ofInt v := by rcases h with rfl | rfl <;> rfl
theorem s_bastore (C : Ctx w h p s m args meth c) (hd : decode h.2.2.1 pc = .ok (.bastore, 1)) {k : LL → List AV → St → Prop} (hN : ∀ L st S, k L st S → Nx w h p l e s m args below meth c Q (pc + 1) L st S) (hs : astZ st S (fun r S => k L r S)) : Nx w h p l e s m args below meth c Q pc L st S := by
  unfold astZ at hs
  split at hs
  · rename_i v i c0 r
    split at hs
    · rename_i n k hsh
      obtain ⟨hlt, hk, hn⟩ := sh_arr hsh (Or.inr (Or.inr rfl))
      subst hk
      intro H locs ls K
      have hi : i32 i = i := cnS_h (cnS_t (cfN K))
      have hcell := wl_get w S hlt
      rw [cell_Z hsh] at hcell
      refine va_zast (D := w.1) C.1 C.2.1 C.2.2.2.2.2.2.2.1.1 K.1 (wl_D w S C.2.2.2.2.2.2.2.2) (cfA K) c0 2 hcell rfl (vpin hi hs.1) hd (fun H1 locs1 hP1 hD1 hS1 => ?_)
      rw [nar01 hs.2.1, upd_eq hi hs.1.1] at hP1
      have hWo : Wo w (up S c0 i v) H1 := by
        unfold Wo
        rw [← wl_set w (S := S) (S' := up S c0 i v) hlt (fun c' hc' => up_o S _ _ hc'), cell_Z hsh, up_c]
        exact hP1
      exact hN _ _ _ hs.2.2 H1 locs1 ls (cfH K hWo (Can_up K.2.1 (by unfold cnC; rw [hsh]; exact hs.2.1)) (cnS_t (cnS_t (cnS_t (cfN K)))) hS1)
    · exact hs.elim
  · exact hs.elim
theorem s_arraylength (C : Ctx w h p s m args meth c) (hd : decode h.2.2.1 pc = .ok (.arraylength, 1)) {k : LL → List AV → St → Prop} (hN : ∀ L st S, k L st S → Nx w h p l e s m args below meth c Q (pc + 1) L st S) (hs : pR st (fun c r => alnK c (fun n => k L (.inl n :: r) S))) : Nx w h p l e s m args below meth c Q pc L st S := by
  obtain ⟨c0, r, rfl, h1⟩ := pR_spec hs
  unfold alnK at h1
  have go : ∀ (n : Nat), n < 100000 → ∀ (x : vp_A) (cA : ClassId) (t0 : Nat) (ty : FieldType), x.1 = n → (tyK w)[t0]? = some (cA, ty) → c0 < nC → cellE w c0 S = .inl (cA, x) → k L (.inl (n : Int) :: r) S → Nx w h p l e s m args below meth c Q pc L (.inr (.inr c0) :: r) S := by
    intro n hn x cA t0 ty hx ht hlt hc h2 H locs ls K
    have hcell := wl_get w S hlt
    rw [hc] at hcell
    refine va_alen (D := w.1) C.1 C.2.1 C.2.2.2.2.2.2.2.1.1 K.1 c0 t0 hcell ht (v := Int32.ofInt (n : Int)) (by rw [hx]; rfl) hd ?_
    exact hN _ _ _ h2 H locs ls (cfS K (cnS_c (v := .inl (n : Int)) (can32.mpr (by omega)) (cnS_t (cfN K))))
  split at h1
  · rename_i n k hsh
    obtain ⟨hlt, hk, hn⟩ := sh_arr hsh (Or.inl rfl)
    subst hk
    exact go n hn _ _ 0 .int rfl rfl hlt (cell_I hsh) h1
  · rename_i n k hsh
    obtain ⟨hlt, hk, hn⟩ := sh_arr hsh (Or.inr (Or.inl rfl))
    subst hk
    exact go n hn _ _ 1 .long rfl rfl hlt (cell_J hsh) h1
  · rename_i n k hsh
    obtain ⟨hlt, hk, hn⟩ := sh_arr hsh (Or.inr (Or.inr rfl))
    subst hk
    exact go n hn _ _ 2 .boolean rfl rfl hlt (cell_Z hsh) h1
  · exact h1.elim
theorem s_getstatic (C : Ctx w h p s m args meth c) {x n : Nat} (hd : decode h.2.2.1 pc = .ok (.getstatic x, 3)) (hf : slC h.1 x n = true) {k : LL → List AV → St → Prop} (hN : ∀ L st S, k L st S → Nx w h p l e s m args below meth c Q (pc + 3) L st S) (hs : k L (.inr (.inr (sA n)) :: st) S) : Nx w h p l e s m args below meth c Q pc L st S := by
  obtain ⟨q, hq, e1, e2, e3⟩ := slE hf
  have hn : n < 4 := by rw [← e3]; exact slE4 _ hq
  have hlk := C.2.2.2.2.2.2.2.1.2.2 _ hq
  rw [e1, e2, e3] at hlk
  intro H locs ls K
  have hZ : va_Z "FarKeys" (stN n).1 (stN n).2 (.ref (w.2.1 (sA n))) (inA w) s s.heap := by
    have h2 := C.2.2.2.2.2.2.2.1.2.1
    rw [C.2.2.2.2.2.2.2.2.2 n hn]
    match n, hn with
    | 0, _ => exact h2.1.1
    | 1, _ => exact h2.2.1.1
    | 2, _ => exact h2.2.2.1.1
    | 3, _ => exact h2.2.2.2.1
  refine va_getsN C.1 C.2.1 hZ (cfA K) C.2.2.2.2.1 (va_Nw.use rfl hlk) (fun _ h9 => h9) hd ?_
  exact hN _ _ _ hs H locs ls (cfS K (cnS_c trivial (cfN K)))
end SNM
end
section
/-! calls, ends; the whole of a stretch of code -/
section SNC
variable {w : Wd} {h : Hd} {p : Program} {l : Launch} {e : Env} {s : State} {m : MethodId} {args : Array Value} {below : List Frame} {meth : Method} {c : Code} {Q : Option AV → St → Prop}
variable {H : Heap} {locs : List Loc} {ls : Array Slot} {L : LL} {st : List AV} {S : St} {pc : Nat}
theorem padL_al (ad : Nat → Nat) : ∀ (n i : Nat), al ad i (padL n) = []
  | 0, _ => rfl
  | n + 1, i => padL_al ad n (i + 1)
theorem padL_n : ∀ (n : Nat) (v : AV), some v ∉ padL n
  | 0, v => by simp [padL]
  | n + 1, v => by simp [padL, padL_n n v]
theorem sl_cons (v : Value) (vs : List Value) : (lg_sl (v :: vs)).length = v.category + (lg_sl vs).length := by
  unfold lg_sl
  rw [List.flatMap_cons, List.length_append]
  rcases lv_cat v with q | q <;> simp [q]
theorem enL_spec (ad : Nat → Nat) : ∀ (as : List AV) (n i : Nat) (f : LL → Prop), enL as n f → ∃ L, f L ∧ (lg_sl (as.map (cv ad))).length ≤ n ∧ (∀ q ∈ al ad i L, q ∈ lv_args i (as.map (cv ad))) ∧ (cnS as → cnL L)
  | [], n, i, f, h => ⟨padL n, h, by simp [lg_sl], fun q hq => by rw [padL_al] at hq; exact absurd hq List.not_mem_nil, fun _ v hv => absurd hv (padL_n n v)⟩
  | .inr (.inl a) :: r, n + 2, i, f, h => by
    obtain ⟨L, h1, h2, h3, h4⟩ := enL_spec ad r n (i + 2) _ h
    refine ⟨_, h1, ?_, fun q hq => ?_, fun z v hv => ?_⟩
    · rw [List.map_cons, sl_cons]
      show 2 + _ ≤ _
      omega
    · rw [al, al] at hq
      rcases List.mem_cons.mp hq with z | z
      · rw [z]; exact List.mem_cons_self
      · exact List.mem_cons_of_mem _ (h3 q z)
    · rcases List.mem_cons.mp hv with q | q
      · cases q; exact cnS_h z
      · rcases List.mem_cons.mp q with q | q
        · cases q
        · exact h4 (cnS_t z) v q
  | .inl a :: r, n + 1, i, f, h => by
    obtain ⟨L, h1, h2, h3, h4⟩ := enL_spec ad r n (i + 1) _ h
    refine ⟨_, h1, ?_, fun q hq => ?_, fun z v hv => ?_⟩
    · rw [List.map_cons, sl_cons]
      show 1 + _ ≤ _
      omega
    · rw [al] at hq
      rcases List.mem_cons.mp hq with z | z
      · rw [z]; exact List.mem_cons_self
      · exact List.mem_cons_of_mem _ (h3 q z)
    · rcases List.mem_cons.mp hv with q | q
      · cases q; exact cnS_h z
      · exact h4 (cnS_t z) v q
  | .inr (.inr a) :: r, n + 1, i, f, h => by
    obtain ⟨L, h1, h2, h3, h4⟩ := enL_spec ad r n (i + 1) _ h
    refine ⟨_, h1, ?_, fun q hq => ?_, fun z v hv => ?_⟩
    · rw [List.map_cons, sl_cons]
      show 1 + _ ≤ _
      omega
    · rw [al] at hq
      rcases List.mem_cons.mp hq with z | z
      · rw [z]; exact List.mem_cons_self
      · exact List.mem_cons_of_mem _ (h3 q z)
    · rcases List.mem_cons.mp hv with q | q
      · cases q; exact cnS_h z
      · exact h4 (cnS_t z) v q
  | .inr (.inl a) :: r, 1, i, f, h => False.elim h
  | .inr (.inl a) :: r, 0, i, f, h => False.elim h
  | .inl a :: r, 0, i, f, h => False.elim h
  | .inr (.inr a) :: r, 0, i, f, h => False.elim h
/-- what a callee starts from -/
def PcO (w : Wd) (S : St) (as : List AV) : Array Value → State → Prop := va_Pc (as.map (cv w.2.1)) (fun U => Kx w U ∧ Wo w S U.heap)
theorem Kx_same {U V : State} (hvm : U.vm = V.vm) (hh : U.heap = V.heap) (k : Kx w U) : Kx w V := by
  have ha : U.vm.Alike V.vm := by rw [hvm]; exact Vm.Alike.refl V.vm
  refine ⟨va_K.moved ha k.1, ?_, fun q hq => va_Nw.same rfl hvm (k.2.2 q hq)⟩
  rw [← hh]
  exact ⟨⟨va_Z.moved ha k.2.1.1.1, va_T.moved ha k.2.1.1.2⟩, ⟨va_Z.moved ha k.2.1.2.1.1, va_T.moved ha k.2.1.2.1.2⟩, ⟨va_Z.moved ha k.2.1.2.2.1.1, va_T.moved ha k.2.1.2.2.1.2⟩, ⟨va_Z.moved ha k.2.1.2.2.2.1, va_T.moved ha k.2.1.2.2.2.2⟩⟩
theorem Kx_warm {U : State} (hW : s.WarmedH U.vm) (hS : va_S (inA w) s.heap U.heap locs) (k : Kx w s) : Kx w U := by
  have ha := hW.alike
  have hq : ∀ a : Nat, a < s.heap.size → ¬ inA w a → U.heap[a]? = s.heap[a]? := hS.2.1
  refine ⟨va_K.moved ha k.1, ?_, fun q hq => va_Nw.warmF hW (k.2.2 q hq)⟩
  exact ⟨⟨(va_Z.moved ha k.2.1.1.1).kept hq, (va_T.moved ha k.2.1.1.2).kept hq⟩, ⟨(va_Z.moved ha k.2.1.2.1.1).kept hq, (va_T.moved ha k.2.1.2.1.2).kept hq⟩, ⟨(va_Z.moved ha k.2.1.2.2.1.1).kept hq, (va_T.moved ha k.2.1.2.2.1.2).kept hq⟩, ⟨(va_Z.moved ha k.2.1.2.2.2.1).kept hq, (va_T.moved ha k.2.1.2.2.2.2).kept hq⟩⟩
theorem PcO_blind (as : List AV) : FrameBlind (PcO w S as) := fun a U g mk q => ⟨q.1, Kx_same rfl rfl q.2.1, q.2.2⟩
abbrev wsO (g : Hd) : List Cond := Cond.code g.2.1 g.2.2.1 g.2.2.2.1 g.2.2.2.2.1 :: G
theorem met_of {g : Hd} (hg : hdOk g) {Q' : Option AV → St → Prop} {as : List AV} (ha : adOk w) (hC : Can S) (has : cnS as) (hs : enL as g.2.2.2.1 (fun L => Smm g 0 L [] S Q')) (l : Launch) : Met l g.2.1 (wsO g) (rmO g) (PcO w S as) (Qcf w Q') 0 0 (inA w) := by
  obtain ⟨L, h1, h2, h3, h4⟩ := enL_spec w.2.1 as g.2.2.2.1 0 _ hs
  refine Met.ofW (cc := g.2.2.1) (maxL := g.2.2.2.1) (ret := g.2.2.2.2.1) hg.2.2.2.1 rfl ?_
  intro p e s m args below meth c s₁ B hml hv
  obtain ⟨rfl, hK, hWo⟩ := hv
  have hts := atoms_spec (ws := wsO g) B.pre
  have hown : s.vm.findClass g.2.1.cls = some m.cls := findClass_of_methodNamed B.named
  have Cx : Ctx w g p s m (as.map (cv w.2.1)).toArray meth c := ⟨B.exec, B.bytes, B.returns, hml, by rw [← hg.2.2.1]; exact hown, fun w hw => hts w (List.mem_cons_of_mem _ hw), B.notSynchronized, hK, ha⟩
  have hl := lv_entry (as.map (cv w.2.1)) (n := g.2.2.2.1) h2
  rw [lg_entry_eq]
  generalize (lg_sl (as.map (cv w.2.1)) ++ List.replicate (g.2.2.2.1 - (lg_sl (as.map (cv w.2.1))).length) Slot.unset).toArray = ls at hl ⊢
  exact h1 w p l e s m _ below meth c Cx s.heap [] ls ⟨hWo, hC, h4 has, fun _ z => absurd z List.not_mem_nil, va_S.rf, ⟨hl.1, hl.2.1, fun q hq => hl.2.2 q (h3 q hq)⟩⟩
theorem call_go {Q' : Option AV → St → Prop} {R : Room} {Qz : State → Prop} {st0 rest : List Value} {a : Array Value} (hr : va_Run p l e R s m args below meth c H locs 0 0 0 0 (F0 m pc ls st0) rest (Qcf w Q' a) (inA w)) (hS : va_S (inA w) s.heap H locs)
    (kk : ∀ (r : Option AV) (S' : St) (H1 : Heap) (locs1 : List Loc), Q' r S' → Can S' → cnO r → Wo w S' H1 → va_S (inA w) s.heap H1 locs1 → W p l e R s m args below meth c H1 locs1 0 0 Qz (F0 m (pc + 3) ls ((r.map (cv w.2.1)).toList ++ rest))) : W p l e R s m args below meth c H locs 0 0 Qz (F0 m pc ls st0) := by
  intro T hT X
  obtain ⟨v, st₀, t, T', L, h0, X', hL, e1, e2, ⟨⟨r, S', hq, ho, hC, hcn, hW, hal⟩, hz, hk⟩, st⟩ := hr T hT X
  cases ho
  rw [h0] at hz hk
  rw [← e1] at hW
  obtain ⟨t2, a1, b1⟩ := kk r S' T'.heap (locs ++ L) hq hC hcn hW
    ⟨Nat.le_trans hS.1 (by rw [e1]; exact hz), fun q h1 h2 => by rw [e1, hk q (Nat.lt_of_lt_of_le h1 hS.1) h2]; exact hS.2.1 q h1 h2, fun q hq => by
      rcases List.mem_append.mp hq with h | h
      · exact hS.2.2 q h
      · exact hL q h⟩ T' rfl X'
  exact ⟨t2, st t2 a1, b1⟩
theorem goodG (g : Hd) (hg : hdOk g) : GoodIn G (wsO g) := fun w hw => by
  rcases List.mem_cons.mp hw with q | q
  · rw [q]; exact ⟨hg.1, good_of_word (G_good _ hg.1)⟩
  · exact ⟨q, good_of_word (G_good _ q)⟩
theorem cats_eq (ad : Nat → Nat) : ∀ (r : List AV), ((r.map (cv ad)).map fun v => v.category).sum = cats r
  | [] => rfl
  | v :: r => by rw [List.map_cons, List.map_cons, List.sum_cons, cats_eq ad r, cat_cv]; rfl
theorem toL (ad : Nat → Nat) (r : Option AV) (rest : List AV) : (r.toList ++ rest).map (cv ad) = (r.map (cv ad)).toList ++ rest.map (cv ad) := by
  cases r <;> rfl
theorem cnO_l {r : Option AV} (h : cnO r) : cnS r.toList := by
  cases r with
  | none => exact fun _ z => absurd z List.not_mem_nil
  | some v => intro u hu; rw [List.mem_singleton.mp hu]; exact h v rfl
theorem cnS_rev {as r : List AV} (h : cnS (as.reverse ++ r)) : cnS as := fun u hu => h u (List.mem_append_left _ (List.mem_reverse.mpr hu))
theorem cnS_r {a r : List AV} (h : cnS (a ++ r)) : cnS r := fun u hu => h u (List.mem_append_right _ hu)
theorem s_invokestatic (C : Ctx w h p s m args meth c) {x n : Nat} (hd : decode h.2.2.1 pc = .ok (.invokestatic x, 3)) (hf : mlC h.1 x n = true) (hrc : (hdTab n).2.2.2.2.2.2.2.1 = 0) {k : LL → List AV → St → Prop} (hN : ∀ L st S, k L st S → Nx w h p l e s m args below meth c Q (pc + 3) L st S) (hs : calK h n st S (fun r S => k L r S)) : Nx w h p l e s m args below meth c Q pc L st S := by
  have hg := hdTab_ok n
  have hlk := mlE hf
  unfold calK at hs
  generalize hdTab n = g at hs hg hlk hrc
  obtain ⟨oc, nm, by_, ml, rt, fr, lo, rc, np⟩ := g
  dsimp only at hs hrc
  subst hrc
  split at hs
  · rename_i b1 b2
    obtain ⟨as, r, ha1, rfl, h2⟩ := pN_spec _ _ _ hs
    rw [List.append_nil] at h2
    split at h2
    · rename_i b3
      intro H locs ls K
      have hst := (hg.2.2.2.2.2.resolve_right (fun z => z.1 rfl)).2
      have hM := met_of (g := (oc, nm, by_, ml, rt, fr, lo, 0, np)) hg C.2.2.2.2.2.2.2.2 K.2.1 (cnS_rev (cfN K)) h2 l
      have hcb := callB_of (R := rmO h) (rm := rmO (oc, nm, by_, ml, rt, fr, lo, 0, np)) (mc := 0) (ms := 0) (s := s) (args := args) (own := clN h.1) (index := x) np C.2.2.2.2.2.1 (goodG _ hg) rfl rfl rfl (C.2.2.2.2.2.1 _ hg.2.1) (C.2.2.2.2.2.1 _ hlk) hg.2.2.2.2.1 ⟨Nat.ble_eq.mp b1, by have := Nat.ble_eq.mp b2; show 8 + (ml + 11) + lo ≤ h.2.2.2.2.2.2.1; omega⟩
      have hr := va_runS (As := as.map (cv w.2.1)) (rest := r.map (cv w.2.1)) (g := F0 m pc ls ((as.reverse ++ r).map (cv w.2.1))) (p := p) (e := e) (below := below) (meth := meth) (locs := locs) (cells := 0) (slots := 0) (nL := h.2.2.2.1) (H := H) ⟨C.1, C.2.1, C.2.2.2.1, C.2.2.2.2.1, C.2.2.2.2.2.1⟩ hM ⟨hcb, C.2.2.2.2.2.1 _ hst⟩ ⟨PcO_blind as, fun U hU hW => ⟨rfl, Kx_warm hW (by rw [hU]; exact cfA K) C.2.2.2.2.2.2.2.1, by rw [hU]; exact K.1⟩⟩ rfl (by rw [List.length_map]; exact ha1) (cfV K).1 (by show List.map _ _ = _; rw [List.map_append, List.map_reverse]) (by show 2 * 0 + _ ≤ 8; rw [cats_eq]; have := Nat.ble_eq.mp b3; omega) hd ⟨Nat.le_refl _, Nat.le_refl _⟩
      refine call_go hr (cfA K) (fun r' S' H1 locs1 hq hC' hcn hW1 hS1 => ?_)
      rw [← toL]
      exact hN _ _ _ hq H1 locs1 ls (cfH K hW1 hC' (cnS_a (cnO_l hcn) (cnS_r (cfN K))) hS1)
    · exact h2.elim
  · exact hs.elim
theorem s_invokevirtual (C : Ctx w h p s m args meth c) {x n : Nat} (hd : decode h.2.2.1 pc = .ok (.invokevirtual x, 3)) (hf : mlC h.1 x n = true) (hrc : ¬ (hdTab n).2.2.2.2.2.2.2.1 = 0) {k : LL → List AV → St → Prop} (hN : ∀ L st S, k L st S → Nx w h p l e s m args below meth c Q (pc + 3) L st S) (hs : calK h n st S (fun r S => k L r S)) : Nx w h p l e s m args below meth c Q pc L st S := by
  have hg := hdTab_ok n
  have hlk := mlE hf
  unfold calK at hs
  generalize hdTab n = g at hs hg hlk hrc
  obtain ⟨oc, nm, by_, ml, rt, fr, lo, rc, np⟩ := g
  dsimp only at hs hrc
  split at hs
  · rename_i b1 b2
    split at hs
    · exact absurd rfl hrc
    · obtain ⟨as, r0, ha1, rfl, h2⟩ := pN_spec _ _ _ hs
      rw [List.append_nil] at h2
      obtain ⟨c0, r, rfl, h3⟩ := pR_spec h2
      split at h3
      · rename_i ci ks hsh
        split at h3
        · rename_i b3 b4
          have eoc := Nat.beq_eq.mp b3
          subst eoc
          intro H locs ls K
          obtain ⟨hin, hse⟩ := (hg.2.2.2.2.2.resolve_left (fun z => hrc z.1)).2
          have hK' := cfN K
          have hcas : cnS (.inr (.inr c0) :: as) := cnS_c trivial (cnS_rev hK')
          have hM := met_of (g := (ci, nm, by_, ml, rt, fr, lo, rc, np)) hg C.2.2.2.2.2.2.2.2 K.2.1 hcas h3 l
          have hcb := callB_of (R := rmO h) (rm := rmO (ci, nm, by_, ml, rt, fr, lo, rc, np)) (mc := 0) (ms := 0) (s := s) (args := args) (own := clN h.1) (index := x) np C.2.2.2.2.2.1 (goodG _ hg) rfl rfl rfl (C.2.2.2.2.2.1 _ hg.2.1) (C.2.2.2.2.2.1 _ hlk) hg.2.2.2.2.1 ⟨Nat.ble_eq.mp b1, by have := Nat.ble_eq.mp b2; show 8 + (ml + 11) + lo ≤ h.2.2.2.2.2.2.1; omega⟩
          have hcell := wl_get w S (sh_obj hsh).1
          rw [cell_obj hsh] at hcell
          have hrecv := va_recv C.2.2.2.2.2.2.2.1.1 K.1 (clE_get ci (sh_obj hsh).2.1) hcell
          have hcl : (clE ci).1 = nm.cls := by
            have e1 : nm.cls = clN ci := hg.2.2.1
            rw [e1]
            have : ∀ k, k < 13 → (clE k).1 = clN k := by decide +kernel
            exact this ci (sh_obj hsh).2.1
          rw [hcl] at hrecv
          have hr := va_runV (As := as.map (cv w.2.1)) (rest := r.map (cv w.2.1)) (b := w.2.1 c0) (g := F0 m pc ls ((as.reverse ++ .inr (.inr c0) :: r).map (cv w.2.1))) (p := p) (e := e) (below := below) (meth := meth) (locs := locs) (cells := 0) (slots := 0) (nL := h.2.2.2.1) (H := H) ⟨C.1, C.2.1, C.2.2.2.1, C.2.2.2.2.1, C.2.2.2.2.2.1⟩ hM ⟨hcb, C.2.2.2.2.2.1 _ hin, C.2.2.2.2.2.1 _ hse⟩ ⟨PcO_blind _, hrecv, fun U hU hW => ⟨rfl, Kx_warm hW (by rw [hU]; exact cfA K) C.2.2.2.2.2.2.2.1, by rw [hU]; exact K.1⟩⟩ rfl (by rw [List.length_map]; exact ha1) (cfV K).1 (by show List.map _ _ = _; rw [List.map_append, List.map_reverse]; rfl) (by show 2 * 0 + _ ≤ 8; rw [cats_eq]; have := Nat.ble_eq.mp b4; omega) hd ⟨Nat.le_refl _, Nat.le_refl _⟩
          refine call_go hr (cfA K) (fun r' S' H1 locs1 hq hC' hcn hW1 hS1 => ?_)
          rw [← toL]
          exact hN _ _ _ hq H1 locs1 ls (cfH K hW1 hC' (cnS_a (cnO_l hcn) (cnS_t (cnS_r hK'))) hS1)
        · exact h3.elim
      · exact h3.elim
  · exact hs.elim
end SNC
end
section
/-! Math.max and min, arraycopy, switches, ends; then: what the abstract machine says holds of the machine -/
theorem mmS0 : Cond.static Lib.Math.max.name ∈ G := mG 829 (by decide +kernel) rfl
theorem mmS1 : Cond.static Lib.Math.min.name ∈ G := mG 832 (by decide +kernel) rfl
theorem mmI : Cond.initialized "java/lang/Math" ∈ G := mG 98 (by decide +kernel) rfl
theorem mmK0 : Cond.code Lib.Math.max.name Lib.Math.max.code 2 (some .int) ∈ G := mG 830 (by decide +kernel) rfl
theorem mmK1 : Cond.code Lib.Math.min.name Lib.Math.min.code 2 (some .int) ∈ G := mG 833 (by decide +kernel) rfl
theorem acN : Cond.native arraycopyName ∈ G := mG 724 (by decide +kernel) rfl
theorem acS : Cond.static arraycopyName ∈ G := mG 723 (by decide +kernel) rfl
theorem acI : Cond.initialized "java/lang/System" ∈ G := mG 93 (by decide +kernel) rfl
theorem of_min {a b : Int} (ha : i32 a = a) (hb : i32 b = b) : (if Int32.ofInt b < Int32.ofInt a then Int32.ofInt b else Int32.ofInt a) = Int32.ofInt (min a b) := by
  by_cases h : b < a
  · rw [if_pos ((lt32 hb ha).mpr h), Int.min_eq_right (by omega)]
  · rw [if_neg (fun q => h ((lt32 hb ha).mp q)), Int.min_eq_left (by omega)]
section SNE
variable {w : Wd} {h : Hd} {p : Program} {l : Launch} {e : Env} {s : State} {m : MethodId} {args : Array Value} {below : List Frame} {meth : Method} {c : Code} {Q : Option AV → St → Prop}
variable {H : Heap} {locs : List Loc} {ls : Array Slot} {L : LL} {st : List AV} {S : St} {pc : Nat}
theorem can_max {a b : Int} (ha : i32 a = a) (hb : i32 b = b) : i32 (max a b) = max a b := by rcases Int.le_total a b with q | q; { rw [Int.max_eq_right q]; exact hb }; { rw [Int.max_eq_left q]; exact ha }
theorem can_min {a b : Int} (ha : i32 a = a) (hb : i32 b = b) : i32 (min a b) = min a b := by rcases Int.le_total a b with q | q; { rw [Int.min_eq_left q]; exact ha }; { rw [Int.min_eq_right q]; exact hb }
theorem s_max (C : Ctx w h p s m args meth c) {x : Nat} (hd : decode h.2.2.1 pc = .ok (.invokestatic x, 3)) (hf : mmC h.1 x 0 = true) (hfr : 1 ≤ h.2.2.2.2.2.1) {k : LL → List AV → St → Prop} (hN : ∀ L st S, k L st S → Nx w h p l e s m args below meth c Q (pc + 3) L st S) (hs : pII st (fun a b r => match Nat.ble (cats r + 13) h.2.2.2.2.2.2.1 with | true => k L (.inl (max a b) :: r) S | false => False)) : Nx w h p l e s m args below meth c Q pc L st S := by
  obtain ⟨a, b, r, rfl, h2⟩ := pII_spec hs
  split at h2
  · rename_i b1
    intro H locs ls K
    have ha : i32 a = a := cnS_h (cnS_t (cfN K))
    have hb : i32 b = b := cnS_h (cfN K)
    refine va_mmax C.1 C.2.1 (C.2.2.2.1.trans (cfV K).1.symm) C.2.2.2.2.1 (C.2.2.2.2.2.1 _ (mmE hf)) (C.2.2.2.2.2.1 _ mmS0) (C.2.2.2.2.2.1 _ mmI) (C.2.2.2.2.2.1 _ mmK0) hfr (by rw [cats_eq]; exact Nat.ble_eq.mp b1) (Nat.zero_le _) (Nat.zero_le _) hd ?_
    rw [of_max ha hb]
    exact hN _ _ _ h2 H locs ls (cfS K (cnS_c (v := .inl (max a b)) (can_max ha hb) (cnS_t (cnS_t (cfN K)))))
  · exact h2.elim
theorem s_min (C : Ctx w h p s m args meth c) {x : Nat} (hd : decode h.2.2.1 pc = .ok (.invokestatic x, 3)) (hf : mmC h.1 x 1 = true) (hfr : 1 ≤ h.2.2.2.2.2.1) {k : LL → List AV → St → Prop} (hN : ∀ L st S, k L st S → Nx w h p l e s m args below meth c Q (pc + 3) L st S) (hs : pII st (fun a b r => match Nat.ble (cats r + 13) h.2.2.2.2.2.2.1 with | true => k L (.inl (min a b) :: r) S | false => False)) : Nx w h p l e s m args below meth c Q pc L st S := by
  obtain ⟨a, b, r, rfl, h2⟩ := pII_spec hs
  split at h2
  · rename_i b1
    intro H locs ls K
    have ha : i32 a = a := cnS_h (cnS_t (cfN K))
    have hb : i32 b = b := cnS_h (cfN K)
    refine va_mmin C.1 C.2.1 (C.2.2.2.1.trans (cfV K).1.symm) C.2.2.2.2.1 (C.2.2.2.2.2.1 _ (mmE hf)) (C.2.2.2.2.2.1 _ mmS1) (C.2.2.2.2.2.1 _ mmI) (C.2.2.2.2.2.1 _ mmK1) hfr (by rw [cats_eq]; exact Nat.ble_eq.mp b1) (Nat.zero_le _) (Nat.zero_le _) hd ?_
    rw [of_min ha hb]
    exact hN _ _ _ h2 H locs ls (cfS K (cnS_c (v := .inl (min a b)) (can_min ha hb) (cnS_t (cnS_t (cfN K)))))
  · exact h2.elim
theorem cpy_I {f g : Int → Int} {sp dp n : Int} (h1 : i32 sp = sp) (h2 : i32 dp = dp) (h3 : i32 n = n) (z1 : 0 ≤ sp) (z2 : 0 ≤ dp) (z3 : 0 ≤ n) : va_cpy (fun (j : Nat) => Int32.ofInt (f (j : Int))) (fun (j : Nat) => Int32.ofInt (g (j : Int))) (Int32.ofInt sp).toNatClampNeg (Int32.ofInt dp).toNatClampNeg (Int32.ofInt n).toNatClampNeg = fun (j : Nat) => Int32.ofInt (if dp ≤ (j : Int) ∧ (j : Int) < dp + n then f (sp + ((j : Int) - dp)) else g (j : Int)) := by
  funext j
  unfold va_cpy
  rw [clamp32 h1 z1, clamp32 h2 z2, clamp32 h3 z3]
  by_cases hj : dp.toNat ≤ j ∧ j < dp.toNat + n.toNat
  · rw [if_pos hj, if_pos (by omega)]
    have e0 : ((sp.toNat + (j - dp.toNat) : Nat) : Int) = sp + ((j : Int) - dp) := by omega
    show Int32.ofInt (f ((sp.toNat + (j - dp.toNat) : Nat) : Int)) = _
    rw [e0]
  · rw [if_neg hj, if_neg (by omega)]
theorem cpy_J {f g : Int → Int} {sp dp n : Int} (h1 : i32 sp = sp) (h2 : i32 dp = dp) (h3 : i32 n = n) (z1 : 0 ≤ sp) (z2 : 0 ≤ dp) (z3 : 0 ≤ n) : va_cpy (fun (j : Nat) => Int64.ofInt (f (j : Int))) (fun (j : Nat) => Int64.ofInt (g (j : Int))) (Int32.ofInt sp).toNatClampNeg (Int32.ofInt dp).toNatClampNeg (Int32.ofInt n).toNatClampNeg = fun (j : Nat) => Int64.ofInt (if dp ≤ (j : Int) ∧ (j : Int) < dp + n then f (sp + ((j : Int) - dp)) else g (j : Int)) := by
  funext j
  unfold va_cpy
  rw [clamp32 h1 z1, clamp32 h2 z2, clamp32 h3 z3]
  by_cases hj : dp.toNat ≤ j ∧ j < dp.toNat + n.toNat
  · rw [if_pos hj, if_pos (by omega)]
    have e0 : ((sp.toNat + (j - dp.toNat) : Nat) : Int) = sp + ((j : Int) - dp) := by omega
    show Int64.ofInt (f ((sp.toNat + (j - dp.toNat) : Nat) : Int)) = _
    rw [e0]
  · rw [if_neg hj, if_neg (by omega)]
theorem Can_cp {S : St} {a b : Nat} {sp dp n : Int} (hC : Can S) (hab : ∀ j j', cnC b j (S a j')) : Can (cpS S a sp b dp n) := by
  intro c' j'
  by_cases hc : c' = b
  · subst hc
    rw [cpS_c]
    by_cases hj : dp ≤ j' ∧ j' < dp + n
    · simp only [if_pos hj]
      exact hab _ _
    · simp only [if_neg hj]
      exact hC c' j'
  · rw [cpS_o S a sp dp n hc]
    exact hC c' j'
theorem neg32 {i : Int} (hi : i32 i = i) (h0 : 0 ≤ i) : ¬ Int32.ofInt i < 0 := fun z => absurd ((lt32 hi c0).mp z) (by omega)
theorem s_copy (C : Ctx w h p s m args meth c) {x : Nat} (hd : decode h.2.2.1 pc = .ok (.invokestatic x, 3)) (hf : alC h.1 x = true) (hfr : 1 ≤ h.2.2.2.2.2.1) {k : LL → List AV → St → Prop} (hN : ∀ L st S, k L st S → Nx w h p l e s m args below meth c Q (pc + 3) L st S) (hs : cpyK h.2.2.2.2.2.2.1 st S (fun r S => k L r S)) : Nx w h p l e s m args below meth c Q pc L st S := by
  unfold cpyK at hs
  split at hs
  · rename_i n dp b0 sp a0 r
    split at hs
    · rename_i la0 la lb0 lb hsa hsb b1
      obtain ⟨⟨z1, z2, z3, z4, z5⟩, h2⟩ := hs
      obtain ⟨hla, ea, -⟩ := sh_arr hsa (Or.inl rfl)
      obtain ⟨hlb, eb, -⟩ := sh_arr hsb (Or.inl rfl)
      subst ea eb
      intro H locs ls K
      have hn : i32 n = n := cnS_h (cfN K)
      have hdp : i32 dp = dp := cnS_h (cnS_t (cfN K))
      have hsp : i32 sp = sp := cnS_h (cnS_t (cnS_t (cnS_t (cfN K))))
      have hca := wl_get w S hla
      have hcb := wl_get w S hlb
      rw [cell_I hsa] at hca
      rw [cell_I hsb] at hcb
      refine va_copyi (D := w.1) C.1 C.2.1 (C.2.2.2.1.trans (cfV K).1.symm) C.2.2.2.2.1 (C.2.2.2.2.2.1 _ (alE hf)) (C.2.2.2.2.2.1 _ acN) (C.2.2.2.2.2.1 _ acS) (C.2.2.2.2.2.1 _ acI) C.2.2.2.2.2.2.2.1.1 K.1 (wl_D w S C.2.2.2.2.2.2.2.2) (cfA K) a0 b0 0 0 (ty := .int) hca hcb rfl rfl rfl (neg32 hsp z1) (neg32 hdp z2) (neg32 hn z3) (by rw [clamp32 hsp z1, clamp32 hn z3]; omega) (by rw [clamp32 hdp z2, clamp32 hn z3]; omega) (fun _ _ => rfl) hfr (by rw [cats_eq]; exact Nat.ble_eq.mp b1) hd (fun H1 locs1 hP1 hD1 hS1 => ?_)
      rw [cpy_I hsp hdp hn z1 z2 z3] at hP1
      have hWo : Wo w (cpS S a0 sp b0 dp n) H1 := by
        unfold Wo
        rw [← wl_set w (S := S) (S' := cpS S a0 sp b0 dp n) hlb (fun c' hc' => cpS_o S _ _ _ _ hc'), cell_I hsb, cpS_c]
        exact hP1
      exact hN _ _ _ h2 H1 locs1 ls (cfH K hWo (Can_cp K.2.1 (fun j j' => by unfold cnC; rw [hsb]; exact Can_I K.2.1 hsa j')) (cnS_t (cnS_t (cnS_t (cnS_t (cnS_t (cfN K)))))) hS1)
    · rename_i la0 la lb0 lb hsa hsb b1
      obtain ⟨⟨z1, z2, z3, z4, z5⟩, h2⟩ := hs
      obtain ⟨hla, ea, -⟩ := sh_arr hsa (Or.inr (Or.inl rfl))
      obtain ⟨hlb, eb, -⟩ := sh_arr hsb (Or.inr (Or.inl rfl))
      subst ea eb
      intro H locs ls K
      have hn : i32 n = n := cnS_h (cfN K)
      have hdp : i32 dp = dp := cnS_h (cnS_t (cfN K))
      have hsp : i32 sp = sp := cnS_h (cnS_t (cnS_t (cnS_t (cfN K))))
      have hca := wl_get w S hla
      have hcb := wl_get w S hlb
      rw [cell_J hsa] at hca
      rw [cell_J hsb] at hcb
      refine va_copyl (D := w.1) C.1 C.2.1 (C.2.2.2.1.trans (cfV K).1.symm) C.2.2.2.2.1 (C.2.2.2.2.2.1 _ (alE hf)) (C.2.2.2.2.2.1 _ acN) (C.2.2.2.2.2.1 _ acS) (C.2.2.2.2.2.1 _ acI) C.2.2.2.2.2.2.2.1.1 K.1 (wl_D w S C.2.2.2.2.2.2.2.2) (cfA K) a0 b0 1 1 (ty := .long) hca hcb rfl rfl rfl (neg32 hsp z1) (neg32 hdp z2) (neg32 hn z3) (by rw [clamp32 hsp z1, clamp32 hn z3]; omega) (by rw [clamp32 hdp z2, clamp32 hn z3]; omega) (fun _ _ => rfl) hfr (by rw [cats_eq]; exact Nat.ble_eq.mp b1) hd (fun H1 locs1 hP1 hD1 hS1 => ?_)
      rw [cpy_J hsp hdp hn z1 z2 z3] at hP1
      have hWo : Wo w (cpS S a0 sp b0 dp n) H1 := by
        unfold Wo
        rw [← wl_set w (S := S) (S' := cpS S a0 sp b0 dp n) hlb (fun c' hc' => cpS_o S _ _ _ _ hc'), cell_J hsb, cpS_c]
        exact hP1
      exact hN _ _ _ h2 H1 locs1 ls (cfH K hWo (Can_cp K.2.1 (fun j j' => by unfold cnC; rw [hsb]; exact Can_J K.2.1 hsa j')) (cnS_t (cnS_t (cnS_t (cnS_t (cnS_t (cfN K)))))) hS1)
    · exact hs.elim
  · exact hs.elim
/-! switches -/
theorem swT_spec {x : Int} {f : Int → Prop} : ∀ (os : List Int) (lo : Int), swT x lo os f → ∀ (i : Nat) (o : Int), os[i]? = some o → x = lo + i → f o
  | [], _, _, i, o, h, _ => by simp at h
  | o' :: os, lo, hs, 0, o, h, hx => by
    have e : o' = o := by simpa using h
    rw [← e]
    exact hs.1 (by omega)
  | o' :: os, lo, hs, i + 1, o, h, hx => swT_spec os (lo + 1) hs.2 i o (by simpa using h) (by omega)
theorem swL_spec {x : Int} {f : Int → Prop} : ∀ (ps : List (Int × Int)) (d : Int), swL x ps d f → f (Op.lookupswitch.offset ps d x) ∧ (Op.lookupswitch.offset ps d x = d ∨ ∃ q ∈ ps, Op.lookupswitch.offset ps d x = q.2)
  | [], d, hs => ⟨hs, Or.inl rfl⟩
  | (a, o) :: r, d, hs => by
    rw [Op.lookupswitch.offset_cons]
    by_cases hx : x = a
    · rw [if_pos hx.symm]
      exact ⟨hs.1 hx, Or.inr ⟨(a, o), List.mem_cons_self, rfl⟩⟩
    · rw [if_neg (fun z => hx z.symm)]
      obtain ⟨h1, h2⟩ := swL_spec r d (hs.2 hx)
      refine ⟨h1, h2.imp id (fun ⟨q, z1, z2⟩ => ⟨q, List.mem_cons_of_mem _ z1, z2⟩)⟩
theorem s_table (C : Ctx w h p s m args meth c) {d lo hi : Int} {offs : Array Int} {len : Nat} (hd : decode h.2.2.1 pc = .ok (.tableswitch d lo hi offs, len)) (hz : hi - lo + 1 = (offs.size : Int)) (h0 : 0 ≤ (pc : Int) + d) (h1 : ∀ o ∈ offs.toList, 0 ≤ (pc : Int) + o) {j : Nat → LL → List AV → St → Prop} (hJ : ∀ t L st S, j t L st S → Nx w h p l e s m args below meth c Q t L st S) (hs : pI st (fun a r => ((a < lo ∨ hi < a) → j ((pc : Int) + d).toNat L r S) ∧ swT a lo offs.toList (fun o => j ((pc : Int) + o).toNat L r S))) : Nx w h p l e s m args below meth c Q pc L st S := by
  obtain ⟨a, r, rfl, h2, h3⟩ := pI_spec hs
  intro H locs ls K
  have ha : i32 a = a := cnS_h (cfN K)
  by_cases hq : a < lo ∨ hi < a
  · refine lv_tableOut (tgt := ((pc : Int) + d).toNat) C.1 C.2.1 hd (by rw [toInt_i32, ha]; exact hq) (by omega) ?_
    exact hJ _ _ _ _ (h2 hq) H locs ls (cfS K (cnS_t (cfN K)))
  · have hlt : (a - lo).toNat < offs.toList.length := by rw [Array.length_toList]; omega
    have ho : offs.toList[(a - lo).toNat]? = some offs.toList[(a - lo).toNat] := List.getElem?_eq_getElem hlt
    have hm := List.mem_of_getElem? ho
    have hz1 := h1 _ hm
    refine lv_tableIn (tgt := ((pc : Int) + offs.toList[(a - lo).toNat]).toNat) (off := offs.toList[(a - lo).toNat]) C.1 C.2.1 hd (by rw [toInt_i32, ha]; omega) (by rw [toInt_i32, ha]; omega) (by rw [toInt_i32, ha, ← Array.getElem?_toList]; exact ho) (by omega) ?_
    exact hJ _ _ _ _ (swT_spec _ _ h3 _ _ ho (by omega)) H locs ls (cfS K (cnS_t (cfN K)))
theorem s_lookup (C : Ctx w h p s m args meth c) {d : Int} {ps : Array (Int × Int)} {len : Nat} (hd : decode h.2.2.1 pc = .ok (.lookupswitch d ps, len)) (hz : (ps.toList.zip (ps.toList.drop 1)).all (fun (a, next) => a.1 < next.1) = true) (h0 : 0 ≤ (pc : Int) + d) (h1 : ∀ q ∈ ps.toList, 0 ≤ (pc : Int) + q.2) {j : Nat → LL → List AV → St → Prop} (hJ : ∀ t L st S, j t L st S → Nx w h p l e s m args below meth c Q t L st S) (hs : pI st (fun a r => swL a ps.toList d (fun o => j ((pc : Int) + o).toNat L r S))) : Nx w h p l e s m args below meth c Q pc L st S := by
  obtain ⟨a, r, rfl, h2⟩ := pI_spec hs
  obtain ⟨h3, h4⟩ := swL_spec _ _ h2
  intro H locs ls K
  have ha : i32 a = a := cnS_h (cfN K)
  have hp : 0 ≤ (pc : Int) + Op.lookupswitch.offset ps.toList d a := by
    rcases h4 with q | ⟨q, z1, z2⟩
    · rw [q]; exact h0
    · rw [z2]; exact h1 q z1
  refine lv_lookup (tgt := ((pc : Int) + Op.lookupswitch.offset ps.toList d a).toNat) (off := Op.lookupswitch.offset ps.toList d a) C.1 C.2.1 hd hz (by rw [toInt_i32, ha]) (by omega) ?_
  exact hJ _ _ _ _ h3 H locs ls (cfS K (cnS_t (cfN K)))
/-! ends -/
theorem qcf (K : Cfg w h s H locs ls L st S) {r : Option AV} (hq : Q r S) (hr : cnO r) (t : State) (ht : t.heap = H) (hW : s.WarmedH t.vm) : Qcf w Q args s (.returned (r.map (cv w.2.1))) t := ⟨⟨r, S, hq, rfl, K.2.1, hr, by rw [ht]; exact K.1, hW.alike⟩, (cfA K).F ht⟩
theorem s_ireturn (C : Ctx w h p s m args meth c) (hd : decode h.2.2.1 pc = .ok (.ireturn, 1)) (hs : match st, h.2.2.2.2.1 with
    | [.inl a], some .int => Q (some (.inl a)) S
    | [.inl a], some .boolean => (a = 0 ∨ a = 1) ∧ Q (some (.inl a)) S
    | _, _ => False) : Nx w h p l e s m args below meth c Q pc L st S := by
  split at hs
  · rename_i a hrt
    intro H locs ls K
    exact W.iret C.1 C.2.1 (C.2.2.1.trans hrt) (fun t ht hW => qcf K hs (fun v z => by cases z; exact cnS_h (cfN K)) t ht hW) (cfA K).2.2 hd C.2.2.2.2.2.2.1
  · rename_i a hrt
    intro H locs ls K
    exact W.zret C.1 C.2.1 (C.2.2.1.trans hrt) (by rcases hs.1 with rfl | rfl <;> rfl) (fun t ht hW => qcf K hs.2 (fun v z => by cases z; exact cnS_h (cfN K)) t ht hW) (cfA K).2.2 hd C.2.2.2.2.2.2.1
  · exact hs.elim
theorem s_lreturn (C : Ctx w h p s m args meth c) (hd : decode h.2.2.1 pc = .ok (.lreturn, 1)) (hs : match st, h.2.2.2.2.1 with
    | [.inr (.inl a)], some .long => Q (some (.inr (.inl a))) S
    | _, _ => False) : Nx w h p l e s m args below meth c Q pc L st S := by
  split at hs
  · rename_i a hrt
    intro H locs ls K
    exact W.lret C.1 C.2.1 (C.2.2.1.trans hrt) (fun t ht hW => qcf K hs (fun v z => by cases z; exact cnS_h (cfN K)) t ht hW) (cfA K).2.2 hd C.2.2.2.2.2.2.1
  · exact hs.elim
theorem s_areturn (C : Ctx w h p s m args meth c) (hd : decode h.2.2.1 pc = .ok (.areturn, 1)) (hs : match st, h.2.2.2.2.1 with
    | [.inr (.inr a)], some (.object _) => Q (some (.inr (.inr a))) S
    | _, _ => False) : Nx w h p l e s m args below meth c Q pc L st S := by
  split at hs
  · rename_i a o hrt
    intro H locs ls K
    exact W.aret C.1 C.2.1 (C.2.2.1.trans hrt) (Or.inl ⟨_, rfl⟩) (Or.inr ⟨_, rfl⟩) (fun t ht hW => qcf K hs (fun v z => by cases z; exact trivial) t ht hW) (cfA K).2.2 hd C.2.2.2.2.2.2.1
  · exact hs.elim
theorem s_return (C : Ctx w h p s m args meth c) (hd : decode h.2.2.1 pc = .ok (.return_, 1)) (hs : match st, h.2.2.2.2.1 with
    | [], none => Q none S
    | _, _ => False) : Nx w h p l e s m args below meth c Q pc L st S := by
  split at hs
  · rename_i hrt
    intro H locs ls K
    exact W.vret C.1 C.2.1 (C.2.2.1.trans hrt) (fun t ht hW => qcf K hs (fun v z => by cases z) t ht hW) (cfA K).2.2 hd C.2.2.2.2.2.2.1
  · exact hs.elim
end SNE
end
section
/-! the abstract machine is sound -/
section SNF
variable {w : Wd} {h : Hd} {p : Program} {l : Launch} {e : Env} {s : State} {m : MethodId} {args : Array Value} {below : List Frame} {meth : Method} {c : Code} {Q : Option AV → St → Prop}
set_option maxHeartbeats 4000000 in
theorem step_ok (C : Ctx w h p s m args meth c) {cd : List CE} {k : KT} {is : List CE} {L : LL} {st : List AV} {S : St} (e0 : CE) (he : chkE h e0 = true) (hN : ∀ L st S, k is L st S → Nx w h p l e s m args below meth c Q (e0.1 + e0.2.2.1) L st S) (hJ : ∀ t L st S, jmpK cd t (fun is => k is L st S) → Nx w h p l e s m args below meth c Q t L st S) (hs : stepP h Q cd k e0 is L st S) : Nx w h p l e s m args below meth c Q e0.1 L st S := by
  obtain ⟨pc, ins, len, f⟩ := e0
  unfold chkE at he
  have hz := Bool.and_eq_true_iff.mp he
  have hi := hz.2
  have hy := Bool.and_eq_true_iff.mp hz.1
  have hd := of_decide_eq_true hy.1
  have hl := hy.2
  clear hy hz he
  dsimp only at hd hl hi hN ⊢
  cases ins <;> first | exact False.elim hs | skip
  case iload i =>
    have hl := Nat.beq_eq.mp hl
    subst hl
    exact s_iload C hd hN hs
  case lload i =>
    have hl := Nat.beq_eq.mp hl
    subst hl
    exact s_lload C hd hN hs
  case aload i =>
    have hl := Nat.beq_eq.mp hl
    subst hl
    exact s_aload C hd hN hs
  case iload_n i =>
    have hl := Nat.beq_eq.mp hl
    subst hl
    exact s_iload_n C hd hN hs
  case lload_n i =>
    have hl := Nat.beq_eq.mp hl
    subst hl
    exact s_lload_n C hd hN hs
  case aload_n i =>
    have hl := Nat.beq_eq.mp hl
    subst hl
    exact s_aload_n C hd hN hs
  case istore i =>
    have hl := Nat.beq_eq.mp hl
    subst hl
    exact s_istore C hd (Nat.ble_eq.mp hi) hN hs
  case astore i =>
    have hl := Nat.beq_eq.mp hl
    subst hl
    exact s_astore C hd (Nat.ble_eq.mp hi) hN hs
  case istore_n i =>
    have hl := Nat.beq_eq.mp hl
    subst hl
    exact s_istore_n C hd (Nat.ble_eq.mp hi) hN hs
  case astore_n i =>
    have hl := Nat.beq_eq.mp hl
    subst hl
    exact s_astore_n C hd (Nat.ble_eq.mp hi) hN hs
  case lstore i =>
    have hl := Nat.beq_eq.mp hl
    subst hl
    exact s_lstore C hd (Nat.ble_eq.mp hi) hN hs
  case lstore_n i =>
    have hl := Nat.beq_eq.mp hl
    subst hl
    exact s_lstore_n C hd (Nat.ble_eq.mp hi) hN hs
  case iinc i n =>
    have hl := Nat.beq_eq.mp hl
    subst hl
    exact s_iinc C hd (Nat.ble_eq.mp hi) hN hs
  case iconst n =>
    have hl := Nat.beq_eq.mp hl
    subst hl
    exact s_iconst C hd (of_decide_eq_true hi) hN hs
  case bipush n =>
    have hl := Nat.beq_eq.mp hl
    subst hl
    have hi := Bool.and_eq_true_iff.mp hi
    exact s_bipush C hd (of_decide_eq_true hi.1) (of_decide_eq_true hi.2) hN hs
  case sipush n =>
    have hl := Nat.beq_eq.mp hl
    subst hl
    have hi := Bool.and_eq_true_iff.mp hi
    exact s_sipush C hd (of_decide_eq_true hi.1) (of_decide_eq_true hi.2) hN hs
  case lconst n =>
    have hl := Nat.beq_eq.mp hl
    subst hl
    exact s_lconst C hd hN hs
  case ldc x =>
    have hl := Nat.beq_eq.mp hl
    subst hl
    dsimp only [stepP] at hs
    dsimp only [chkI] at hi
    split at hs
    · exact s_ldc C hd hi hN hs
    · exact hs.elim
  case ldc_w x =>
    have hl := Nat.beq_eq.mp hl
    subst hl
    dsimp only [stepP] at hs
    dsimp only [chkI] at hi
    split at hs
    · exact s_ldc_w C hd hi hN hs
    · exact hs.elim
  case ldc2_w x =>
    have hl := Nat.beq_eq.mp hl
    subst hl
    dsimp only [stepP] at hs
    dsimp only [chkI] at hi
    split at hs
    · exact s_ldc2_w C hd hi hN hs
    · exact hs.elim
  case iadd =>
    have hl := Nat.beq_eq.mp hl
    subst hl
    exact s_iadd C hd hN hs
  case isub =>
    have hl := Nat.beq_eq.mp hl
    subst hl
    exact s_isub C hd hN hs
  case imul =>
    have hl := Nat.beq_eq.mp hl
    subst hl
    exact s_imul C hd hN hs
  case ineg =>
    have hl := Nat.beq_eq.mp hl
    subst hl
    exact s_ineg C hd hN hs
  case iand =>
    have hl := Nat.beq_eq.mp hl
    subst hl
    exact s_iand C hd hN hs
  case ior =>
    have hl := Nat.beq_eq.mp hl
    subst hl
    exact s_ior C hd hN hs
  case ixor =>
    have hl := Nat.beq_eq.mp hl
    subst hl
    exact s_ixor C hd hN hs
  case ishl =>
    have hl := Nat.beq_eq.mp hl
    subst hl
    exact s_ishl C hd hN hs
  case ishr =>
    have hl := Nat.beq_eq.mp hl
    subst hl
    exact s_ishr C hd hN hs
  case iushr =>
    have hl := Nat.beq_eq.mp hl
    subst hl
    exact s_iushr C hd hN hs
  case idiv =>
    have hl := Nat.beq_eq.mp hl
    subst hl
    exact s_idiv C hd hN hs
  case irem =>
    have hl := Nat.beq_eq.mp hl
    subst hl
    exact s_irem C hd hN hs
  case ladd =>
    have hl := Nat.beq_eq.mp hl
    subst hl
    exact s_ladd C hd hN hs
  case lsub =>
    have hl := Nat.beq_eq.mp hl
    subst hl
    exact s_lsub C hd hN hs
  case lmul =>
    have hl := Nat.beq_eq.mp hl
    subst hl
    exact s_lmul C hd hN hs
  case ldiv =>
    have hl := Nat.beq_eq.mp hl
    subst hl
    exact s_ldiv C hd hN hs
  case lrem =>
    have hl := Nat.beq_eq.mp hl
    subst hl
    exact s_lrem C hd hN hs
  case lushr =>
    have hl := Nat.beq_eq.mp hl
    subst hl
    exact s_lushr C hd hN hs
  case lcmp =>
    have hl := Nat.beq_eq.mp hl
    subst hl
    exact s_lcmp C hd hN hs
  case i2l =>
    have hl := Nat.beq_eq.mp hl
    subst hl
    exact s_i2l C hd hN hs
  case l2i =>
    have hl := Nat.beq_eq.mp hl
    subst hl
    exact s_l2i C hd hN hs
  case dup =>
    have hl := Nat.beq_eq.mp hl
    subst hl
    dsimp only [stepP] at hs
    exact s_dup C hd hN hs
  case dup2 =>
    have hl := Nat.beq_eq.mp hl
    subst hl
    exact s_dup2 C hd hN hs
  case pop =>
    have hl := Nat.beq_eq.mp hl
    subst hl
    dsimp only [stepP] at hs
    exact s_pop C hd hN hs
  case iaload =>
    have hl := Nat.beq_eq.mp hl
    subst hl
    exact s_iaload C hd hN hs
  case laload =>
    have hl := Nat.beq_eq.mp hl
    subst hl
    exact s_laload C hd hN hs
  case baload =>
    have hl := Nat.beq_eq.mp hl
    subst hl
    exact s_baload C hd hN hs
  case caload =>
    have hl := Nat.beq_eq.mp hl
    subst hl
    exact s_caload C hd hN hs
  case iastore =>
    have hl := Nat.beq_eq.mp hl
    subst hl
    exact s_iastore C hd hN hs
  case lastore =>
    have hl := Nat.beq_eq.mp hl
    subst hl
    exact s_lastore C hd hN hs
  case bastore =>
    have hl := Nat.beq_eq.mp hl
    subst hl
    exact s_bastore C hd hN hs
  case arraylength =>
    have hl := Nat.beq_eq.mp hl
    subst hl
    exact s_arraylength C hd hN hs
  case goto o =>
    have hl := Nat.beq_eq.mp hl
    subst hl
    dsimp only [stepP] at hs
    dsimp only [chkI] at hi
    split at hs
    · exact s_goto C hd (of_decide_eq_true hi) hN (hJ _) hs
    · exact hs.elim
  case ifCond q o =>
    have hl := Nat.beq_eq.mp hl
    subst hl
    dsimp only [stepP] at hs
    dsimp only [chkI] at hi
    split at hs
    · cases q
      · exact s_if_eq C hd (of_decide_eq_true hi) hN (hJ _) hs
      · exact s_if_ne C hd (of_decide_eq_true hi) hN (hJ _) hs
      · exact s_if_lt C hd (of_decide_eq_true hi) hN (hJ _) hs
      · exact s_if_ge C hd (of_decide_eq_true hi) hN (hJ _) hs
      · exact s_if_gt C hd (of_decide_eq_true hi) hN (hJ _) hs
      · exact s_if_le C hd (of_decide_eq_true hi) hN (hJ _) hs
    · exact hs.elim
  case if_icmp q o =>
    have hl := Nat.beq_eq.mp hl
    subst hl
    dsimp only [stepP] at hs
    dsimp only [chkI] at hi
    split at hs
    · cases q
      · exact s_icmp_eq C hd (of_decide_eq_true hi) hN (hJ _) hs
      · exact s_icmp_ne C hd (of_decide_eq_true hi) hN (hJ _) hs
      · exact s_icmp_lt C hd (of_decide_eq_true hi) hN (hJ _) hs
      · exact s_icmp_ge C hd (of_decide_eq_true hi) hN (hJ _) hs
      · exact s_icmp_gt C hd (of_decide_eq_true hi) hN (hJ _) hs
      · exact s_icmp_le C hd (of_decide_eq_true hi) hN (hJ _) hs
    · exact hs.elim
  case getfield x =>
    have hl := Nat.beq_eq.mp hl
    subst hl
    dsimp only [stepP] at hs
    dsimp only [chkI] at hi
    split at hs
    · exact s_getfield C hd hi hN hs
    · exact hs.elim
  case putfield x =>
    have hl := Nat.beq_eq.mp hl
    subst hl
    dsimp only [stepP] at hs
    dsimp only [chkI] at hi
    split at hs
    · have hi := Bool.and_eq_true_iff.mp hi
      exact s_putfield C hd hi.1 (by simpa using hi.2) hN hs
    · exact hs.elim
  case getstatic x =>
    have hl := Nat.beq_eq.mp hl
    subst hl
    dsimp only [stepP] at hs
    dsimp only [chkI] at hi
    split at hs
    · exact s_getstatic C hd hi hN hs
    · exact hs.elim
  case invokevirtual x =>
    have hl := Nat.beq_eq.mp hl
    subst hl
    dsimp only [stepP] at hs
    dsimp only [chkI] at hi
    split at hs
    · have hi := Bool.and_eq_true_iff.mp hi
      exact s_invokevirtual C hd hi.1 (fun z => by rw [z] at hi; simp at hi) hN hs
    · exact hs.elim
  case invokestatic x =>
    have hl := Nat.beq_eq.mp hl
    subst hl
    dsimp only [stepP] at hs
    dsimp only [chkI] at hi
    split at hs
    · have hi := Bool.and_eq_true_iff.mp hi
      exact s_invokestatic C hd hi.1 (Nat.beq_eq.mp hi.2) hN hs
    · have hi := Bool.and_eq_true_iff.mp hi
      exact s_copy C hd hi.1 (Nat.ble_eq.mp hi.2) hN hs
    · have hi := Bool.and_eq_true_iff.mp hi
      exact s_max C hd hi.1 (Nat.ble_eq.mp hi.2) hN hs
    · have hi := Bool.and_eq_true_iff.mp hi
      exact s_min C hd hi.1 (Nat.ble_eq.mp hi.2) hN hs
    · exact hs.elim
  case tableswitch d lo hh offs =>
    have hi := Bool.and_eq_true_iff.mp hi
    have hj := Bool.and_eq_true_iff.mp hi.1
    exact s_table C hd (of_decide_eq_true hj.1) (of_decide_eq_true hj.2) (fun o ho => of_decide_eq_true (List.all_eq_true.mp hi.2 o ho)) hJ hs
  case lookupswitch d ps =>
    have hi := Bool.and_eq_true_iff.mp hi
    have hj := Bool.and_eq_true_iff.mp hi.1
    exact s_lookup C hd hj.1 (of_decide_eq_true hj.2) (fun o ho => of_decide_eq_true (List.all_eq_true.mp hi.2 o ho)) hJ hs
  case ireturn =>
    have hl := Nat.beq_eq.mp hl
    subst hl
    dsimp only [stepP] at hs
    exact s_ireturn C hd hs
  case lreturn =>
    have hl := Nat.beq_eq.mp hl
    subst hl
    dsimp only [stepP] at hs
    exact s_lreturn C hd hs
  case areturn =>
    have hl := Nat.beq_eq.mp hl
    subst hl
    dsimp only [stepP] at hs
    exact s_areturn C hd hs
  case return_ =>
    have hl := Nat.beq_eq.mp hl
    subst hl
    dsimp only [stepP] at hs
    exact s_return C hd hs
theorem jmpK_spec {f : List CE → Prop} : ∀ (cd : List CE) (t : Nat), jmpK cd t f → ∃ pre e0 is, cd = pre ++ e0 :: is ∧ e0.1 = t ∧ f (e0 :: is)
  | [], _, hs => False.elim hs
  | e0 :: is, t, hs => by
    unfold jmpK at hs
    split at hs
    · rename_i hb
      exact ⟨[], e0, is, rfl, Nat.beq_eq.mp hb, hs⟩
    · obtain ⟨pre, e1, is1, h1, h2, h3⟩ := jmpK_spec is t hs
      exact ⟨e0 :: pre, e1, is1, by rw [h1]; rfl, h2, h3⟩
theorem chkC_spec : ∀ (pre : List CE) (e0 e1 : CE) (is : List CE), chkC (pre ++ e0 :: e1 :: is) = true → e0.1 + e0.2.2.1 = e1.1
  | [], e0, e1, is, hc => by
    simp only [List.nil_append, chkC, Bool.and_eq_true] at hc
    exact Nat.beq_eq.mp hc.1
  | [x], e0, e1, is, hc => by
    simp only [List.cons_append, List.nil_append, chkC, Bool.and_eq_true] at hc
    exact Nat.beq_eq.mp hc.2.1
  | x :: y :: pre, e0, e1, is, hc => by
    simp only [List.cons_append, chkC, Bool.and_eq_true] at hc
    exact chkC_spec (y :: pre) e0 e1 is hc.2
theorem wp_ok (C : Ctx w h p s m args meth c) {cd : List CE} (hok : okM h cd = true) (stops : List Nat) : ∀ (n : Nat) (pre : List CE) (is : List CE), cd = pre ++ is → ∀ (L : LL) (st : List AV) (S : St), wp h Q cd stops n is L st S → ∃ e0 r, is = e0 :: r ∧ Nx w h p l e s m args below meth c Q e0.1 L st S := by
  obtain ⟨hall, hch⟩ := Bool.and_eq_true_iff.mp hok
  intro n
  induction n with
  | zero =>
    intro pre is hcd L st S hs
    match is, hs with
    | [], hs => exact False.elim hs
    | e0 :: r, hs => exact ⟨e0, r, rfl, fun H locs ls K => hs w p l e s m args below meth c C H locs ls K⟩
  | succ n ih =>
    intro pre is hcd L st S hs
    match is, hs with
    | [], hs => exact False.elim hs
    | e0 :: r, hs =>
      refine ⟨e0, r, rfl, ?_⟩
      unfold wp at hs
      split at hs
      · exact fun H locs ls K => hs w p l e s m args below meth c C H locs ls K
      · refine step_ok C e0 (List.all_eq_true.mp hall e0 (by rw [hcd]; exact List.mem_append_right _ List.mem_cons_self)) ?_ ?_ hs
        · intro L' st' S' hk
          obtain ⟨e1, r1, h1, h2⟩ := ih (pre ++ [e0]) r (by rw [hcd]; simp) L' st' S' hk
          subst h1
          rw [hcd] at hch
          rw [chkC_spec pre e0 e1 r1 hch]
          exact h2
        · intro t L' st' S' hk
          obtain ⟨pre1, e1, r1, h1, h2, h3⟩ := jmpK_spec cd t hk
          obtain ⟨e2, r2, h4, h5⟩ := ih pre1 (e1 :: r1) h1 L' st' S' h3
          cases h4
          rw [← h2]
          exact h5
end SNF
/-- what the abstract machine shows from a place on -/
theorem sound {h : Hd} {cd : List CE} (hok : okM h cd = true) (stops : List Nat) (n : Nat) {pc : Nat} {L : LL} {st : List AV} {S : St} {Q : Option AV → St → Prop} (hs : run h Q cd stops n pc L st S) : Smm h pc L st S Q := by
  intro w p l e s m args below meth c C
  obtain ⟨hall, hch⟩ := Bool.and_eq_true_iff.mp hok
  obtain ⟨pre, e0, r, hcd, hpc, hs⟩ := jmpK_spec cd pc hs
  dsimp only at hs
  rw [← hpc]
  refine step_ok C e0 (List.all_eq_true.mp hall e0 (by rw [hcd]; exact List.mem_append_right _ List.mem_cons_self)) ?_ ?_ hs
  · intro L' st' S' hk
    obtain ⟨e1, r1, h1, h2⟩ := wp_ok (l := l) (e := e) (below := below) C hok stops n (pre ++ [e0]) r (by rw [hcd]; simp) L' st' S' hk
    subst h1
    rw [hcd] at hch
    rw [chkC_spec pre e0 e1 r1 hch]
    exact h2
  · intro t L' st' S' hk
    obtain ⟨pre1, e1, r1, h1, h2, h3⟩ := jmpK_spec cd t hk
    obtain ⟨e2, r2, h4, h5⟩ := wp_ok (l := l) (e := e) (below := below) C hok stops n pre1 (e1 :: r1) h1 L' st' S' h3
    cases h4
    rw [← h2]
    exact h5
/-- a weaker end -/
theorem Smm.mono {h : Hd} {pc : Nat} {L : LL} {st : List AV} {S : St} {Q Q' : Option AV → St → Prop} (hs : Smm h pc L st S Q) (hq : ∀ r S, Q r S → Q' r S) : Smm h pc L st S Q' := by
  intro w p l e s m args below meth c C H locs ls K T hT X
  obtain ⟨t, h1, o, h2, h3, ⟨⟨r, S', h4, h5⟩, h6⟩, h7⟩ := hs w p l e s m args below meth c C H locs ls K T hT X
  exact ⟨t, h1, o, h2, h3, ⟨⟨r, S', hq r S' h4, h5⟩, h6⟩, h7⟩
/-- what a state's numbers are may be used -/
theorem Smm.can {h : Hd} {pc : Nat} {L : LL} {st : List AV} {S : St} {Q : Option AV → St → Prop} (hs : Can S → Smm h pc L st S Q) : Smm h pc L st S Q := by
  intro w p l e s m args below meth c C H locs ls K
  exact hs K.2.1 w p l e s m args below meth c C H locs ls K
/-- fewer known locals are enough -/
def subL : LL → LL → Prop
  | [], _ => True
  | x :: L, [] => x = none ∧ subL L []
  | x :: L, y :: L' => (x = none ∨ x = y) ∧ subL L L'
theorem subL_get : ∀ (L L' : LL), subL L L' → ∀ (i : Nat) (v : AV), L[i]? = some (some v) → L'[i]? = some (some v)
  | [], _, _, i, v, hv => by simp at hv
  | x :: L, [], hs, 0, v, hv => by
    have e : x = some v := by simpa using hv
    rw [hs.1] at e
    cases e
  | x :: L, [], hs, i + 1, v, hv => by
    have := subL_get L [] hs.2 i v (by simpa using hv)
    simp at this
  | x :: L, y :: L', hs, 0, v, hv => by
    have e : x = some v := by simpa using hv
    rcases hs.1 with q | q
    · rw [q] at e; cases e
    · simp [← q, e]
  | x :: L, y :: L', hs, i + 1, v, hv => by
    have := subL_get L L' hs.2 i v (by simpa using hv)
    simpa using this
theorem Smm.sub {h : Hd} {pc : Nat} {L L' : LL} {st : List AV} {S : St} {Q : Option AV → St → Prop} (hs : Smm h pc L st S Q) (hL : subL L L') : Smm h pc L' st S Q := by
  intro w p l e s m args below meth c C H locs ls K
  refine hs w p l e s m args below meth c C H locs ls ⟨K.1, K.2.1, fun v hv => ?_, K.2.2.2.1, K.2.2.2.2.1, ⟨K.2.2.2.2.2.1, K.2.2.2.2.2.2.1, fun q hq => ?_⟩⟩
  · obtain ⟨i, hi⟩ := List.getElem?_of_mem hv
    exact K.2.2.1 v (List.mem_of_getElem? (subL_get L L' hL i v hi))
  · obtain ⟨j, u, h1, h2⟩ := (mem_al L 0 q).mp hq
    exact K.2.2.2.2.2.2.2 q ((mem_al L' 0 q).mpr ⟨j, u, h1, subL_get L L' hL j u h2⟩)
end
section
def K_Book_copy_0 : List CE := [(0, .aload_n 1, 1, .inl ()), (1, .getfield 9, 3, .inr (.inl (0, 0))), (4, .iconst 0, 1, .inl ()), (5, .aload_n 0, 1, .inl ()), (6, .getfield 9, 3, .inr (.inl (0, 0))), (9, .iconst 0, 1, .inl ()), (10, .iconst 4, 1, .inl ()), (11, .invokestatic 34, 3, .inl ()), (14, .aload_n 0, 1, .inl ()), (15, .aload_n 1, 1, .inl ()), (16, .getfield 40, 3, .inr (.inl (0, 1))), (19, .putfield 40, 3, .inr (.inl (0, 1))), (22, .aload_n 1, 1, .inl ()), (23, .getfield 15, 3, .inr (.inl (0, 2))), (26, .iconst 0, 1, .inl ()), (27, .aload_n 0, 1, .inl ()), (28, .getfield 15, 3, .inr (.inl (0, 2))), (31, .iconst 0, 1, .inl ()), (32, .bipush 10, 2, .inl ()), (34, .invokestatic 34, 3, .inl ()), (37, .aload_n 1, 1, .inl ()), (38, .getfield 18, 3, .inr (.inl (0, 3))), (41, .iconst 0, 1, .inl ()), (42, .aload_n 0, 1, .inl ()), (43, .getfield 18, 3, .inr (.inl (0, 3))), (46, .iconst 0, 1, .inl ()), (47, .bipush 10, 2, .inl ()), (49, .invokestatic 34, 3, .inl ()), (52, .aload_n 1, 1, .inl ()), (53, .getfield 21, 3, .inr (.inl (0, 4))), (56, .iconst 0, 1, .inl ()), (57, .aload_n 0, 1, .inl ()), (58, .getfield 21, 3, .inr (.inl (0, 4))), (61, .iconst 0, 1, .inl ()), (62, .bipush 10, 2, .inl ()), (64, .invokestatic 34, 3, .inl ()), (67, .aload_n 0, 1, .inl ()), (68, .aload_n 1, 1, .inl ()), (69, .getfield 44, 3, .inr (.inl (0, 5))), (72, .putfield 44, 3, .inr (.inl (0, 5))), (75, .aload_n 1, 1, .inl ()), (76, .getfield 24, 3, .inr (.inl (0, 6))), (79, .iconst 0, 1, .inl ()), (80, .aload_n 0, 1, .inl ()), (81, .getfield 24, 3, .inr (.inl (0, 6))), (84, .iconst 0, 1, .inl ()), (85, .sipush 160, 3, .inl ()), (88, .invokestatic 34, 3, .inl ()), (91, .aload_n 1, 1, .inl ()), (92, .getfield 27, 3, .inr (.inl (0, 7)))]
def K_Book_copy_1 : List CE := [(95, .iconst 0, 1, .inl ()), (96, .aload_n 0, 1, .inl ()), (97, .getfield 27, 3, .inr (.inl (0, 7))), (100, .iconst 0, 1, .inl ()), (101, .bipush 40, 2, .inl ()), (103, .invokestatic 34, 3, .inl ()), (106, .aload_n 1, 1, .inl ()), (107, .getfield 30, 3, .inr (.inl (0, 8))), (110, .iconst 0, 1, .inl ()), (111, .aload_n 0, 1, .inl ()), (112, .getfield 30, 3, .inr (.inl (0, 8))), (115, .iconst 0, 1, .inl ()), (116, .bipush 40, 2, .inl ()), (118, .invokestatic 34, 3, .inl ()), (121, .aload_n 0, 1, .inl ()), (122, .aload_n 1, 1, .inl ()), (123, .getfield 47, 3, .inr (.inl (0, 9))), (126, .putfield 47, 3, .inr (.inl (0, 9))), (129, .return_, 1, .inl ())]
def K_Book_copy : List CE := K_Book_copy_0 ++ (K_Book_copy_1)
theorem ok_Book_copy : okM H_Book_copy K_Book_copy = true := by decide +kernel
def K_Book_leaveLand : List CE := [(0, .iconst 0, 1, .inl ()), (1, .istore_n 1, 1, .inl ()), (2, .iload_n 1, 1, .inl ()), (3, .iconst 4, 1, .inl ()), (4, .if_icmp .ge 16, 3, .inr (.inr (.inr 20))), (7, .aload_n 0, 1, .inl ()), (8, .getfield 9, 3, .inr (.inl (0, 0))), (11, .iload_n 1, 1, .inl ()), (12, .iconst (-1), 1, .inl ()), (13, .iastore, 1, .inl ()), (14, .iinc 1 1, 3, .inl ()), (17, .goto (-15), 3, .inr (.inr (.inr 2))), (20, .aload_n 0, 1, .inl ()), (21, .iconst 0, 1, .inl ()), (22, .putfield 40, 3, .inr (.inl (0, 1))), (25, .aload_n 0, 1, .inl ()), (26, .iconst 0, 1, .inl ()), (27, .putfield 44, 3, .inr (.inl (0, 5))), (30, .return_, 1, .inl ())]
theorem ok_Book_leaveLand : okM H_Book_leaveLand K_Book_leaveLand = true := by decide +kernel
def K_Book_addScratch : List CE := [(0, .aload_n 0, 1, .inl ()), (1, .getfield 40, 3, .inr (.inl (0, 1))), (4, .bipush 10, 2, .inl ()), (6, .if_icmp .ge 43, 3, .inr (.inr (.inr 49))), (9, .aload_n 0, 1, .inl ()), (10, .getfield 15, 3, .inr (.inl (0, 2))), (13, .aload_n 0, 1, .inl ()), (14, .getfield 40, 3, .inr (.inl (0, 1))), (17, .iload_n 1, 1, .inl ()), (18, .iastore, 1, .inl ()), (19, .aload_n 0, 1, .inl ()), (20, .getfield 18, 3, .inr (.inl (0, 3))), (23, .aload_n 0, 1, .inl ()), (24, .getfield 40, 3, .inr (.inl (0, 1))), (27, .iload_n 2, 1, .inl ()), (28, .iastore, 1, .inl ()), (29, .aload_n 0, 1, .inl ()), (30, .getfield 21, 3, .inr (.inl (0, 4))), (33, .aload_n 0, 1, .inl ()), (34, .getfield 40, 3, .inr (.inl (0, 1))), (37, .iload_n 3, 1, .inl ()), (38, .iastore, 1, .inl ()), (39, .aload_n 0, 1, .inl ()), (40, .dup, 1, .inl ()), (41, .getfield 40, 3, .inr (.inl (0, 1))), (44, .iconst 1, 1, .inl ()), (45, .iadd, 1, .inl ()), (46, .putfield 40, 3, .inr (.inl (0, 1))), (49, .return_, 1, .inl ())]
theorem ok_Book_addScratch : okM H_Book_addScratch K_Book_addScratch = true := by decide +kernel
def K_Book_scratchedSigns : List CE := [(0, .iconst 0, 1, .inl ()), (1, .istore_n 1, 1, .inl ()), (2, .iconst 0, 1, .inl ()), (3, .istore_n 2, 1, .inl ()), (4, .iload_n 2, 1, .inl ()), (5, .aload_n 0, 1, .inl ()), (6, .getfield 40, 3, .inr (.inl (0, 1))), (9, .if_icmp .ge 33, 3, .inr (.inr (.inr 42))), (12, .iload_n 1, 1, .inl ()), (13, .aload_n 0, 1, .inl ()), (14, .getfield 18, 3, .inr (.inl (0, 3))), (17, .iload_n 2, 1, .inl ()), (18, .iaload, 1, .inl ()), (19, .ifCond .ge 7, 3, .inr (.inr (.inr 26))), (22, .iconst 0, 1, .inl ()), (23, .goto 11, 3, .inr (.inr (.inr 34))), (26, .iconst 1, 1, .inl ()), (27, .aload_n 0, 1, .inl ()), (28, .getfield 18, 3, .inr (.inl (0, 3))), (31, .iload_n 2, 1, .inl ()), (32, .iaload, 1, .inl ()), (33, .ishl, 1, .inl ()), (34, .ior, 1, .inl ()), (35, .istore_n 1, 1, .inl ()), (36, .iinc 2 1, 3, .inl ()), (39, .goto (-35), 3, .inr (.inr (.inr 4))), (42, .iload_n 1, 1, .inl ()), (43, .ireturn, 1, .inl ())]
theorem ok_Book_scratchedSigns : okM H_Book_scratchedSigns K_Book_scratchedSigns = true := by decide +kernel
def K_Book_unlike : List CE := [(0, .iconst 0, 1, .inl ()), (1, .istore_n 2, 1, .inl ()), (2, .iconst 0, 1, .inl ()), (3, .istore_n 3, 1, .inl ()), (4, .iload_n 3, 1, .inl ()), (5, .aload_n 0, 1, .inl ()), (6, .getfield 40, 3, .inr (.inl (0, 1))), (9, .if_icmp .ge 67, 3, .inr (.inr (.inr 76))), (12, .aload_n 0, 1, .inl ()), (13, .getfield 15, 3, .inr (.inl (0, 2))), (16, .iload_n 3, 1, .inl ()), (17, .iaload, 1, .inl ()), (18, .istore 4, 2, .inl ()), (20, .aload_n 0, 1, .inl ()), (21, .getfield 18, 3, .inr (.inl (0, 3))), (24, .iload_n 3, 1, .inl ()), (25, .iaload, 1, .inl ()), (26, .ifCond .ge 13, 3, .inr (.inr (.inr 39))), (29, .aload_n 1, 1, .inl ()), (30, .getfield 51, 3, .inr (.inl (10, 8))), (33, .iload 4, 2, .inl ()), (35, .iaload, 1, .inl ()), (36, .goto 15, 3, .inr (.inr (.inr 51))), (39, .aload_n 1, 1, .inl ()), (40, .iload 4, 2, .inl ()), (42, .aload_n 0, 1, .inl ()), (43, .getfield 18, 3, .inr (.inl (0, 3))), (46, .iload_n 3, 1, .inl ()), (47, .iaload, 1, .inl ()), (48, .invokevirtual 56, 3, .inr (.inr (.inr 81))), (51, .istore 5, 2, .inl ()), (53, .iload 5, 2, .inl ()), (55, .aload_n 0, 1, .inl ()), (56, .getfield 21, 3, .inr (.inl (0, 4))), (59, .iload_n 3, 1, .inl ()), (60, .iaload, 1, .inl ()), (61, .if_icmp .eq 9, 3, .inr (.inr (.inr 70))), (64, .iload_n 2, 1, .inl ()), (65, .iconst 1, 1, .inl ()), (66, .iload_n 3, 1, .inl ()), (67, .ishl, 1, .inl ()), (68, .ior, 1, .inl ()), (69, .istore_n 2, 1, .inl ()), (70, .iinc 3 1, 3, .inl ()), (73, .goto (-69), 3, .inr (.inr (.inr 4))), (76, .iload_n 2, 1, .inl ()), (77, .ireturn, 1, .inl ())]
theorem ok_Book_unlike : okM H_Book_unlike K_Book_unlike = true := by decide +kernel
def K_Book_draw : List CE := [(0, .aload_n 0, 1, .inl ()), (1, .aload_n 0, 1, .inl ()), (2, .getfield 47, 3, .inr (.inl (0, 9))), (5, .ldc2_w 60, 3, .inr (.inr (.inl (6364136223846793005)))), (8, .lmul, 1, .inl ()), (9, .ldc2_w 62, 3, .inr (.inr (.inl (1442695040888963407)))), (12, .ladd, 1, .inl ()), (13, .putfield 47, 3, .inr (.inl (0, 9))), (16, .iload_n 1, 1, .inl ()), (17, .iconst 1, 1, .inl ()), (18, .if_icmp .ge 7, 3, .inr (.inr (.inr 25))), (21, .iconst 0, 1, .inl ()), (22, .goto 14, 3, .inr (.inr (.inr 36))), (25, .aload_n 0, 1, .inl ()), (26, .getfield 47, 3, .inr (.inl (0, 9))), (29, .bipush 33, 2, .inl ()), (31, .lushr, 1, .inl ()), (32, .iload_n 1, 1, .inl ()), (33, .i2l, 1, .inl ()), (34, .lrem, 1, .inl ()), (35, .l2i, 1, .inl ()), (36, .ireturn, 1, .inl ())]
theorem ok_Book_draw : okM H_Book_draw K_Book_draw = true := by decide +kernel
def K_Book_addNight : List CE := [(0, .aload_n 0, 1, .inl ()), (1, .getfield 44, 3, .inr (.inl (0, 5))), (4, .bipush 40, 2, .inl ()), (6, .if_icmp .ge 50, 3, .inr (.inr (.inr 56))), (9, .aload_n 3, 1, .inl ()), (10, .iconst 0, 1, .inl ()), (11, .aload_n 0, 1, .inl ()), (12, .getfield 24, 3, .inr (.inl (0, 6))), (15, .aload_n 0, 1, .inl ()), (16, .getfield 44, 3, .inr (.inl (0, 5))), (19, .iconst 4, 1, .inl ()), (20, .imul, 1, .inl ()), (21, .iconst 4, 1, .inl ()), (22, .invokestatic 34, 3, .inl ()), (25, .aload_n 0, 1, .inl ()), (26, .getfield 27, 3, .inr (.inl (0, 7))), (29, .aload_n 0, 1, .inl ()), (30, .getfield 44, 3, .inr (.inl (0, 5))), (33, .iload 4, 2, .inl ()), (35, .iastore, 1, .inl ()), (36, .aload_n 0, 1, .inl ()), (37, .getfield 30, 3, .inr (.inl (0, 8))), (40, .aload_n 0, 1, .inl ()), (41, .getfield 44, 3, .inr (.inl (0, 5))), (44, .lload_n 1, 1, .inl ()), (45, .lastore, 1, .inl ()), (46, .aload_n 0, 1, .inl ()), (47, .dup, 1, .inl ()), (48, .getfield 44, 3, .inr (.inl (0, 5))), (51, .iconst 1, 1, .inl ()), (52, .iadd, 1, .inl ()), (53, .putfield 44, 3, .inr (.inl (0, 5))), (56, .iload 4, 2, .inl ()), (58, .ireturn, 1, .inl ())]
theorem ok_Book_addNight : okM H_Book_addNight K_Book_addNight = true := by decide +kernel
def K_Book_dropNight : List CE := [(0, .aload_n 0, 1, .inl ()), (1, .getfield 44, 3, .inr (.inl (0, 5))), (4, .ifCond .le 26, 3, .inr (.inr (.inr 30))), (7, .aload_n 0, 1, .inl ()), (8, .dup, 1, .inl ()), (9, .getfield 44, 3, .inr (.inl (0, 5))), (12, .iconst 1, 1, .inl ()), (13, .isub, 1, .inl ()), (14, .putfield 44, 3, .inr (.inl (0, 5))), (17, .aload_n 0, 1, .inl ()), (18, .aload_n 0, 1, .inl ()), (19, .getfield 30, 3, .inr (.inl (0, 8))), (22, .aload_n 0, 1, .inl ()), (23, .getfield 44, 3, .inr (.inl (0, 5))), (26, .laload, 1, .inl ()), (27, .putfield 47, 3, .inr (.inl (0, 9))), (30, .aload_n 0, 1, .inl ()), (31, .getfield 44, 3, .inr (.inl (0, 5))), (34, .ireturn, 1, .inl ())]
theorem ok_Book_dropNight : okM H_Book_dropNight K_Book_dropNight = true := by decide +kernel
def K_Book_countOpened : List CE := [(0, .iconst 0, 1, .inl ()), (1, .istore_n 1, 1, .inl ()), (2, .iconst 0, 1, .inl ()), (3, .istore_n 2, 1, .inl ()), (4, .iload_n 2, 1, .inl ()), (5, .aload_n 0, 1, .inl ()), (6, .getfield 44, 3, .inr (.inl (0, 5))), (9, .if_icmp .ge 18, 3, .inr (.inr (.inr 27))), (12, .iload_n 1, 1, .inl ()), (13, .aload_n 0, 1, .inl ()), (14, .getfield 27, 3, .inr (.inl (0, 7))), (17, .iload_n 2, 1, .inl ()), (18, .iaload, 1, .inl ()), (19, .iadd, 1, .inl ()), (20, .istore_n 1, 1, .inl ()), (21, .iinc 2 1, 3, .inl ()), (24, .goto (-20), 3, .inr (.inr (.inr 4))), (27, .iload_n 1, 1, .inl ()), (28, .ireturn, 1, .inl ())]
theorem ok_Book_countOpened : okM H_Book_countOpened K_Book_countOpened = true := by decide +kernel
def K_Duel_fill_0 : List CE := [(0, .aload_n 0, 1, .inl ()), (1, .iload 4, 2, .inl ()), (3, .putfield 37, 3, .inr (.inl (1, 1))), (6, .aload_n 0, 1, .inl ()), (7, .iload 5, 2, .inl ()), (9, .putfield 41, 3, .inr (.inl (1, 2))), (12, .aload_n 0, 1, .inl ()), (13, .aload_n 2, 1, .inl ()), (14, .getfield 44, 3, .inr (.inl (2, 1))), (17, .bipush 10, 2, .inl ()), (19, .imul, 1, .inl ()), (20, .putfield 49, 3, .inr (.inl (1, 10))), (23, .iconst 0, 1, .inl ()), (24, .istore 6, 2, .inl ()), (26, .iload 6, 2, .inl ()), (28, .aload_n 0, 1, .inl ()), (29, .getfield 9, 3, .inr (.inl (1, 3))), (32, .arraylength, 1, .inl ()), (33, .if_icmp .ge 33, 3, .inr (.inr (.inr 66))), (36, .aload_n 0, 1, .inl ()), (37, .getfield 9, 3, .inr (.inl (1, 3))), (40, .iload 6, 2, .inl ()), (42, .iconst 0, 1, .inl ()), (43, .iastore, 1, .inl ()), (44, .aload_n 0, 1, .inl ()), (45, .getfield 15, 3, .inr (.inl (1, 4))), (48, .iload 6, 2, .inl ()), (50, .iconst 0, 1, .inl ()), (51, .iastore, 1, .inl ()), (52, .aload_n 0, 1, .inl ()), (53, .getfield 18, 3, .inr (.inl (1, 5))), (56, .iload 6, 2, .inl ()), (58, .iconst 0, 1, .inl ()), (59, .iastore, 1, .inl ()), (60, .iinc 6 1, 3, .inl ()), (63, .goto (-37), 3, .inr (.inr (.inr 26))), (66, .aload_n 1, 1, .inl ()), (67, .aload_n 2, 1, .inl ()), (68, .aload_n 3, 1, .inl ()), (69, .aload_n 2, 1, .inl ()), (70, .aload_n 0, 1, .inl ()), (71, .getfield 37, 3, .inr (.inl (1, 1))), (74, .invokevirtual 52, 3, .inr (.inr (.inr 27))), (77, .aload_n 2, 1, .inl ()), (78, .aload_n 0, 1, .inl ()), (79, .getfield 41, 3, .inr (.inl (1, 2))), (82, .invokevirtual 52, 3, .inr (.inr (.inr 27))), (85, .ior, 1, .inl ()), (86, .invokevirtual 56, 3, .inr (.inr (.inr 76))), (89, .istore 6, 2, .inl ())]
def K_Duel_fill_1 : List CE := [(91, .iconst 0, 1, .inl ()), (92, .istore 7, 2, .inl ()), (94, .iload 7, 2, .inl ()), (96, .iload 6, 2, .inl ()), (98, .if_icmp .ge 61, 3, .inr (.inr (.inr 159))), (101, .aload_n 0, 1, .inl ()), (102, .getfield 30, 3, .inr (.inl (1, 8))), (105, .aload_n 1, 1, .inl ()), (106, .getfield 62, 3, .inr (.inl (10, 8))), (109, .aload_n 2, 1, .inl ()), (110, .getfield 65, 3, .inr (.inl (2, 0))), (113, .aload_n 0, 1, .inl ()), (114, .getfield 37, 3, .inr (.inl (1, 1))), (117, .aload_n 0, 1, .inl ()), (118, .getfield 41, 3, .inr (.inl (1, 2))), (121, .invokevirtual 68, 3, .inr (.inr (.inr 47))), (124, .iconst 0, 1, .inl ()), (125, .istore 8, 2, .inl ()), (127, .iload 8, 2, .inl ()), (129, .aload_n 0, 1, .inl ()), (130, .getfield 49, 3, .inr (.inl (1, 10))), (133, .if_icmp .ge 16, 3, .inr (.inr (.inr 149))), (136, .aload_n 0, 1, .inl ()), (137, .aload_n 1, 1, .inl ()), (138, .iload 8, 2, .inl ()), (140, .invokevirtual 72, 3, .inr (.inr (.inr 18))), (143, .iinc 8 1, 3, .inl ()), (146, .goto (-19), 3, .inr (.inr (.inr 127))), (149, .aload_n 1, 1, .inl ()), (150, .invokevirtual 76, 3, .inr (.inr (.inr 77))), (153, .iinc 7 1, 3, .inl ()), (156, .goto (-62), 3, .inr (.inr (.inr 94))), (159, .aload_n 0, 1, .inl ()), (160, .iconst 1, 1, .inl ()), (161, .putfield 79, 3, .inr (.inl (1, 0))), (164, .return_, 1, .inl ())]
def K_Duel_fill : List CE := K_Duel_fill_0 ++ (K_Duel_fill_1)
theorem ok_Duel_fill : okM H_Duel_fill K_Duel_fill = true := by decide +kernel
def K_Duel_mostOpen : List CE := [(0, .iconst 0, 1, .inl ()), (1, .istore_n 1, 1, .inl ()), (2, .iconst 0, 1, .inl ()), (3, .istore_n 2, 1, .inl ()), (4, .iload_n 2, 1, .inl ()), (5, .aload_n 0, 1, .inl ()), (6, .getfield 49, 3, .inr (.inl (1, 10))), (9, .if_icmp .ge 52, 3, .inr (.inr (.inr 61))), (12, .iconst 0, 1, .inl ()), (13, .istore_n 3, 1, .inl ()), (14, .iload_n 3, 1, .inl ()), (15, .aload_n 0, 1, .inl ()), (16, .getfield 49, 3, .inr (.inl (1, 10))), (19, .if_icmp .ge 36, 3, .inr (.inr (.inr 55))), (22, .aload_n 0, 1, .inl ()), (23, .getfield 9, 3, .inr (.inl (1, 3))), (26, .iload_n 2, 1, .inl ()), (27, .bipush 50, 2, .inl ()), (29, .imul, 1, .inl ()), (30, .iload_n 3, 1, .inl ()), (31, .iadd, 1, .inl ()), (32, .iaload, 1, .inl ()), (33, .aload_n 0, 1, .inl ()), (34, .getfield 9, 3, .inr (.inl (1, 3))), (37, .iload_n 1, 1, .inl ()), (38, .iaload, 1, .inl ()), (39, .if_icmp .le 10, 3, .inr (.inr (.inr 49))), (42, .iload_n 2, 1, .inl ()), (43, .bipush 50, 2, .inl ()), (45, .imul, 1, .inl ()), (46, .iload_n 3, 1, .inl ()), (47, .iadd, 1, .inl ()), (48, .istore_n 1, 1, .inl ()), (49, .iinc 3 1, 3, .inl ()), (52, .goto (-38), 3, .inr (.inr (.inr 14))), (55, .iinc 2 1, 3, .inl ()), (58, .goto (-54), 3, .inr (.inr (.inr 4))), (61, .iload_n 1, 1, .inl ()), (62, .ireturn, 1, .inl ())]
theorem ok_Duel_mostOpen : okM H_Duel_mostOpen K_Duel_mostOpen = true := by decide +kernel
def K_Duel_codeOf : List CE := [(0, .iload_n 1, 1, .inl ()), (1, .bipush 50, 2, .inl ()), (3, .idiv, 1, .inl ()), (4, .bipush 100, 2, .inl ()), (6, .imul, 1, .inl ()), (7, .iload_n 1, 1, .inl ()), (8, .bipush 50, 2, .inl ()), (10, .irem, 1, .inl ()), (11, .iadd, 1, .inl ()), (12, .ireturn, 1, .inl ())]
theorem ok_Duel_codeOf : okM H_Duel_codeOf K_Duel_codeOf = true := by decide +kernel
def K_Duel_countOpenIn : List CE := [(0, .iconst 0, 1, .inl ()), (1, .istore_n 2, 1, .inl ()), (2, .iconst 0, 1, .inl ()), (3, .istore_n 3, 1, .inl ()), (4, .iload_n 3, 1, .inl ()), (5, .aload_n 0, 1, .inl ()), (6, .getfield 49, 3, .inr (.inl (1, 10))), (9, .if_icmp .ge 46, 3, .inr (.inr (.inr 55))), (12, .iconst 0, 1, .inl ()), (13, .istore 4, 2, .inl ()), (15, .iload 4, 2, .inl ()), (17, .aload_n 0, 1, .inl ()), (18, .getfield 49, 3, .inr (.inl (1, 10))), (21, .if_icmp .ge 28, 3, .inr (.inr (.inr 49))), (24, .aload_n 0, 1, .inl ()), (25, .getfield 9, 3, .inr (.inl (1, 3))), (28, .iload_n 3, 1, .inl ()), (29, .bipush 50, 2, .inl ()), (31, .imul, 1, .inl ()), (32, .iload 4, 2, .inl ()), (34, .iadd, 1, .inl ()), (35, .iaload, 1, .inl ()), (36, .iload_n 1, 1, .inl ()), (37, .if_icmp .ne 6, 3, .inr (.inr (.inr 43))), (40, .iinc 2 1, 3, .inl ()), (43, .iinc 4 1, 3, .inl ()), (46, .goto (-31), 3, .inr (.inr (.inr 15))), (49, .iinc 3 1, 3, .inl ()), (52, .goto (-48), 3, .inr (.inr (.inr 4))), (55, .iload_n 2, 1, .inl ()), (56, .ireturn, 1, .inl ())]
theorem ok_Duel_countOpenIn : okM H_Duel_countOpenIn K_Duel_countOpenIn = true := by decide +kernel
def K_Duel_findRest : List CE := [(0, .aload_n 0, 1, .inl ()), (1, .aload_n 1, 1, .inl ()), (2, .invokevirtual 83, 3, .inr (.inr (.inr 15))), (5, .iconst 0, 1, .inl ()), (6, .istore_n 3, 1, .inl ()), (7, .iconst 0, 1, .inl ()), (8, .istore 4, 2, .inl ()), (10, .iload 4, 2, .inl ()), (12, .aload_n 0, 1, .inl ()), (13, .getfield 49, 3, .inr (.inl (1, 10))), (16, .if_icmp .ge 86, 3, .inr (.inr (.inr 102))), (19, .iconst 0, 1, .inl ()), (20, .istore 5, 2, .inl ()), (22, .iload 5, 2, .inl ()), (24, .aload_n 0, 1, .inl ()), (25, .getfield 49, 3, .inr (.inl (1, 10))), (28, .if_icmp .ge 68, 3, .inr (.inr (.inr 96))), (31, .iload 4, 2, .inl ()), (33, .bipush 50, 2, .inl ()), (35, .imul, 1, .inl ()), (36, .iload 5, 2, .inl ()), (38, .iadd, 1, .inl ()), (39, .istore 6, 2, .inl ()), (41, .aload_n 0, 1, .inl ()), (42, .aload_n 1, 1, .inl ()), (43, .iload 6, 2, .inl ()), (45, .invokevirtual 87, 3, .inr (.inr (.inr 16))), (48, .aload_n 0, 1, .inl ()), (49, .getfield 21, 3, .inr (.inl (1, 6))), (52, .iload 5, 2, .inl ()), (54, .iaload, 1, .inl ()), (55, .if_icmp .ne 35, 3, .inr (.inr (.inr 90))), (58, .aload_n 0, 1, .inl ()), (59, .aload_n 1, 1, .inl ()), (60, .iload 6, 2, .inl ()), (62, .invokevirtual 91, 3, .inr (.inr (.inr 17))), (65, .aload_n 0, 1, .inl ()), (66, .getfield 24, 3, .inr (.inl (1, 7))), (69, .iload 4, 2, .inl ()), (71, .iaload, 1, .inl ()), (72, .if_icmp .ne 18, 3, .inr (.inr (.inr 90))), (75, .iload_n 3, 1, .inl ()), (76, .iload_n 2, 1, .inl ()), (77, .if_icmp .ne 10, 3, .inr (.inr (.inr 87))), (80, .aload_n 0, 1, .inl ()), (81, .iload 6, 2, .inl ()), (83, .invokevirtual 94, 3, .inr (.inr (.inr 11))), (86, .ireturn, 1, .inl ()), (87, .iinc 3 1, 3, .inl ()), (90, .iinc 5 1, 3, .inl ()), (93, .goto (-71), 3, .inr (.inr (.inr 22))), (96, .iinc 4 1, 3, .inl ()), (99, .goto (-89), 3, .inr (.inr (.inr 10))), (102, .iload_n 2, 1, .inl ()), (103, .iconst (-1), 1, .inl ()), (104, .if_icmp .ne 7, 3, .inr (.inr (.inr 111))), (107, .iload_n 3, 1, .inl ()), (108, .goto 4, 3, .inr (.inr (.inr 112))), (111, .iconst (-1), 1, .inl ()), (112, .ireturn, 1, .inl ())]
theorem ok_Duel_findRest : okM H_Duel_findRest K_Duel_findRest = true := by decide +kernel
def K_Duel_addSpan : List CE := [(0, .iload_n 3, 1, .inl ()), (1, .bipush 9, 2, .inl ()), (3, .invokestatic 97, 3, .inr (.inl (1, 0))), (6, .istore 5, 2, .inl ()), (8, .iload_n 2, 1, .inl ()), (9, .iconst 0, 1, .inl ()), (10, .invokestatic 103, 3, .inr (.inl (0, 0))), (13, .istore 6, 2, .inl ()), (15, .iload 6, 2, .inl ()), (17, .iload 5, 2, .inl ()), (19, .if_icmp .gt 20, 3, .inr (.inr (.inr 39))), (22, .aload_n 0, 1, .inl ()), (23, .iload_n 1, 1, .inl ()), (24, .iload 6, 2, .inl ()), (26, .iadd, 1, .inl ()), (27, .dup2, 1, .inl ()), (28, .iaload, 1, .inl ()), (29, .iload 4, 2, .inl ()), (31, .iadd, 1, .inl ()), (32, .iastore, 1, .inl ()), (33, .iinc 6 1, 3, .inl ()), (36, .goto (-21), 3, .inr (.inr (.inr 15))), (39, .return_, 1, .inl ())]
theorem ok_Duel_addSpan : okM H_Duel_addSpan K_Duel_addSpan = true := by decide +kernel
def K_Duel_findMosts_0 : List CE := [(0, .iconst 0, 1, .inl ()), (1, .istore_n 2, 1, .inl ()), (2, .iload_n 2, 1, .inl ()), (3, .bipush 50, 2, .inl ()), (5, .if_icmp .ge 23, 3, .inr (.inr (.inr 28))), (8, .aload_n 0, 1, .inl ()), (9, .getfield 21, 3, .inr (.inl (1, 6))), (12, .iload_n 2, 1, .inl ()), (13, .iconst 0, 1, .inl ()), (14, .iastore, 1, .inl ()), (15, .aload_n 0, 1, .inl ()), (16, .getfield 24, 3, .inr (.inl (1, 7))), (19, .iload_n 2, 1, .inl ()), (20, .iconst 0, 1, .inl ()), (21, .iastore, 1, .inl ()), (22, .iinc 2 1, 3, .inl ()), (25, .goto (-23), 3, .inr (.inr (.inr 2))), (28, .iconst 0, 1, .inl ()), (29, .istore_n 2, 1, .inl ()), (30, .iload_n 2, 1, .inl ()), (31, .aload_n 0, 1, .inl ()), (32, .getfield 49, 3, .inr (.inl (1, 10))), (35, .if_icmp .ge 77, 3, .inr (.inr (.inr 112))), (38, .iconst 0, 1, .inl ()), (39, .istore_n 3, 1, .inl ()), (40, .iload_n 3, 1, .inl ()), (41, .aload_n 0, 1, .inl ()), (42, .getfield 49, 3, .inr (.inl (1, 10))), (45, .if_icmp .ge 61, 3, .inr (.inr (.inr 106))), (48, .iload_n 2, 1, .inl ()), (49, .bipush 50, 2, .inl ()), (51, .imul, 1, .inl ()), (52, .iload_n 3, 1, .inl ()), (53, .iadd, 1, .inl ()), (54, .istore 4, 2, .inl ()), (56, .aload_n 0, 1, .inl ()), (57, .getfield 21, 3, .inr (.inl (1, 6))), (60, .iload_n 3, 1, .inl ()), (61, .aload_n 0, 1, .inl ()), (62, .getfield 21, 3, .inr (.inl (1, 6))), (65, .iload_n 3, 1, .inl ()), (66, .iaload, 1, .inl ()), (67, .aload_n 0, 1, .inl ()), (68, .aload_n 1, 1, .inl ()), (69, .iload 4, 2, .inl ()), (71, .invokevirtual 87, 3, .inr (.inr (.inr 16))), (74, .invokestatic 103, 3, .inr (.inl (0, 0))), (77, .iastore, 1, .inl ()), (78, .aload_n 0, 1, .inl ()), (79, .getfield 24, 3, .inr (.inl (1, 7)))]
def K_Duel_findMosts_1 : List CE := [(82, .iload_n 2, 1, .inl ()), (83, .aload_n 0, 1, .inl ()), (84, .getfield 24, 3, .inr (.inl (1, 7))), (87, .iload_n 2, 1, .inl ()), (88, .iaload, 1, .inl ()), (89, .aload_n 0, 1, .inl ()), (90, .aload_n 1, 1, .inl ()), (91, .iload 4, 2, .inl ()), (93, .invokevirtual 91, 3, .inr (.inr (.inr 17))), (96, .invokestatic 103, 3, .inr (.inl (0, 0))), (99, .iastore, 1, .inl ()), (100, .iinc 3 1, 3, .inl ()), (103, .goto (-63), 3, .inr (.inr (.inr 40))), (106, .iinc 2 1, 3, .inl ()), (109, .goto (-79), 3, .inr (.inr (.inr 30))), (112, .return_, 1, .inl ())]
def K_Duel_findMosts : List CE := K_Duel_findMosts_0 ++ (K_Duel_findMosts_1)
theorem ok_Duel_findMosts : okM H_Duel_findMosts K_Duel_findMosts = true := by decide +kernel
def K_Duel_gainOfOne : List CE := [(0, .aload_n 1, 1, .inl ()), (1, .aload_n 0, 1, .inl ()), (2, .getfield 37, 3, .inr (.inl (1, 1))), (5, .aload_n 0, 1, .inl ()), (6, .getfield 9, 3, .inr (.inl (1, 3))), (9, .iload_n 2, 1, .inl ()), (10, .iaload, 1, .inl ()), (11, .aload_n 0, 1, .inl ()), (12, .getfield 15, 3, .inr (.inl (1, 4))), (15, .iload_n 2, 1, .inl ()), (16, .iaload, 1, .inl ()), (17, .invokevirtual 106, 3, .inr (.inr (.inr 31))), (20, .ireturn, 1, .inl ())]
theorem ok_Duel_gainOfOne : okM H_Duel_gainOfOne K_Duel_gainOfOne = true := by decide +kernel
def K_Duel_gainOfOther : List CE := [(0, .aload_n 1, 1, .inl ()), (1, .aload_n 0, 1, .inl ()), (2, .getfield 41, 3, .inr (.inl (1, 2))), (5, .aload_n 0, 1, .inl ()), (6, .getfield 9, 3, .inr (.inl (1, 3))), (9, .iload_n 2, 1, .inl ()), (10, .iaload, 1, .inl ()), (11, .aload_n 0, 1, .inl ()), (12, .getfield 18, 3, .inr (.inl (1, 5))), (15, .iload_n 2, 1, .inl ()), (16, .iaload, 1, .inl ()), (17, .invokevirtual 106, 3, .inr (.inr (.inr 31))), (20, .ireturn, 1, .inl ())]
theorem ok_Duel_gainOfOther : okM H_Duel_gainOfOther K_Duel_gainOfOther = true := by decide +kernel
def K_Duel_tryPlan_0 : List CE := [(0, .aload_n 1, 1, .inl ()), (1, .aload_n 0, 1, .inl ()), (2, .getfield 37, 3, .inr (.inl (1, 1))), (5, .iload_n 2, 1, .inl ()), (6, .bipush 10, 2, .inl ()), (8, .idiv, 1, .inl ()), (9, .invokevirtual 110, 3, .inr (.inr (.inr 81))), (12, .iload_n 2, 1, .inl ()), (13, .bipush 10, 2, .inl ()), (15, .irem, 1, .inl ()), (16, .iadd, 1, .inl ()), (17, .ldc 113, 2, .inr (.inr (.inl (1000000)))), (19, .invokestatic 97, 3, .inr (.inl (1, 0))), (22, .istore_n 3, 1, .inl ()), (23, .aload_n 0, 1, .inl ()), (24, .getfield 34, 3, .inr (.inl (1, 9))), (27, .aload_n 0, 1, .inl ()), (28, .getfield 30, 3, .inr (.inl (1, 8))), (31, .invokevirtual 114, 3, .inr (.inr (.inr 48))), (34, .aload_n 0, 1, .inl ()), (35, .getfield 34, 3, .inr (.inl (1, 9))), (38, .iload_n 3, 1, .inl ()), (39, .invokevirtual 118, 3, .inr (.inr (.inr 49))), (42, .aload_n 0, 1, .inl ()), (43, .getfield 34, 3, .inr (.inl (1, 9))), (46, .aload_n 1, 1, .inl ()), (47, .getfield 122, 3, .inr (.inl (10, 1))), (50, .getfield 126, 3, .inr (.inl (2, 4))), (53, .aload_n 1, 1, .inl ()), (54, .getfield 122, 3, .inr (.inl (10, 1))), (57, .getfield 129, 3, .inr (.inl (2, 5))), (60, .invokevirtual 132, 3, .inr (.inr (.inr 52))), (63, .aload_n 0, 1, .inl ()), (64, .aload_n 1, 1, .inl ()), (65, .iload_n 3, 1, .inl ()), (66, .invokevirtual 136, 3, .inr (.inr (.inr 19))), (69, .aload_n 0, 1, .inl ()), (70, .getfield 139, 3, .inr (.inl (1, 11))), (73, .aload_n 0, 1, .inl ()), (74, .getfield 41, 3, .inr (.inl (1, 2))), (77, .if_icmp .le 10, 3, .inr (.inr (.inr 87))), (80, .aload_n 0, 1, .inl ()), (81, .getfield 142, 3, .inr (.inl (1, 12))), (84, .goto 9, 3, .inr (.inr (.inr 93))), (87, .aload_n 0, 1, .inl ()), (88, .getfield 142, 3, .inr (.inl (1, 12))), (91, .iconst 1, 1, .inl ()), (92, .isub, 1, .inl ()), (93, .istore 4, 2, .inl ()), (95, .iconst 0, 1, .inl ())]
def K_Duel_tryPlan_1 : List CE := [(96, .istore 5, 2, .inl ()), (98, .iload 5, 2, .inl ()), (100, .aload_n 1, 1, .inl ()), (101, .getfield 122, 3, .inr (.inl (10, 1))), (104, .getfield 44, 3, .inr (.inl (2, 1))), (107, .if_icmp .ge 43, 3, .inr (.inr (.inr 150))), (110, .iload_n 2, 1, .inl ()), (111, .bipush 50, 2, .inl ()), (113, .imul, 1, .inl ()), (114, .iload 5, 2, .inl ()), (116, .bipush 10, 2, .inl ()), (118, .imul, 1, .inl ()), (119, .iadd, 1, .inl ()), (120, .istore 6, 2, .inl ()), (122, .aload_n 0, 1, .inl ()), (123, .iload 6, 2, .inl ()), (125, .aload_n 1, 1, .inl ()), (126, .aload_n 0, 1, .inl ()), (127, .getfield 41, 3, .inr (.inl (1, 2))), (130, .iload 5, 2, .inl ()), (132, .invokevirtual 110, 3, .inr (.inr (.inr 81))), (135, .iload 4, 2, .inl ()), (137, .aload_n 1, 1, .inl ()), (138, .getfield 145, 3, .inr (.inl (10, 2))), (141, .invokevirtual 148, 3, .inr (.inr (.inr 20))), (144, .iinc 5 1, 3, .inl ()), (147, .goto (-49), 3, .inr (.inr (.inr 98))), (150, .return_, 1, .inl ())]
def K_Duel_tryPlan : List CE := K_Duel_tryPlan_0 ++ (K_Duel_tryPlan_1)
theorem ok_Duel_tryPlan : okM H_Duel_tryPlan K_Duel_tryPlan = true := by decide +kernel
def K_Duel_findFirst : List CE := [(0, .aload_n 0, 1, .inl ()), (1, .iconst (-1), 1, .inl ()), (2, .putfield 139, 3, .inr (.inl (1, 11))), (5, .aload_n 0, 1, .inl ()), (6, .ldc 113, 2, .inr (.inr (.inl (1000000)))), (8, .putfield 142, 3, .inr (.inl (1, 12))), (11, .iconst 0, 1, .inl ()), (12, .istore_n 3, 1, .inl ()), (13, .iload_n 3, 1, .inl ()), (14, .aload_n 1, 1, .inl ()), (15, .getfield 122, 3, .inr (.inl (10, 1))), (18, .getfield 65, 3, .inr (.inl (2, 0))), (21, .if_icmp .ge 57, 3, .inr (.inr (.inr 78))), (24, .iload_n 3, 1, .inl ()), (25, .aload_n 0, 1, .inl ()), (26, .getfield 37, 3, .inr (.inl (1, 1))), (29, .if_icmp .ne 7, 3, .inr (.inr (.inr 36))), (32, .iload_n 2, 1, .inl ()), (33, .goto 9, 3, .inr (.inr (.inr 42))), (36, .aload_n 1, 1, .inl ()), (37, .getfield 62, 3, .inr (.inl (10, 8))), (40, .iload_n 3, 1, .inl ()), (41, .iaload, 1, .inl ()), (42, .istore 4, 2, .inl ()), (44, .iload_n 3, 1, .inl ()), (45, .aload_n 0, 1, .inl ()), (46, .getfield 41, 3, .inr (.inl (1, 2))), (49, .if_icmp .eq 23, 3, .inr (.inr (.inr 72))), (52, .iload 4, 2, .inl ()), (54, .aload_n 0, 1, .inl ()), (55, .getfield 142, 3, .inr (.inl (1, 12))), (58, .if_icmp .ge 14, 3, .inr (.inr (.inr 72))), (61, .aload_n 0, 1, .inl ()), (62, .iload_n 3, 1, .inl ()), (63, .putfield 139, 3, .inr (.inl (1, 11))), (66, .aload_n 0, 1, .inl ()), (67, .iload 4, 2, .inl ()), (69, .putfield 142, 3, .inr (.inl (1, 12))), (72, .iinc 3 1, 3, .inl ()), (75, .goto (-62), 3, .inr (.inr (.inr 13))), (78, .return_, 1, .inl ())]
theorem ok_Duel_findFirst : okM H_Duel_findFirst K_Duel_findFirst = true := by decide +kernel
def K_Duel_addWay_0 : List CE := [(0, .aload_n 0, 1, .inl ()), (1, .getfield 139, 3, .inr (.inl (1, 11))), (4, .aload_n 0, 1, .inl ()), (5, .getfield 37, 3, .inr (.inl (1, 1))), (8, .if_icmp .ne 7, 3, .inr (.inr (.inr 15))), (11, .iconst 1, 1, .inl ()), (12, .goto 4, 3, .inr (.inr (.inr 16))), (15, .iconst 0, 1, .inl ()), (16, .istore 5, 2, .inl ()), (18, .aload_n 0, 1, .inl ()), (19, .getfield 18, 3, .inr (.inl (1, 5))), (22, .iload_n 1, 1, .inl ()), (23, .ldc 152, 2, .inr (.inr (.inl (-1000000)))), (25, .iload_n 3, 1, .inl ()), (26, .iload_n 2, 1, .inl ()), (27, .isub, 1, .inl ()), (28, .iload 4, 2, .inl ()), (30, .invokestatic 153, 3, .inr (.inr (.inr 14))), (33, .iload 5, 2, .inl ()), (35, .ifCond .eq 20, 3, .inr (.inr (.inr 55))), (38, .aload_n 0, 1, .inl ()), (39, .getfield 15, 3, .inr (.inl (1, 4))), (42, .iload_n 1, 1, .inl ()), (43, .iload_n 3, 1, .inl ()), (44, .iconst 1, 1, .inl ()), (45, .iadd, 1, .inl ()), (46, .iload_n 2, 1, .inl ()), (47, .isub, 1, .inl ()), (48, .ldc 113, 2, .inr (.inr (.inl (1000000)))), (50, .iload 4, 2, .inl ()), (52, .invokestatic 153, 3, .inr (.inr (.inr 14))), (55, .iconst 0, 1, .inl ()), (56, .istore 6, 2, .inl ()), (58, .iload 6, 2, .inl ()), (60, .aload_n 0, 1, .inl ()), (61, .getfield 34, 3, .inr (.inl (1, 9))), (64, .getfield 157, 3, .inr (.inl (6, 4))), (67, .if_icmp .ge 100, 3, .inr (.inr (.inr 167))), (70, .aload_n 0, 1, .inl ()), (71, .getfield 34, 3, .inr (.inl (1, 9))), (74, .getfield 160, 3, .inr (.inl (6, 2))), (77, .iload 6, 2, .inl ()), (79, .iaload, 1, .inl ()), (80, .iload_n 2, 1, .inl ()), (81, .isub, 1, .inl ()), (82, .istore 7, 2, .inl ()), (84, .aload_n 0, 1, .inl ()), (85, .getfield 34, 3, .inr (.inl (1, 9))), (88, .getfield 163, 3, .inr (.inl (6, 3))), (91, .iload 6, 2, .inl ())]
def K_Duel_addWay_1 : List CE := [(93, .iaload, 1, .inl ()), (94, .iload_n 2, 1, .inl ()), (95, .isub, 1, .inl ()), (96, .istore 8, 2, .inl ()), (98, .aload_n 0, 1, .inl ()), (99, .getfield 9, 3, .inr (.inl (1, 3))), (102, .iload_n 1, 1, .inl ()), (103, .iload 7, 2, .inl ()), (105, .iload 8, 2, .inl ()), (107, .iload 4, 2, .inl ()), (109, .invokestatic 153, 3, .inr (.inr (.inr 14))), (112, .aload_n 0, 1, .inl ()), (113, .getfield 18, 3, .inr (.inl (1, 5))), (116, .iload_n 1, 1, .inl ()), (117, .iload 7, 2, .inl ()), (119, .iload 8, 2, .inl ()), (121, .iload_n 3, 1, .inl ()), (122, .iload_n 2, 1, .inl ()), (123, .isub, 1, .inl ()), (124, .invokestatic 97, 3, .inr (.inl (1, 0))), (127, .iload 4, 2, .inl ()), (129, .ineg, 1, .inl ()), (130, .invokestatic 153, 3, .inr (.inr (.inr 14))), (133, .iload 5, 2, .inl ()), (135, .ifCond .eq 26, 3, .inr (.inr (.inr 161))), (138, .aload_n 0, 1, .inl ()), (139, .getfield 15, 3, .inr (.inl (1, 4))), (142, .iload_n 1, 1, .inl ()), (143, .iload 7, 2, .inl ()), (145, .iload_n 3, 1, .inl ()), (146, .iconst 1, 1, .inl ()), (147, .iadd, 1, .inl ()), (148, .iload_n 2, 1, .inl ()), (149, .isub, 1, .inl ()), (150, .invokestatic 103, 3, .inr (.inl (0, 0))), (153, .iload 8, 2, .inl ()), (155, .iload 4, 2, .inl ()), (157, .ineg, 1, .inl ()), (158, .invokestatic 153, 3, .inr (.inr (.inr 14))), (161, .iinc 6 1, 3, .inl ()), (164, .goto (-106), 3, .inr (.inr (.inr 58))), (167, .return_, 1, .inl ())]
def K_Duel_addWay : List CE := K_Duel_addWay_0 ++ (K_Duel_addWay_1)
theorem ok_Duel_addWay : okM H_Duel_addWay K_Duel_addWay = true := by decide +kernel
def K_Land_clear : List CE := [(0, .aload_n 0, 1, .inl ()), (1, .iconst 0, 1, .inl ()), (2, .putfield 33, 3, .inr (.inl (2, 0))), (5, .aload_n 0, 1, .inl ()), (6, .iconst 0, 1, .inl ()), (7, .putfield 37, 3, .inr (.inl (2, 1))), (10, .aload_n 0, 1, .inl ()), (11, .iconst 0, 1, .inl ()), (12, .putfield 40, 3, .inr (.inl (2, 2))), (15, .aload_n 0, 1, .inl ()), (16, .iconst 0, 1, .inl ()), (17, .putfield 43, 3, .inr (.inl (2, 3))), (20, .aload_n 0, 1, .inl ()), (21, .getstatic 46, 3, .inr (.inr (.inr 0))), (24, .bipush 12, 2, .inl ()), (26, .iaload, 1, .inl ()), (27, .putfield 49, 3, .inr (.inl (2, 4))), (30, .aload_n 0, 1, .inl ()), (31, .getstatic 46, 3, .inr (.inr (.inr 0))), (34, .bipush 13, 2, .inl ()), (36, .iaload, 1, .inl ()), (37, .putfield 52, 3, .inr (.inl (2, 5))), (40, .aload_n 0, 1, .inl ()), (41, .iconst 0, 1, .inl ()), (42, .putfield 55, 3, .inr (.inl (2, 6))), (45, .aload_n 0, 1, .inl ()), (46, .iconst 0, 1, .inl ()), (47, .putfield 59, 3, .inr (.inl (2, 7))), (50, .iconst 0, 1, .inl ()), (51, .istore_n 1, 1, .inl ()), (52, .iload_n 1, 1, .inl ()), (53, .aload_n 0, 1, .inl ()), (54, .getfield 30, 3, .inr (.inl (2, 14))), (57, .arraylength, 1, .inl ()), (58, .if_icmp .ge 17, 3, .inr (.inr (.inr 75))), (61, .aload_n 0, 1, .inl ()), (62, .getfield 30, 3, .inr (.inl (2, 14))), (65, .iload_n 1, 1, .inl ()), (66, .ldc 62, 2, .inr (.inr (.inl (2000000)))), (68, .iastore, 1, .inl ()), (69, .iinc 1 1, 3, .inl ()), (72, .goto (-20), 3, .inr (.inr (.inr 52))), (75, .return_, 1, .inl ())]
theorem ok_Land_clear : okM H_Land_clear K_Land_clear = true := by decide +kernel
def K_Land_copy_0 : List CE := [(0, .aload_n 0, 1, .inl ()), (1, .aload_n 1, 1, .inl ()), (2, .getfield 33, 3, .inr (.inl (2, 0))), (5, .putfield 33, 3, .inr (.inl (2, 0))), (8, .aload_n 0, 1, .inl ()), (9, .aload_n 1, 1, .inl ()), (10, .getfield 37, 3, .inr (.inl (2, 1))), (13, .putfield 37, 3, .inr (.inl (2, 1))), (16, .aload_n 0, 1, .inl ()), (17, .aload_n 1, 1, .inl ()), (18, .getfield 40, 3, .inr (.inl (2, 2))), (21, .putfield 40, 3, .inr (.inl (2, 2))), (24, .aload_n 0, 1, .inl ()), (25, .aload_n 1, 1, .inl ()), (26, .getfield 43, 3, .inr (.inl (2, 3))), (29, .putfield 43, 3, .inr (.inl (2, 3))), (32, .aload_n 0, 1, .inl ()), (33, .aload_n 1, 1, .inl ()), (34, .getfield 49, 3, .inr (.inl (2, 4))), (37, .putfield 49, 3, .inr (.inl (2, 4))), (40, .aload_n 0, 1, .inl ()), (41, .aload_n 1, 1, .inl ()), (42, .getfield 52, 3, .inr (.inl (2, 5))), (45, .putfield 52, 3, .inr (.inl (2, 5))), (48, .aload_n 0, 1, .inl ()), (49, .aload_n 1, 1, .inl ()), (50, .getfield 55, 3, .inr (.inl (2, 6))), (53, .putfield 55, 3, .inr (.inl (2, 6))), (56, .aload_n 0, 1, .inl ()), (57, .aload_n 1, 1, .inl ()), (58, .getfield 59, 3, .inr (.inl (2, 7))), (61, .putfield 59, 3, .inr (.inl (2, 7))), (64, .aload_n 1, 1, .inl ()), (65, .getfield 9, 3, .inr (.inl (2, 8))), (68, .iconst 0, 1, .inl ()), (69, .aload_n 0, 1, .inl ()), (70, .getfield 9, 3, .inr (.inl (2, 8))), (73, .iconst 0, 1, .inl ()), (74, .iconst 4, 1, .inl ()), (75, .invokestatic 63, 3, .inl ()), (78, .aload_n 1, 1, .inl ()), (79, .getfield 15, 3, .inr (.inl (2, 9))), (82, .iconst 0, 1, .inl ()), (83, .aload_n 0, 1, .inl ()), (84, .getfield 15, 3, .inr (.inl (2, 9))), (87, .iconst 0, 1, .inl ()), (88, .iconst 4, 1, .inl ()), (89, .invokestatic 63, 3, .inl ()), (92, .aload_n 1, 1, .inl ()), (93, .getfield 18, 3, .inr (.inl (2, 10)))]
def K_Land_copy_1 : List CE := [(96, .iconst 0, 1, .inl ()), (97, .aload_n 0, 1, .inl ()), (98, .getfield 18, 3, .inr (.inl (2, 10))), (101, .iconst 0, 1, .inl ()), (102, .iconst 5, 1, .inl ()), (103, .invokestatic 63, 3, .inl ()), (106, .aload_n 1, 1, .inl ()), (107, .getfield 21, 3, .inr (.inl (2, 11))), (110, .iconst 0, 1, .inl ()), (111, .aload_n 0, 1, .inl ()), (112, .getfield 21, 3, .inr (.inl (2, 11))), (115, .iconst 0, 1, .inl ()), (116, .iconst 5, 1, .inl ()), (117, .invokestatic 63, 3, .inl ()), (120, .aload_n 1, 1, .inl ()), (121, .getfield 24, 3, .inr (.inl (2, 12))), (124, .iconst 0, 1, .inl ()), (125, .aload_n 0, 1, .inl ()), (126, .getfield 24, 3, .inr (.inl (2, 12))), (129, .iconst 0, 1, .inl ()), (130, .iconst 5, 1, .inl ()), (131, .invokestatic 63, 3, .inl ()), (134, .aload_n 1, 1, .inl ()), (135, .getfield 27, 3, .inr (.inl (2, 13))), (138, .iconst 0, 1, .inl ()), (139, .aload_n 0, 1, .inl ()), (140, .getfield 27, 3, .inr (.inl (2, 13))), (143, .iconst 0, 1, .inl ()), (144, .iconst 5, 1, .inl ()), (145, .invokestatic 63, 3, .inl ()), (148, .aload_n 1, 1, .inl ()), (149, .getfield 30, 3, .inr (.inl (2, 14))), (152, .iconst 0, 1, .inl ()), (153, .aload_n 0, 1, .inl ()), (154, .getfield 30, 3, .inr (.inl (2, 14))), (157, .iconst 0, 1, .inl ()), (158, .bipush 20, 2, .inl ()), (160, .invokestatic 63, 3, .inl ()), (163, .return_, 1, .inl ())]
def K_Land_copy : List CE := K_Land_copy_0 ++ (K_Land_copy_1)
theorem ok_Land_copy : okM H_Land_copy K_Land_copy = true := by decide +kernel
def K_Land_isFull : List CE := [(0, .iload_n 1, 1, .inl ()), (1, .tableswitch 70 0 2 #[27, 41, 55], 27, .inl ()), (28, .aload_n 0, 1, .inl ()), (29, .getfield 33, 3, .inr (.inl (2, 0))), (32, .iconst 4, 1, .inl ()), (33, .if_icmp .lt 7, 3, .inr (.inr (.inr 40))), (36, .iconst 1, 1, .inl ()), (37, .goto 4, 3, .inr (.inr (.inr 41))), (40, .iconst 0, 1, .inl ()), (41, .ireturn, 1, .inl ()), (42, .aload_n 0, 1, .inl ()), (43, .getfield 37, 3, .inr (.inl (2, 1))), (46, .iconst 5, 1, .inl ()), (47, .if_icmp .lt 7, 3, .inr (.inr (.inr 54))), (50, .iconst 1, 1, .inl ()), (51, .goto 4, 3, .inr (.inr (.inr 55))), (54, .iconst 0, 1, .inl ()), (55, .ireturn, 1, .inl ()), (56, .aload_n 0, 1, .inl ()), (57, .getfield 40, 3, .inr (.inl (2, 2))), (60, .bipush 12, 2, .inl ()), (62, .if_icmp .lt 7, 3, .inr (.inr (.inr 69))), (65, .iconst 1, 1, .inl ()), (66, .goto 4, 3, .inr (.inr (.inr 70))), (69, .iconst 0, 1, .inl ()), (70, .ireturn, 1, .inl ()), (71, .aload_n 0, 1, .inl ()), (72, .getfield 43, 3, .inr (.inl (2, 3))), (75, .iconst 1, 1, .inl ()), (76, .if_icmp .lt 7, 3, .inr (.inr (.inr 83))), (79, .iconst 1, 1, .inl ()), (80, .goto 4, 3, .inr (.inr (.inr 84))), (83, .iconst 0, 1, .inl ()), (84, .ireturn, 1, .inl ())]
theorem ok_Land_isFull : okM H_Land_isFull K_Land_isFull = true := by decide +kernel
def K_Land_take_0 : List CE := [(0, .aload_n 0, 1, .inl ()), (1, .iload_n 1, 1, .inl ()), (2, .invokevirtual 69, 3, .inr (.inr (.inr 23))), (5, .ifCond .eq 4, 3, .inr (.inr (.inr 9))), (8, .return_, 1, .inl ()), (9, .iload_n 1, 1, .inl ()), (10, .ifCond .ne 40, 3, .inr (.inr (.inr 50))), (13, .aload_n 0, 1, .inl ()), (14, .getfield 9, 3, .inr (.inl (2, 8))), (17, .aload_n 0, 1, .inl ()), (18, .getfield 33, 3, .inr (.inl (2, 0))), (21, .aload_n 2, 1, .inl ()), (22, .iconst 0, 1, .inl ()), (23, .iaload, 1, .inl ()), (24, .iastore, 1, .inl ()), (25, .aload_n 0, 1, .inl ()), (26, .getfield 15, 3, .inr (.inl (2, 9))), (29, .aload_n 0, 1, .inl ()), (30, .getfield 33, 3, .inr (.inl (2, 0))), (33, .aload_n 2, 1, .inl ()), (34, .iconst 1, 1, .inl ()), (35, .iaload, 1, .inl ()), (36, .iastore, 1, .inl ()), (37, .aload_n 0, 1, .inl ()), (38, .dup, 1, .inl ()), (39, .getfield 33, 3, .inr (.inl (2, 0))), (42, .iconst 1, 1, .inl ()), (43, .iadd, 1, .inl ()), (44, .putfield 33, 3, .inr (.inl (2, 0))), (47, .goto 155, 3, .inr (.inr (.inr 202))), (50, .iload_n 1, 1, .inl ()), (51, .iconst 1, 1, .inl ()), (52, .if_icmp .ne 64, 3, .inr (.inr (.inr 116))), (55, .aload_n 0, 1, .inl ()), (56, .getfield 18, 3, .inr (.inl (2, 10))), (59, .aload_n 0, 1, .inl ()), (60, .getfield 37, 3, .inr (.inl (2, 1))), (63, .aload_n 2, 1, .inl ()), (64, .iconst 0, 1, .inl ()), (65, .iaload, 1, .inl ()), (66, .iastore, 1, .inl ()), (67, .aload_n 0, 1, .inl ()), (68, .getfield 21, 3, .inr (.inl (2, 11))), (71, .aload_n 0, 1, .inl ()), (72, .getfield 37, 3, .inr (.inl (2, 1))), (75, .aload_n 2, 1, .inl ()), (76, .iconst 1, 1, .inl ()), (77, .iaload, 1, .inl ()), (78, .iastore, 1, .inl ()), (79, .aload_n 0, 1, .inl ())]
def K_Land_take_1 : List CE := [(80, .getfield 24, 3, .inr (.inl (2, 12))), (83, .aload_n 0, 1, .inl ()), (84, .getfield 37, 3, .inr (.inl (2, 1))), (87, .aload_n 2, 1, .inl ()), (88, .iconst 2, 1, .inl ()), (89, .iaload, 1, .inl ()), (90, .iastore, 1, .inl ()), (91, .aload_n 0, 1, .inl ()), (92, .getfield 27, 3, .inr (.inl (2, 13))), (95, .aload_n 0, 1, .inl ()), (96, .getfield 37, 3, .inr (.inl (2, 1))), (99, .aload_n 2, 1, .inl ()), (100, .iconst 3, 1, .inl ()), (101, .iaload, 1, .inl ()), (102, .iastore, 1, .inl ()), (103, .aload_n 0, 1, .inl ()), (104, .dup, 1, .inl ()), (105, .getfield 37, 3, .inr (.inl (2, 1))), (108, .iconst 1, 1, .inl ()), (109, .iadd, 1, .inl ()), (110, .putfield 37, 3, .inr (.inl (2, 1))), (113, .goto 89, 3, .inr (.inr (.inr 202))), (116, .iload_n 1, 1, .inl ()), (117, .iconst 2, 1, .inl ()), (118, .if_icmp .ne 60, 3, .inr (.inr (.inr 178))), (121, .aload_n 2, 1, .inl ()), (122, .iconst 1, 1, .inl ()), (123, .iaload, 1, .inl ()), (124, .iconst 5, 1, .inl ()), (125, .imul, 1, .inl ()), (126, .aload_n 2, 1, .inl ()), (127, .iconst 0, 1, .inl ()), (128, .iaload, 1, .inl ()), (129, .iadd, 1, .inl ()), (130, .istore_n 3, 1, .inl ()), (131, .aload_n 0, 1, .inl ()), (132, .dup, 1, .inl ()), (133, .getfield 55, 3, .inr (.inl (2, 6))), (136, .aload_n 0, 1, .inl ()), (137, .getfield 30, 3, .inr (.inl (2, 14))), (140, .iload_n 3, 1, .inl ()), (141, .iaload, 1, .inl ()), (142, .ldc 62, 2, .inr (.inr (.inl (2000000)))), (144, .if_icmp .eq 7, 3, .inr (.inr (.inr 151))), (147, .iconst 1, 1, .inl ()), (148, .goto 4, 3, .inr (.inr (.inr 152))), (151, .iconst 0, 1, .inl ()), (152, .ior, 1, .inl ()), (153, .putfield 55, 3, .inr (.inl (2, 6))), (156, .aload_n 0, 1, .inl ())]
def K_Land_take_2 : List CE := [(157, .getfield 30, 3, .inr (.inl (2, 14))), (160, .iload_n 3, 1, .inl ()), (161, .aload_n 2, 1, .inl ()), (162, .iconst 2, 1, .inl ()), (163, .iaload, 1, .inl ()), (164, .iastore, 1, .inl ()), (165, .aload_n 0, 1, .inl ()), (166, .dup, 1, .inl ()), (167, .getfield 40, 3, .inr (.inl (2, 2))), (170, .iconst 1, 1, .inl ()), (171, .iadd, 1, .inl ()), (172, .putfield 40, 3, .inr (.inl (2, 2))), (175, .goto 27, 3, .inr (.inr (.inr 202))), (178, .aload_n 0, 1, .inl ()), (179, .aload_n 2, 1, .inl ()), (180, .iconst 0, 1, .inl ()), (181, .iaload, 1, .inl ()), (182, .putfield 49, 3, .inr (.inl (2, 4))), (185, .aload_n 0, 1, .inl ()), (186, .aload_n 2, 1, .inl ()), (187, .iconst 1, 1, .inl ()), (188, .iaload, 1, .inl ()), (189, .putfield 52, 3, .inr (.inl (2, 5))), (192, .aload_n 0, 1, .inl ()), (193, .dup, 1, .inl ()), (194, .getfield 43, 3, .inr (.inl (2, 3))), (197, .iconst 1, 1, .inl ()), (198, .iadd, 1, .inl ()), (199, .putfield 43, 3, .inr (.inl (2, 3))), (202, .return_, 1, .inl ())]
def K_Land_take : List CE := K_Land_take_0 ++ (K_Land_take_1 ++ (K_Land_take_2))
theorem ok_Land_take : okM H_Land_take K_Land_take = true := by decide +kernel
def K_Land_isWhole_0 : List CE := [(0, .aload_n 0, 1, .inl ()), (1, .getfield 33, 3, .inr (.inl (2, 0))), (4, .iconst 2, 1, .inl ()), (5, .if_icmp .lt 18, 3, .inr (.inr (.inr 23))), (8, .aload_n 0, 1, .inl ()), (9, .getfield 37, 3, .inr (.inl (2, 1))), (12, .iconst 1, 1, .inl ()), (13, .if_icmp .lt 10, 3, .inr (.inr (.inr 23))), (16, .aload_n 0, 1, .inl ()), (17, .getfield 55, 3, .inr (.inl (2, 6))), (20, .ifCond .eq 5, 3, .inr (.inr (.inr 25))), (23, .iconst 0, 1, .inl ()), (24, .ireturn, 1, .inl ()), (25, .iconst 0, 1, .inl ()), (26, .istore_n 1, 1, .inl ()), (27, .iload_n 1, 1, .inl ()), (28, .aload_n 0, 1, .inl ()), (29, .getfield 37, 3, .inr (.inl (2, 1))), (32, .if_icmp .ge 33, 3, .inr (.inr (.inr 65))), (35, .aload_n 0, 1, .inl ()), (36, .getfield 24, 3, .inr (.inl (2, 12))), (39, .iload_n 1, 1, .inl ()), (40, .iaload, 1, .inl ()), (41, .ifCond .lt 18, 3, .inr (.inr (.inr 59))), (44, .aload_n 0, 1, .inl ()), (45, .getfield 27, 3, .inr (.inl (2, 13))), (48, .iload_n 1, 1, .inl ()), (49, .iaload, 1, .inl ()), (50, .aload_n 0, 1, .inl ()), (51, .getfield 33, 3, .inr (.inl (2, 0))), (54, .if_icmp .lt 5, 3, .inr (.inr (.inr 59))), (57, .iconst 0, 1, .inl ()), (58, .ireturn, 1, .inl ()), (59, .iinc 1 1, 3, .inl ()), (62, .goto (-35), 3, .inr (.inr (.inr 27))), (65, .iconst 0, 1, .inl ()), (66, .istore_n 1, 1, .inl ()), (67, .iload_n 1, 1, .inl ()), (68, .aload_n 0, 1, .inl ()), (69, .getfield 30, 3, .inr (.inl (2, 14))), (72, .arraylength, 1, .inl ()), (73, .if_icmp .ge 52, 3, .inr (.inr (.inr 125))), (76, .iload_n 1, 1, .inl ()), (77, .iconst 5, 1, .inl ()), (78, .idiv, 1, .inl ()), (79, .aload_n 0, 1, .inl ()), (80, .getfield 33, 3, .inr (.inl (2, 0))), (83, .if_icmp .ge 17, 3, .inr (.inr (.inr 100))), (86, .iload_n 1, 1, .inl ()), (87, .iconst 5, 1, .inl ())]
def K_Land_isWhole_1 : List CE := [(88, .irem, 1, .inl ()), (89, .aload_n 0, 1, .inl ()), (90, .getfield 37, 3, .inr (.inl (2, 1))), (93, .if_icmp .ge 7, 3, .inr (.inr (.inr 100))), (96, .iconst 1, 1, .inl ()), (97, .goto 4, 3, .inr (.inr (.inr 101))), (100, .iconst 0, 1, .inl ()), (101, .istore_n 2, 1, .inl ()), (102, .iload_n 2, 1, .inl ()), (103, .ifCond .ne 16, 3, .inr (.inr (.inr 119))), (106, .aload_n 0, 1, .inl ()), (107, .getfield 30, 3, .inr (.inl (2, 14))), (110, .iload_n 1, 1, .inl ()), (111, .iaload, 1, .inl ()), (112, .ldc 62, 2, .inr (.inr (.inl (2000000)))), (114, .if_icmp .eq 5, 3, .inr (.inr (.inr 119))), (117, .iconst 0, 1, .inl ()), (118, .ireturn, 1, .inl ()), (119, .iinc 1 1, 3, .inl ()), (122, .goto (-55), 3, .inr (.inr (.inr 67))), (125, .iconst 1, 1, .inl ()), (126, .ireturn, 1, .inl ())]
def K_Land_isWhole : List CE := K_Land_isWhole_0 ++ (K_Land_isWhole_1)
theorem ok_Land_isWhole : okM H_Land_isWhole K_Land_isWhole = true := by decide +kernel
def K_Land_allWays : List CE := [(0, .iconst 1, 1, .inl ()), (1, .istore_n 1, 1, .inl ()), (2, .iconst 0, 1, .inl ()), (3, .istore_n 2, 1, .inl ()), (4, .iload_n 2, 1, .inl ()), (5, .aload_n 0, 1, .inl ()), (6, .getfield 37, 3, .inr (.inl (2, 1))), (9, .if_icmp .ge 22, 3, .inr (.inr (.inr 31))), (12, .iload_n 1, 1, .inl ()), (13, .iconst 2, 1, .inl ()), (14, .aload_n 0, 1, .inl ()), (15, .getfield 21, 3, .inr (.inl (2, 11))), (18, .iload_n 2, 1, .inl ()), (19, .iaload, 1, .inl ()), (20, .imul, 1, .inl ()), (21, .iconst 1, 1, .inl ()), (22, .iadd, 1, .inl ()), (23, .imul, 1, .inl ()), (24, .istore_n 1, 1, .inl ()), (25, .iinc 2 1, 3, .inl ()), (28, .goto (-24), 3, .inr (.inr (.inr 4))), (31, .iload_n 1, 1, .inl ()), (32, .ireturn, 1, .inl ())]
theorem ok_Land_allWays : okM H_Land_allWays K_Land_allWays = true := by decide +kernel
def K_Land_heardBy : List CE := [(0, .iconst 0, 1, .inl ()), (1, .istore_n 2, 1, .inl ()), (2, .iconst 0, 1, .inl ()), (3, .istore_n 3, 1, .inl ()), (4, .iload_n 3, 1, .inl ()), (5, .aload_n 0, 1, .inl ()), (6, .getfield 37, 3, .inr (.inl (2, 1))), (9, .if_icmp .ge 30, 3, .inr (.inr (.inr 39))), (12, .aload_n 0, 1, .inl ()), (13, .getfield 30, 3, .inr (.inl (2, 14))), (16, .iload_n 1, 1, .inl ()), (17, .iconst 5, 1, .inl ()), (18, .imul, 1, .inl ()), (19, .iload_n 3, 1, .inl ()), (20, .iadd, 1, .inl ()), (21, .iaload, 1, .inl ()), (22, .ldc 62, 2, .inr (.inr (.inl (2000000)))), (24, .if_icmp .eq 9, 3, .inr (.inr (.inr 33))), (27, .iload_n 2, 1, .inl ()), (28, .iconst 1, 1, .inl ()), (29, .iload_n 3, 1, .inl ()), (30, .ishl, 1, .inl ()), (31, .ior, 1, .inl ()), (32, .istore_n 2, 1, .inl ()), (33, .iinc 3 1, 3, .inl ()), (36, .goto (-32), 3, .inr (.inr (.inr 4))), (39, .iload_n 2, 1, .inl ()), (40, .ireturn, 1, .inl ())]
theorem ok_Land_heardBy : okM H_Land_heardBy K_Land_heardBy = true := by decide +kernel
def K_Land_makeDeaf : List CE := [(0, .iconst 0, 1, .inl ()), (1, .istore_n 2, 1, .inl ()), (2, .iload_n 2, 1, .inl ()), (3, .iconst 5, 1, .inl ()), (4, .if_icmp .ge 21, 3, .inr (.inr (.inr 25))), (7, .aload_n 0, 1, .inl ()), (8, .getfield 30, 3, .inr (.inl (2, 14))), (11, .iload_n 1, 1, .inl ()), (12, .iconst 5, 1, .inl ()), (13, .imul, 1, .inl ()), (14, .iload_n 2, 1, .inl ()), (15, .iadd, 1, .inl ()), (16, .ldc 62, 2, .inr (.inr (.inl (2000000)))), (18, .iastore, 1, .inl ()), (19, .iinc 2 1, 3, .inl ()), (22, .goto (-20), 3, .inr (.inr (.inr 2))), (25, .return_, 1, .inl ())]
theorem ok_Land_makeDeaf : okM H_Land_makeDeaf K_Land_makeDeaf = true := by decide +kernel
def K_Land_countAhead : List CE := [(0, .iconst 0, 1, .inl ()), (1, .istore_n 2, 1, .inl ()), (2, .aload_n 0, 1, .inl ()), (3, .getfield 24, 3, .inr (.inl (2, 12))), (6, .iload_n 1, 1, .inl ()), (7, .iaload, 1, .inl ()), (8, .istore_n 3, 1, .inl ()), (9, .iconst 0, 1, .inl ()), (10, .istore 4, 2, .inl ()), (12, .iload 4, 2, .inl ()), (14, .iconst 5, 1, .inl ()), (15, .if_icmp .ge 23, 3, .inr (.inr (.inr 38))), (18, .iload_n 3, 1, .inl ()), (19, .ifCond .lt 19, 3, .inr (.inr (.inr 38))), (22, .iinc 2 1, 3, .inl ()), (25, .aload_n 0, 1, .inl ()), (26, .getfield 24, 3, .inr (.inl (2, 12))), (29, .iload_n 3, 1, .inl ()), (30, .iaload, 1, .inl ()), (31, .istore_n 3, 1, .inl ()), (32, .iinc 4 1, 3, .inl ()), (35, .goto (-23), 3, .inr (.inr (.inr 12))), (38, .iload_n 2, 1, .inl ()), (39, .ireturn, 1, .inl ())]
theorem ok_Land_countAhead : okM H_Land_countAhead K_Land_countAhead = true := by decide +kernel
def K_Land_timeOf : List CE := [(0, .aload_n 0, 1, .inl ()), (1, .getfield 24, 3, .inr (.inl (2, 12))), (4, .iload_n 1, 1, .inl ()), (5, .iaload, 1, .inl ()), (6, .istore 4, 2, .inl ()), (8, .iload 4, 2, .inl ()), (10, .ifCond .ge 7, 3, .inr (.inr (.inr 17))), (13, .iconst 0, 1, .inl ()), (14, .goto 24, 3, .inr (.inr (.inr 38))), (17, .aload_n 2, 1, .inl ()), (18, .iload 4, 2, .inl ()), (20, .iaload, 1, .inl ()), (21, .aload_n 0, 1, .inl ()), (22, .getfield 30, 3, .inr (.inl (2, 14))), (25, .aload_n 0, 1, .inl ()), (26, .getfield 27, 3, .inr (.inl (2, 13))), (29, .iload_n 1, 1, .inl ()), (30, .iaload, 1, .inl ()), (31, .iconst 5, 1, .inl ()), (32, .imul, 1, .inl ()), (33, .iload 4, 2, .inl ()), (35, .iadd, 1, .inl ()), (36, .iaload, 1, .inl ()), (37, .iadd, 1, .inl ()), (38, .istore 5, 2, .inl ()), (40, .iload 5, 2, .inl ()), (42, .ldc 73, 2, .inr (.inr (.inl (1000000)))), (44, .if_icmp .ge 14, 3, .inr (.inr (.inr 58))), (47, .aload_n 0, 1, .inl ()), (48, .getfield 59, 3, .inr (.inl (2, 7))), (51, .iload_n 1, 1, .inl ()), (52, .ishr, 1, .inl ()), (53, .iconst 1, 1, .inl ()), (54, .iand, 1, .inl ()), (55, .ifCond .eq 7, 3, .inr (.inr (.inr 62))), (58, .iconst 1, 1, .inl ()), (59, .goto 4, 3, .inr (.inr (.inr 63))), (62, .iconst 0, 1, .inl ()), (63, .istore 6, 2, .inl ()), (65, .iload 6, 2, .inl ()), (67, .ifCond .eq 8, 3, .inr (.inr (.inr 75))), (70, .ldc 73, 2, .inr (.inr (.inl (1000000)))), (72, .goto 14, 3, .inr (.inr (.inr 86))), (75, .iload 5, 2, .inl ()), (77, .aload_n 0, 1, .inl ()), (78, .getfield 18, 3, .inr (.inl (2, 10))), (81, .iload_n 1, 1, .inl ()), (82, .iaload, 1, .inl ()), (83, .iadd, 1, .inl ()), (84, .iload_n 3, 1, .inl ()), (85, .iadd, 1, .inl ()), (86, .ireturn, 1, .inl ())]
theorem ok_Land_timeOf : okM H_Land_timeOf K_Land_timeOf = true := by decide +kernel
def K_Land_gainOf : List CE := [(0, .aload_n 0, 1, .inl ()), (1, .getfield 9, 3, .inr (.inl (2, 8))), (4, .iload_n 1, 1, .inl ()), (5, .iaload, 1, .inl ()), (6, .iload_n 2, 1, .inl ()), (7, .imul, 1, .inl ()), (8, .aload_n 0, 1, .inl ()), (9, .getfield 15, 3, .inr (.inl (2, 9))), (12, .iload_n 1, 1, .inl ()), (13, .iaload, 1, .inl ()), (14, .iload_n 3, 1, .inl ()), (15, .imul, 1, .inl ()), (16, .iadd, 1, .inl ()), (17, .ireturn, 1, .inl ())]
theorem ok_Land_gainOf : okM H_Land_gainOf K_Land_gainOf = true := by decide +kernel
def K_LandReader_read : List CE := [(0, .aload_n 0, 1, .inl ()), (1, .getfield 22, 3, .inr (.inl (3, 0))), (4, .invokevirtual 26, 3, .inr (.inr (.inr 69))), (7, .aload_n 0, 1, .inl ()), (8, .getfield 12, 3, .inr (.inl (3, 1))), (11, .invokevirtual 31, 3, .inr (.inr (.inr 21))), (14, .aload_n 0, 1, .inl ()), (15, .invokevirtual 34, 3, .inr (.inr (.inr 33))), (18, .iconst 0, 1, .inl ()), (19, .istore_n 1, 1, .inl ()), (20, .iload_n 1, 1, .inl ()), (21, .sipush 160, 3, .inl ()), (24, .if_icmp .ge 48, 3, .inr (.inr (.inr 72))), (27, .aload_n 0, 1, .inl ()), (28, .getfield 22, 3, .inr (.inl (3, 0))), (31, .invokevirtual 37, 3, .inr (.inr (.inr 71))), (34, .ifCond .eq 38, 3, .inr (.inr (.inr 72))), (37, .aload_n 0, 1, .inl ()), (38, .getfield 22, 3, .inr (.inl (3, 0))), (41, .invokevirtual 41, 3, .inr (.inr (.inr 72))), (44, .bipush 59, 2, .inl ()), (46, .if_icmp .ne 26, 3, .inr (.inr (.inr 72))), (49, .aload_n 0, 1, .inl ()), (50, .getfield 22, 3, .inr (.inl (3, 0))), (53, .dup, 1, .inl ()), (54, .getfield 45, 3, .inr (.inl (9, 2))), (57, .iconst 1, 1, .inl ()), (58, .iadd, 1, .inl ()), (59, .putfield 45, 3, .inr (.inl (9, 2))), (62, .aload_n 0, 1, .inl ()), (63, .invokevirtual 34, 3, .inr (.inr (.inr 33))), (66, .iinc 1 1, 3, .inl ()), (69, .goto (-49), 3, .inr (.inr (.inr 20))), (72, .aload_n 0, 1, .inl ()), (73, .getfield 12, 3, .inr (.inl (3, 1))), (76, .invokevirtual 49, 3, .inr (.inr (.inr 25))), (79, .ifCond .ne 17, 3, .inr (.inr (.inr 96))), (82, .aload_n 0, 1, .inl ()), (83, .getfield 22, 3, .inr (.inl (3, 0))), (86, .aload_n 0, 1, .inl ()), (87, .getfield 22, 3, .inr (.inl (3, 0))), (90, .getfield 52, 3, .inr (.inl (9, 1))), (93, .invokevirtual 55, 3, .inr (.inr (.inr 70))), (96, .aload_n 0, 1, .inl ()), (97, .getfield 22, 3, .inr (.inl (3, 0))), (100, .getfield 59, 3, .inr (.inl (9, 3))), (103, .ireturn, 1, .inl ())]
theorem ok_LandReader_read : okM H_LandReader_read K_LandReader_read = true := by decide +kernel
def K_LandReader_readClause_0 : List CE := [(0, .aload_n 0, 1, .inl ()), (1, .getfield 22, 3, .inr (.inl (3, 0))), (4, .invokevirtual 41, 3, .inr (.inr (.inr 72))), (7, .invokestatic 62, 3, .inr (.inr (.inr 36))), (10, .istore_n 1, 1, .inl ()), (11, .iload_n 1, 1, .inl ()), (12, .iconst (-1), 1, .inl ()), (13, .if_icmp .eq 14, 3, .inr (.inr (.inr 27))), (16, .aload_n 0, 1, .inl ()), (17, .getfield 12, 3, .inr (.inl (3, 1))), (20, .iload_n 1, 1, .inl ()), (21, .invokevirtual 66, 3, .inr (.inr (.inr 23))), (24, .ifCond .eq 18, 3, .inr (.inr (.inr 42))), (27, .aload_n 0, 1, .inl ()), (28, .getfield 22, 3, .inr (.inl (3, 0))), (31, .aload_n 0, 1, .inl ()), (32, .getfield 22, 3, .inr (.inl (3, 0))), (35, .getfield 45, 3, .inr (.inl (9, 2))), (38, .invokevirtual 55, 3, .inr (.inr (.inr 70))), (41, .return_, 1, .inl ()), (42, .aload_n 0, 1, .inl ()), (43, .getfield 22, 3, .inr (.inl (3, 0))), (46, .dup, 1, .inl ()), (47, .getfield 45, 3, .inr (.inl (9, 2))), (50, .iconst 1, 1, .inl ()), (51, .iadd, 1, .inl ()), (52, .putfield 45, 3, .inr (.inl (9, 2))), (55, .iconst 0, 1, .inl ()), (56, .istore_n 2, 1, .inl ()), (57, .iload_n 2, 1, .inl ()), (58, .iconst 4, 1, .inl ()), (59, .if_icmp .ge 24, 3, .inr (.inr (.inr 83))), (62, .aload_n 0, 1, .inl ()), (63, .getfield 18, 3, .inr (.inl (3, 2))), (66, .iload_n 2, 1, .inl ()), (67, .getstatic 70, 3, .inr (.inr (.inr 0))), (70, .iload_n 1, 1, .inl ()), (71, .iconst 4, 1, .inl ()), (72, .imul, 1, .inl ()), (73, .iload_n 2, 1, .inl ()), (74, .iadd, 1, .inl ()), (75, .iaload, 1, .inl ()), (76, .iastore, 1, .inl ()), (77, .iinc 2 1, 3, .inl ()), (80, .goto (-23), 3, .inr (.inr (.inr 57))), (83, .iconst 0, 1, .inl ()), (84, .istore_n 2, 1, .inl ()), (85, .iconst 0, 1, .inl ()), (86, .istore_n 3, 1, .inl ()), (87, .iload_n 3, 1, .inl ())]
def K_LandReader_readClause_1 : List CE := [(88, .iconst 4, 1, .inl ()), (89, .if_icmp .gt 35, 3, .inr (.inr (.inr 124))), (92, .aload_n 0, 1, .inl ()), (93, .getfield 22, 3, .inr (.inl (3, 0))), (96, .invokevirtual 37, 3, .inr (.inr (.inr 71))), (99, .ifCond .eq 25, 3, .inr (.inr (.inr 124))), (102, .aload_n 0, 1, .inl ()), (103, .invokevirtual 73, 3, .inr (.inr (.inr 34))), (106, .ifCond .ne 18, 3, .inr (.inr (.inr 124))), (109, .iload_n 2, 1, .inl ()), (110, .aload_n 0, 1, .inl ()), (111, .iload_n 1, 1, .inl ()), (112, .iload_n 2, 1, .inl ()), (113, .invokevirtual 76, 3, .inr (.inr (.inr 35))), (116, .ior, 1, .inl ()), (117, .istore_n 2, 1, .inl ()), (118, .iinc 3 1, 3, .inl ()), (121, .goto (-34), 3, .inr (.inr (.inr 87))), (124, .aload_n 0, 1, .inl ()), (125, .getfield 22, 3, .inr (.inl (3, 0))), (128, .invokevirtual 37, 3, .inr (.inr (.inr 71))), (131, .ifCond .eq 15, 3, .inr (.inr (.inr 146))), (134, .aload_n 0, 1, .inl ()), (135, .getfield 12, 3, .inr (.inl (3, 1))), (138, .iload_n 1, 1, .inl ()), (139, .aload_n 0, 1, .inl ()), (140, .getfield 18, 3, .inr (.inl (3, 2))), (143, .invokevirtual 80, 3, .inr (.inr (.inr 24))), (146, .return_, 1, .inl ())]
def K_LandReader_readClause : List CE := K_LandReader_readClause_0 ++ (K_LandReader_readClause_1)
theorem ok_LandReader_readClause : okM H_LandReader_readClause K_LandReader_readClause = true := by decide +kernel
def K_LandReader_isClauseOver : List CE := [(0, .aload_n 0, 1, .inl ()), (1, .getfield 22, 3, .inr (.inl (3, 0))), (4, .invokevirtual 41, 3, .inr (.inr (.inr 72))), (7, .istore_n 1, 1, .inl ()), (8, .iload_n 1, 1, .inl ()), (9, .iconst (-1), 1, .inl ()), (10, .if_icmp .eq 9, 3, .inr (.inr (.inr 19))), (13, .iload_n 1, 1, .inl ()), (14, .bipush 59, 2, .inl ()), (16, .if_icmp .ne 7, 3, .inr (.inr (.inr 23))), (19, .iconst 1, 1, .inl ()), (20, .goto 4, 3, .inr (.inr (.inr 24))), (23, .iconst 0, 1, .inl ()), (24, .ireturn, 1, .inl ())]
theorem ok_LandReader_isClauseOver : okM H_LandReader_isClauseOver K_LandReader_isClauseOver = true := by decide +kernel
def K_LandReader_readItem_0 : List CE := [(0, .iload_n 1, 1, .inl ()), (1, .aload_n 0, 1, .inl ()), (2, .getfield 22, 3, .inr (.inl (3, 0))), (5, .invokevirtual 41, 3, .inr (.inr (.inr 72))), (8, .invokestatic 84, 3, .inr (.inr (.inr 37))), (11, .istore_n 3, 1, .inl ()), (12, .iload_n 3, 1, .inl ()), (13, .iconst (-1), 1, .inl ()), (14, .if_icmp .eq 11, 3, .inr (.inr (.inr 25))), (17, .iload_n 2, 1, .inl ()), (18, .iload_n 3, 1, .inl ()), (19, .ishr, 1, .inl ()), (20, .iconst 1, 1, .inl ()), (21, .iand, 1, .inl ()), (22, .ifCond .eq 19, 3, .inr (.inr (.inr 41))), (25, .aload_n 0, 1, .inl ()), (26, .getfield 22, 3, .inr (.inl (3, 0))), (29, .aload_n 0, 1, .inl ()), (30, .getfield 22, 3, .inr (.inl (3, 0))), (33, .getfield 45, 3, .inr (.inl (9, 2))), (36, .invokevirtual 55, 3, .inr (.inr (.inr 70))), (39, .iconst 0, 1, .inl ()), (40, .ireturn, 1, .inl ()), (41, .aload_n 0, 1, .inl ()), (42, .getfield 22, 3, .inr (.inl (3, 0))), (45, .dup, 1, .inl ()), (46, .getfield 45, 3, .inr (.inl (9, 2))), (49, .iconst 1, 1, .inl ()), (50, .iadd, 1, .inl ()), (51, .putfield 45, 3, .inr (.inl (9, 2))), (54, .iload_n 1, 1, .inl ()), (55, .iconst 4, 1, .inl ()), (56, .imul, 1, .inl ()), (57, .iload_n 3, 1, .inl ()), (58, .iadd, 1, .inl ()), (59, .istore 4, 2, .inl ()), (61, .iload_n 1, 1, .inl ()), (62, .iconst 1, 1, .inl ()), (63, .if_icmp .ne 12, 3, .inr (.inr (.inr 75))), (66, .iload_n 3, 1, .inl ()), (67, .iconst 2, 1, .inl ()), (68, .if_icmp .ne 7, 3, .inr (.inr (.inr 75))), (71, .iconst 1, 1, .inl ()), (72, .goto 4, 3, .inr (.inr (.inr 76))), (75, .iconst 0, 1, .inl ()), (76, .istore 5, 2, .inl ()), (78, .aload_n 0, 1, .inl ()), (79, .getfield 18, 3, .inr (.inl (3, 2))), (82, .iload_n 3, 1, .inl ()), (83, .aload_n 0, 1, .inl ())]
def K_LandReader_readItem_1 : List CE := [(84, .getfield 22, 3, .inr (.inl (3, 0))), (87, .getstatic 87, 3, .inr (.inr (.inr 2))), (90, .iload 4, 2, .inl ()), (92, .iaload, 1, .inl ()), (93, .iload 5, 2, .inl ()), (95, .ifCond .eq 15, 3, .inr (.inr (.inr 110))), (98, .aload_n 0, 1, .inl ()), (99, .getfield 12, 3, .inr (.inl (3, 1))), (102, .getfield 90, 3, .inr (.inl (2, 1))), (105, .iconst 1, 1, .inl ()), (106, .isub, 1, .inl ()), (107, .goto 9, 3, .inr (.inr (.inr 116))), (110, .getstatic 93, 3, .inr (.inr (.inr 3))), (113, .iload 4, 2, .inl ()), (115, .iaload, 1, .inl ()), (116, .invokevirtual 96, 3, .inr (.inr (.inr 73))), (119, .iastore, 1, .inl ()), (120, .iconst 1, 1, .inl ()), (121, .iload_n 3, 1, .inl ()), (122, .ishl, 1, .inl ()), (123, .ireturn, 1, .inl ())]
def K_LandReader_readItem : List CE := K_LandReader_readItem_0 ++ (K_LandReader_readItem_1)
theorem ok_LandReader_readItem : okM H_LandReader_readItem K_LandReader_readItem = true := by decide +kernel
def K_LandReader_kindOf : List CE := [(0, .iload_n 0, 1, .inl ()), (1, .lookupswitch 51 #[(98, 49), (103, 43), (104, 47), (115, 45)], 43, .inl ()), (44, .iconst 0, 1, .inl ()), (45, .ireturn, 1, .inl ()), (46, .iconst 1, 1, .inl ()), (47, .ireturn, 1, .inl ()), (48, .iconst 2, 1, .inl ()), (49, .ireturn, 1, .inl ()), (50, .iconst 3, 1, .inl ()), (51, .ireturn, 1, .inl ()), (52, .iconst (-1), 1, .inl ()), (53, .ireturn, 1, .inl ())]
theorem ok_LandReader_kindOf : okM H_LandReader_kindOf K_LandReader_kindOf = true := by decide +kernel
def K_LandReader_itemOf : List CE := [(0, .iconst 0, 1, .inl ()), (1, .istore_n 2, 1, .inl ()), (2, .iload_n 2, 1, .inl ()), (3, .iconst 4, 1, .inl ()), (4, .if_icmp .ge 24, 3, .inr (.inr (.inr 28))), (7, .iload_n 1, 1, .inl ()), (8, .getstatic 99, 3, .inr (.inr (.inr 1))), (11, .iload_n 0, 1, .inl ()), (12, .iconst 4, 1, .inl ()), (13, .imul, 1, .inl ()), (14, .iload_n 2, 1, .inl ()), (15, .iadd, 1, .inl ()), (16, .caload, 1, .inl ()), (17, .if_icmp .ne 5, 3, .inr (.inr (.inr 22))), (20, .iload_n 2, 1, .inl ()), (21, .ireturn, 1, .inl ()), (22, .iinc 2 1, 3, .inl ()), (25, .goto (-23), 3, .inr (.inr (.inr 2))), (28, .iconst (-1), 1, .inl ()), (29, .ireturn, 1, .inl ())]
theorem ok_LandReader_itemOf : okM H_LandReader_itemOf K_LandReader_itemOf = true := by decide +kernel
def K_PlanReader_read : List CE := [(0, .aload_n 0, 1, .inl ()), (1, .getfield 15, 3, .inr (.inl (4, 0))), (4, .invokevirtual 19, 3, .inr (.inr (.inr 69))), (7, .aload_n 0, 1, .inl ()), (8, .iconst 0, 1, .inl ()), (9, .putfield 24, 3, .inr (.inl (4, 2))), (12, .aload_n 0, 1, .inl ()), (13, .iconst 0, 1, .inl ()), (14, .putfield 28, 3, .inr (.inl (4, 3))), (17, .aload_n 0, 1, .inl ()), (18, .iconst 0, 1, .inl ()), (19, .putfield 31, 3, .inr (.inl (4, 4))), (22, .aload_n 0, 1, .inl ()), (23, .iconst 1, 1, .inl ()), (24, .putfield 34, 3, .inr (.inl (4, 5))), (27, .iconst 0, 1, .inl ()), (28, .istore_n 1, 1, .inl ()), (29, .iload_n 1, 1, .inl ()), (30, .sipush 160, 3, .inl ()), (33, .if_icmp .ge 48, 3, .inr (.inr (.inr 81))), (36, .aload_n 0, 1, .inl ()), (37, .getfield 15, 3, .inr (.inl (4, 0))), (40, .invokevirtual 38, 3, .inr (.inr (.inr 71))), (43, .ifCond .eq 38, 3, .inr (.inr (.inr 81))), (46, .aload_n 0, 1, .inl ()), (47, .getfield 15, 3, .inr (.inl (4, 0))), (50, .invokevirtual 42, 3, .inr (.inr (.inr 72))), (53, .iconst (-1), 1, .inl ()), (54, .if_icmp .eq 27, 3, .inr (.inr (.inr 81))), (57, .aload_n 0, 1, .inl ()), (58, .getfield 34, 3, .inr (.inl (4, 5))), (61, .ifCond .eq 10, 3, .inr (.inr (.inr 71))), (64, .aload_n 0, 1, .inl ()), (65, .invokevirtual 46, 3, .inr (.inr (.inr 39))), (68, .goto 7, 3, .inr (.inr (.inr 75))), (71, .aload_n 0, 1, .inl ()), (72, .invokevirtual 49, 3, .inr (.inr (.inr 41))), (75, .iinc 1 1, 3, .inl ()), (78, .goto (-49), 3, .inr (.inr (.inr 29))), (81, .aload_n 0, 1, .inl ()), (82, .getfield 34, 3, .inr (.inl (4, 5))), (85, .ifCond .ne 10, 3, .inr (.inr (.inr 95))), (88, .aload_n 0, 1, .inl ()), (89, .getfield 31, 3, .inr (.inl (4, 4))), (92, .ifCond .le 17, 3, .inr (.inr (.inr 109))), (95, .aload_n 0, 1, .inl ()), (96, .getfield 15, 3, .inr (.inl (4, 0))), (99, .aload_n 0, 1, .inl ()), (100, .getfield 15, 3, .inr (.inl (4, 0))), (103, .getfield 52, 3, .inr (.inl (9, 1))), (106, .invokevirtual 55, 3, .inr (.inr (.inr 70))), (109, .aload_n 0, 1, .inl ()), (110, .getfield 15, 3, .inr (.inl (4, 0))), (113, .getfield 59, 3, .inr (.inl (9, 3))), (116, .ireturn, 1, .inl ())]
theorem ok_PlanReader_read : okM H_PlanReader_read K_PlanReader_read = true := by decide +kernel
def K_PlanReader_readUnit : List CE := [(0, .aload_n 0, 1, .inl ()), (1, .getfield 15, 3, .inr (.inl (4, 0))), (4, .invokevirtual 42, 3, .inr (.inr (.inr 72))), (7, .istore_n 1, 1, .inl ()), (8, .iload_n 1, 1, .inl ()), (9, .bipush 40, 2, .inl ()), (11, .if_icmp .ne 43, 3, .inr (.inr (.inr 54))), (14, .aload_n 0, 1, .inl ()), (15, .getfield 31, 3, .inr (.inl (4, 4))), (18, .bipush 6, 2, .inl ()), (20, .if_icmp .ge 34, 3, .inr (.inr (.inr 54))), (23, .aload_n 0, 1, .inl ()), (24, .getfield 15, 3, .inr (.inl (4, 0))), (27, .dup, 1, .inl ()), (28, .getfield 62, 3, .inr (.inl (9, 2))), (31, .iconst 1, 1, .inl ()), (32, .iadd, 1, .inl ()), (33, .putfield 62, 3, .inr (.inl (9, 2))), (36, .aload_n 0, 1, .inl ()), (37, .dup, 1, .inl ()), (38, .getfield 31, 3, .inr (.inl (4, 4))), (41, .iconst 1, 1, .inl ()), (42, .iadd, 1, .inl ()), (43, .putfield 31, 3, .inr (.inl (4, 4))), (46, .aload_n 0, 1, .inl ()), (47, .iconst (-1), 1, .inl ()), (48, .invokevirtual 67, 3, .inr (.inr (.inr 42))), (51, .goto 58, 3, .inr (.inr (.inr 109))), (54, .iload_n 1, 1, .inl ()), (55, .bipush 97, 2, .inl ()), (57, .if_icmp .lt 38, 3, .inr (.inr (.inr 95))), (60, .iload_n 1, 1, .inl ()), (61, .bipush 102, 2, .inl ()), (63, .if_icmp .ge 32, 3, .inr (.inr (.inr 95))), (66, .aload_n 0, 1, .inl ()), (67, .getfield 15, 3, .inr (.inl (4, 0))), (70, .dup, 1, .inl ()), (71, .getfield 62, 3, .inr (.inl (9, 2))), (74, .iconst 1, 1, .inl ()), (75, .iadd, 1, .inl ()), (76, .putfield 62, 3, .inr (.inl (9, 2))), (79, .aload_n 0, 1, .inl ()), (80, .iload_n 1, 1, .inl ()), (81, .bipush 97, 2, .inl ()), (83, .isub, 1, .inl ()), (84, .invokevirtual 70, 3, .inr (.inr (.inr 40))), (87, .aload_n 0, 1, .inl ()), (88, .iconst 0, 1, .inl ()), (89, .putfield 34, 3, .inr (.inl (4, 5))), (92, .goto 17, 3, .inr (.inr (.inr 109))), (95, .aload_n 0, 1, .inl ()), (96, .getfield 15, 3, .inr (.inl (4, 0))), (99, .aload_n 0, 1, .inl ()), (100, .getfield 15, 3, .inr (.inl (4, 0))), (103, .getfield 62, 3, .inr (.inl (9, 2))), (106, .invokevirtual 55, 3, .inr (.inr (.inr 70))), (109, .return_, 1, .inl ())]
theorem ok_PlanReader_readUnit : okM H_PlanReader_readUnit K_PlanReader_readUnit = true := by decide +kernel
def K_PlanReader_readLetter : List CE := [(0, .iconst 0, 1, .inl ()), (1, .istore_n 2, 1, .inl ()), (2, .aload_n 0, 1, .inl ()), (3, .getfield 15, 3, .inr (.inl (4, 0))), (6, .invokevirtual 42, 3, .inr (.inr (.inr 72))), (9, .bipush 43, 2, .inl ()), (11, .if_icmp .ne 27, 3, .inr (.inr (.inr 38))), (14, .aload_n 0, 1, .inl ()), (15, .getfield 15, 3, .inr (.inl (4, 0))), (18, .dup, 1, .inl ()), (19, .getfield 62, 3, .inr (.inl (9, 2))), (22, .iconst 1, 1, .inl ()), (23, .iadd, 1, .inl ()), (24, .putfield 62, 3, .inr (.inl (9, 2))), (27, .aload_n 0, 1, .inl ()), (28, .getfield 15, 3, .inr (.inl (4, 0))), (31, .iconst 0, 1, .inl ()), (32, .bipush 99, 2, .inl ()), (34, .invokevirtual 73, 3, .inr (.inr (.inr 73))), (37, .istore_n 2, 1, .inl ()), (38, .aload_n 0, 1, .inl ()), (39, .dup, 1, .inl ()), (40, .getfield 28, 3, .inr (.inl (4, 3))), (43, .iconst 1, 1, .inl ()), (44, .iload_n 1, 1, .inl ()), (45, .ishl, 1, .inl ()), (46, .ior, 1, .inl ()), (47, .putfield 28, 3, .inr (.inl (4, 3))), (50, .aload_n 0, 1, .inl ()), (51, .iload_n 1, 1, .inl ()), (52, .bipush 7, 2, .inl ()), (54, .ishl, 1, .inl ()), (55, .iload_n 2, 1, .inl ()), (56, .bipush 127, 2, .inl ()), (58, .iand, 1, .inl ()), (59, .ior, 1, .inl ()), (60, .invokevirtual 67, 3, .inr (.inr (.inr 42))), (63, .return_, 1, .inl ())]
theorem ok_PlanReader_readLetter : okM H_PlanReader_readLetter K_PlanReader_readLetter = true := by decide +kernel
def K_PlanReader_readBehindUnit : List CE := [(0, .aload_n 0, 1, .inl ()), (1, .getfield 15, 3, .inr (.inl (4, 0))), (4, .invokevirtual 42, 3, .inr (.inr (.inr 72))), (7, .istore_n 1, 1, .inl ()), (8, .iload_n 1, 1, .inl ()), (9, .bipush 38, 2, .inl ()), (11, .if_icmp .eq 9, 3, .inr (.inr (.inr 20))), (14, .iload_n 1, 1, .inl ()), (15, .bipush 124, 2, .inl ()), (17, .if_icmp .ne 23, 3, .inr (.inr (.inr 40))), (20, .aload_n 0, 1, .inl ()), (21, .iconst 1, 1, .inl ()), (22, .putfield 34, 3, .inr (.inl (4, 5))), (25, .iload_n 1, 1, .inl ()), (26, .bipush 124, 2, .inl ()), (28, .if_icmp .ne 58, 3, .inr (.inr (.inr 86))), (31, .aload_n 0, 1, .inl ()), (32, .bipush (-3), 2, .inl ()), (34, .invokevirtual 67, 3, .inr (.inr (.inr 42))), (37, .goto 49, 3, .inr (.inr (.inr 86))), (40, .iload_n 1, 1, .inl ()), (41, .bipush 41, 2, .inl ()), (43, .if_icmp .ne 29, 3, .inr (.inr (.inr 72))), (46, .aload_n 0, 1, .inl ()), (47, .getfield 31, 3, .inr (.inl (4, 4))), (50, .ifCond .le 22, 3, .inr (.inr (.inr 72))), (53, .aload_n 0, 1, .inl ()), (54, .dup, 1, .inl ()), (55, .getfield 31, 3, .inr (.inl (4, 4))), (58, .iconst 1, 1, .inl ()), (59, .isub, 1, .inl ()), (60, .putfield 31, 3, .inr (.inl (4, 4))), (63, .aload_n 0, 1, .inl ()), (64, .bipush (-2), 2, .inl ()), (66, .invokevirtual 67, 3, .inr (.inr (.inr 42))), (69, .goto 17, 3, .inr (.inr (.inr 86))), (72, .aload_n 0, 1, .inl ()), (73, .getfield 15, 3, .inr (.inl (4, 0))), (76, .aload_n 0, 1, .inl ()), (77, .getfield 15, 3, .inr (.inl (4, 0))), (80, .getfield 62, 3, .inr (.inl (9, 2))), (83, .invokevirtual 55, 3, .inr (.inr (.inr 70))), (86, .aload_n 0, 1, .inl ()), (87, .getfield 15, 3, .inr (.inl (4, 0))), (90, .dup, 1, .inl ()), (91, .getfield 62, 3, .inr (.inl (9, 2))), (94, .iconst 1, 1, .inl ()), (95, .iadd, 1, .inl ()), (96, .putfield 62, 3, .inr (.inl (9, 2))), (99, .return_, 1, .inl ())]
theorem ok_PlanReader_readBehindUnit : okM H_PlanReader_readBehindUnit K_PlanReader_readBehindUnit = true := by decide +kernel
def K_PlanReader_write : List CE := [(0, .aload_n 0, 1, .inl ()), (1, .getfield 24, 3, .inr (.inl (4, 2))), (4, .sipush 160, 3, .inl ()), (7, .if_icmp .ge 23, 3, .inr (.inr (.inr 30))), (10, .aload_n 0, 1, .inl ()), (11, .getfield 9, 3, .inr (.inl (4, 1))), (14, .aload_n 0, 1, .inl ()), (15, .getfield 24, 3, .inr (.inl (4, 2))), (18, .iload_n 1, 1, .inl ()), (19, .iastore, 1, .inl ()), (20, .aload_n 0, 1, .inl ()), (21, .dup, 1, .inl ()), (22, .getfield 24, 3, .inr (.inl (4, 2))), (25, .iconst 1, 1, .inl ()), (26, .iadd, 1, .inl ()), (27, .putfield 24, 3, .inr (.inl (4, 2))), (30, .return_, 1, .inl ())]
theorem ok_PlanReader_write : okM H_PlanReader_write K_PlanReader_write = true := by decide +kernel
def K_Plans_add : List CE := [(0, .aload_n 0, 1, .inl ()), (1, .getfield 27, 3, .inr (.inl (5, 3))), (4, .bipush 8, 2, .inl ()), (6, .if_icmp .ge 63, 3, .inr (.inr (.inr 69))), (9, .aload_n 1, 1, .inl ()), (10, .getfield 31, 3, .inr (.inl (4, 1))), (13, .iconst 0, 1, .inl ()), (14, .aload_n 0, 1, .inl ()), (15, .getfield 9, 3, .inr (.inl (5, 0))), (18, .aload_n 0, 1, .inl ()), (19, .getfield 27, 3, .inr (.inl (5, 3))), (22, .sipush 160, 3, .inl ()), (25, .imul, 1, .inl ()), (26, .aload_n 1, 1, .inl ()), (27, .getfield 34, 3, .inr (.inl (4, 2))), (30, .invokestatic 36, 3, .inl ()), (33, .aload_n 0, 1, .inl ()), (34, .getfield 15, 3, .inr (.inl (5, 1))), (37, .aload_n 0, 1, .inl ()), (38, .getfield 27, 3, .inr (.inl (5, 3))), (41, .aload_n 1, 1, .inl ()), (42, .getfield 34, 3, .inr (.inl (4, 2))), (45, .iastore, 1, .inl ()), (46, .aload_n 0, 1, .inl ()), (47, .getfield 18, 3, .inr (.inl (5, 2))), (50, .aload_n 0, 1, .inl ()), (51, .getfield 27, 3, .inr (.inl (5, 3))), (54, .aload_n 1, 1, .inl ()), (55, .getfield 42, 3, .inr (.inl (4, 3))), (58, .iastore, 1, .inl ()), (59, .aload_n 0, 1, .inl ()), (60, .dup, 1, .inl ()), (61, .getfield 27, 3, .inr (.inl (5, 3))), (64, .iconst 1, 1, .inl ()), (65, .iadd, 1, .inl ()), (66, .putfield 27, 3, .inr (.inl (5, 3))), (69, .return_, 1, .inl ())]
theorem ok_Plans_add : okM H_Plans_add K_Plans_add = true := by decide +kernel
def K_Plans_lettersOf : List CE := [(0, .iload_n 1, 1, .inl ()), (1, .ifCond .lt 20, 3, .inr (.inr (.inr 21))), (4, .iload_n 1, 1, .inl ()), (5, .aload_n 0, 1, .inl ()), (6, .getfield 27, 3, .inr (.inl (5, 3))), (9, .if_icmp .ge 12, 3, .inr (.inr (.inr 21))), (12, .aload_n 0, 1, .inl ()), (13, .getfield 18, 3, .inr (.inl (5, 2))), (16, .iload_n 1, 1, .inl ()), (17, .iaload, 1, .inl ()), (18, .goto 4, 3, .inr (.inr (.inr 22))), (21, .iconst 0, 1, .inl ()), (22, .ireturn, 1, .inl ())]
theorem ok_Plans_lettersOf : okM H_Plans_lettersOf K_Plans_lettersOf = true := by decide +kernel
def K_Plans_turnOf_0 : List CE := [(0, .iload_n 1, 1, .inl ()), (1, .ifCond .lt 11, 3, .inr (.inr (.inr 12))), (4, .iload_n 1, 1, .inl ()), (5, .aload_n 0, 1, .inl ()), (6, .getfield 27, 3, .inr (.inl (5, 3))), (9, .if_icmp .lt 6, 3, .inr (.inr (.inr 15))), (12, .ldc 44, 2, .inr (.inr (.inl (1000000)))), (14, .ireturn, 1, .inl ()), (15, .iconst 0, 1, .inl ()), (16, .istore 5, 2, .inl ()), (18, .aload_n 0, 1, .inl ()), (19, .iconst 0, 1, .inl ()), (20, .invokevirtual 45, 3, .inr (.inr (.inr 46))), (23, .iload_n 1, 1, .inl ()), (24, .sipush 160, 3, .inl ()), (27, .imul, 1, .inl ()), (28, .istore 6, 2, .inl ()), (30, .iload 6, 2, .inl ()), (32, .istore 7, 2, .inl ()), (34, .iload 7, 2, .inl ()), (36, .iload 6, 2, .inl ()), (38, .aload_n 0, 1, .inl ()), (39, .getfield 15, 3, .inr (.inl (5, 1))), (42, .iload_n 1, 1, .inl ()), (43, .iaload, 1, .inl ()), (44, .iadd, 1, .inl ()), (45, .if_icmp .ge 193, 3, .inr (.inr (.inr 238))), (48, .aload_n 0, 1, .inl ()), (49, .getfield 9, 3, .inr (.inl (5, 0))), (52, .iload 7, 2, .inl ()), (54, .iaload, 1, .inl ()), (55, .istore 8, 2, .inl ()), (57, .iload 8, 2, .inl ()), (59, .ifCond .lt 52, 3, .inr (.inr (.inr 111))), (62, .iload 8, 2, .inl ()), (64, .bipush 7, 2, .inl ()), (66, .ishr, 1, .inl ()), (67, .istore 9, 2, .inl ()), (69, .aload_n 2, 1, .inl ()), (70, .iload 9, 2, .inl ()), (72, .iaload, 1, .inl ()), (73, .aload_n 3, 1, .inl ()), (74, .iload 4, 2, .inl ()), (76, .iload 9, 2, .inl ()), (78, .iadd, 1, .inl ()), (79, .iaload, 1, .inl ()), (80, .iadd, 1, .inl ()), (81, .iload 8, 2, .inl ()), (83, .bipush 127, 2, .inl ()), (85, .iand, 1, .inl ())]
def K_Plans_turnOf_1 : List CE := [(86, .iadd, 1, .inl ()), (87, .istore 10, 2, .inl ()), (89, .aload_n 0, 1, .inl ()), (90, .getfield 24, 3, .inr (.inl (5, 5))), (93, .iload 5, 2, .inl ()), (95, .aload_n 0, 1, .inl ()), (96, .getfield 24, 3, .inr (.inl (5, 5))), (99, .iload 5, 2, .inl ()), (101, .iaload, 1, .inl ()), (102, .iload 10, 2, .inl ()), (104, .invokestatic 49, 3, .inr (.inl (0, 0))), (107, .iastore, 1, .inl ()), (108, .goto 124, 3, .inr (.inr (.inr 232))), (111, .iload 8, 2, .inl ()), (113, .bipush (-3), 2, .inl ()), (115, .if_icmp .ne 39, 3, .inr (.inr (.inr 154))), (118, .aload_n 0, 1, .inl ()), (119, .getfield 21, 3, .inr (.inl (5, 4))), (122, .iload 5, 2, .inl ()), (124, .aload_n 0, 1, .inl ()), (125, .getfield 21, 3, .inr (.inl (5, 4))), (128, .iload 5, 2, .inl ()), (130, .iaload, 1, .inl ()), (131, .aload_n 0, 1, .inl ()), (132, .getfield 24, 3, .inr (.inl (5, 5))), (135, .iload 5, 2, .inl ()), (137, .iaload, 1, .inl ()), (138, .invokestatic 55, 3, .inr (.inl (1, 0))), (141, .iastore, 1, .inl ()), (142, .aload_n 0, 1, .inl ()), (143, .getfield 24, 3, .inr (.inl (5, 5))), (146, .iload 5, 2, .inl ()), (148, .ldc 58, 2, .inr (.inr (.inl (-1000000)))), (150, .iastore, 1, .inl ()), (151, .goto 81, 3, .inr (.inr (.inr 232))), (154, .iload 8, 2, .inl ()), (156, .iconst (-1), 1, .inl ()), (157, .if_icmp .ne 22, 3, .inr (.inr (.inr 179))), (160, .iload 5, 2, .inl ()), (162, .bipush 6, 2, .inl ()), (164, .if_icmp .ge 15, 3, .inr (.inr (.inr 179))), (167, .iinc 5 1, 3, .inl ()), (170, .aload_n 0, 1, .inl ()), (171, .iload 5, 2, .inl ()), (173, .invokevirtual 45, 3, .inr (.inr (.inr 46))), (176, .goto 56, 3, .inr (.inr (.inr 232))), (179, .iload 8, 2, .inl ()), (181, .bipush (-2), 2, .inl ()), (183, .if_icmp .ne 49, 3, .inr (.inr (.inr 232))), (186, .iload 5, 2, .inl ())]
def K_Plans_turnOf_2 : List CE := [(188, .ifCond .le 44, 3, .inr (.inr (.inr 232))), (191, .aload_n 0, 1, .inl ()), (192, .getfield 21, 3, .inr (.inl (5, 4))), (195, .iload 5, 2, .inl ()), (197, .iaload, 1, .inl ()), (198, .aload_n 0, 1, .inl ()), (199, .getfield 24, 3, .inr (.inl (5, 5))), (202, .iload 5, 2, .inl ()), (204, .iaload, 1, .inl ()), (205, .invokestatic 55, 3, .inr (.inl (1, 0))), (208, .istore 9, 2, .inl ()), (210, .iinc 5 (-1), 3, .inl ()), (213, .aload_n 0, 1, .inl ()), (214, .getfield 24, 3, .inr (.inl (5, 5))), (217, .iload 5, 2, .inl ()), (219, .aload_n 0, 1, .inl ()), (220, .getfield 24, 3, .inr (.inl (5, 5))), (223, .iload 5, 2, .inl ()), (225, .iaload, 1, .inl ()), (226, .iload 9, 2, .inl ()), (228, .invokestatic 49, 3, .inr (.inl (0, 0))), (231, .iastore, 1, .inl ()), (232, .iinc 7 1, 3, .inl ()), (235, .goto (-201), 3, .inr (.inr (.inr 34))), (238, .aload_n 0, 1, .inl ()), (239, .getfield 21, 3, .inr (.inl (5, 4))), (242, .iconst 0, 1, .inl ()), (243, .iaload, 1, .inl ()), (244, .aload_n 0, 1, .inl ()), (245, .getfield 24, 3, .inr (.inl (5, 5))), (248, .iconst 0, 1, .inl ()), (249, .iaload, 1, .inl ()), (250, .invokestatic 55, 3, .inr (.inl (1, 0))), (253, .ireturn, 1, .inl ())]
def K_Plans_turnOf : List CE := K_Plans_turnOf_0 ++ (K_Plans_turnOf_1 ++ (K_Plans_turnOf_2))
theorem ok_Plans_turnOf : okM H_Plans_turnOf K_Plans_turnOf = true := by decide +kernel
def K_Plans_openLevel : List CE := [(0, .aload_n 0, 1, .inl ()), (1, .getfield 21, 3, .inr (.inl (5, 4))), (4, .iload_n 1, 1, .inl ()), (5, .ldc 44, 2, .inr (.inr (.inl (1000000)))), (7, .iastore, 1, .inl ()), (8, .aload_n 0, 1, .inl ()), (9, .getfield 24, 3, .inr (.inl (5, 5))), (12, .iload_n 1, 1, .inl ()), (13, .ldc 58, 2, .inr (.inr (.inl (-1000000)))), (15, .iastore, 1, .inl ()), (16, .return_, 1, .inl ())]
theorem ok_Plans_openLevel : okM H_Plans_openLevel K_Plans_openLevel = true := by decide +kernel
def K_Row_gather : List CE := [(0, .aload_n 0, 1, .inl ()), (1, .iconst 0, 1, .inl ()), (2, .putfield 21, 3, .inr (.inl (6, 1))), (5, .iconst 0, 1, .inl ()), (6, .istore 5, 2, .inl ()), (8, .iload 5, 2, .inl ()), (10, .iload_n 2, 1, .inl ()), (11, .if_icmp .ge 30, 3, .inr (.inr (.inr 41))), (14, .iload 5, 2, .inl ()), (16, .iload_n 3, 1, .inl ()), (17, .if_icmp .eq 18, 3, .inr (.inr (.inr 35))), (20, .iload 5, 2, .inl ()), (22, .iload 4, 2, .inl ()), (24, .if_icmp .eq 11, 3, .inr (.inr (.inr 35))), (27, .aload_n 0, 1, .inl ()), (28, .aload_n 1, 1, .inl ()), (29, .iload 5, 2, .inl ()), (31, .iaload, 1, .inl ()), (32, .invokevirtual 25, 3, .inr (.inr (.inr 49))), (35, .iinc 5 1, 3, .inl ()), (38, .goto (-30), 3, .inr (.inr (.inr 8))), (41, .return_, 1, .inl ())]
theorem ok_Row_gather : okM H_Row_gather K_Row_gather = true := by decide +kernel
def K_Row_copy : List CE := [(0, .aload_n 0, 1, .inl ()), (1, .aload_n 1, 1, .inl ()), (2, .getfield 21, 3, .inr (.inl (6, 1))), (5, .putfield 21, 3, .inr (.inl (6, 1))), (8, .iconst 0, 1, .inl ()), (9, .istore_n 2, 1, .inl ()), (10, .iload_n 2, 1, .inl ()), (11, .aload_n 0, 1, .inl ()), (12, .getfield 21, 3, .inr (.inl (6, 1))), (15, .if_icmp .ge 21, 3, .inr (.inr (.inr 36))), (18, .aload_n 0, 1, .inl ()), (19, .getfield 9, 3, .inr (.inl (6, 0))), (22, .iload_n 2, 1, .inl ()), (23, .aload_n 1, 1, .inl ()), (24, .getfield 9, 3, .inr (.inl (6, 0))), (27, .iload_n 2, 1, .inl ()), (28, .iaload, 1, .inl ()), (29, .iastore, 1, .inl ()), (30, .iinc 2 1, 3, .inl ()), (33, .goto (-23), 3, .inr (.inr (.inr 10))), (36, .return_, 1, .inl ())]
theorem ok_Row_copy : okM H_Row_copy K_Row_copy = true := by decide +kernel
def K_Row_put : List CE := [(0, .iload_n 1, 1, .inl ()), (1, .ldc 29, 2, .inr (.inr (.inl (1000000)))), (3, .if_icmp .ge 11, 3, .inr (.inr (.inr 14))), (6, .aload_n 0, 1, .inl ()), (7, .getfield 21, 3, .inr (.inl (6, 1))), (10, .iconst 4, 1, .inl ()), (11, .if_icmp .lt 4, 3, .inr (.inr (.inr 15))), (14, .return_, 1, .inl ()), (15, .aload_n 0, 1, .inl ()), (16, .getfield 21, 3, .inr (.inl (6, 1))), (19, .istore_n 2, 1, .inl ()), (20, .iload_n 2, 1, .inl ()), (21, .ifCond .le 35, 3, .inr (.inr (.inr 56))), (24, .aload_n 0, 1, .inl ()), (25, .getfield 9, 3, .inr (.inl (6, 0))), (28, .iload_n 2, 1, .inl ()), (29, .iconst 1, 1, .inl ()), (30, .isub, 1, .inl ()), (31, .iaload, 1, .inl ()), (32, .iload_n 1, 1, .inl ()), (33, .if_icmp .le 23, 3, .inr (.inr (.inr 56))), (36, .aload_n 0, 1, .inl ()), (37, .getfield 9, 3, .inr (.inl (6, 0))), (40, .iload_n 2, 1, .inl ()), (41, .aload_n 0, 1, .inl ()), (42, .getfield 9, 3, .inr (.inl (6, 0))), (45, .iload_n 2, 1, .inl ()), (46, .iconst 1, 1, .inl ()), (47, .isub, 1, .inl ()), (48, .iaload, 1, .inl ()), (49, .iastore, 1, .inl ()), (50, .iinc 2 (-1), 3, .inl ()), (53, .goto (-33), 3, .inr (.inr (.inr 20))), (56, .aload_n 0, 1, .inl ()), (57, .getfield 9, 3, .inr (.inl (6, 0))), (60, .iload_n 2, 1, .inl ()), (61, .iload_n 1, 1, .inl ()), (62, .iastore, 1, .inl ()), (63, .aload_n 0, 1, .inl ()), (64, .dup, 1, .inl ()), (65, .getfield 21, 3, .inr (.inl (6, 1))), (68, .iconst 1, 1, .inl ()), (69, .iadd, 1, .inl ()), (70, .putfield 21, 3, .inr (.inl (6, 1))), (73, .return_, 1, .inl ())]
theorem ok_Row_put : okM H_Row_put K_Row_put = true := by decide +kernel
def K_Row_spread : List CE := [(0, .ldc 29, 2, .inr (.inr (.inl (1000000)))), (2, .istore_n 2, 1, .inl ()), (3, .iload_n 1, 1, .inl ()), (4, .iconst 1, 1, .inl ()), (5, .isub, 1, .inl ()), (6, .istore_n 3, 1, .inl ()), (7, .iload_n 3, 1, .inl ()), (8, .aload_n 0, 1, .inl ()), (9, .getfield 21, 3, .inr (.inl (6, 1))), (12, .if_icmp .ge 31, 3, .inr (.inr (.inr 43))), (15, .iload_n 2, 1, .inl ()), (16, .aload_n 0, 1, .inl ()), (17, .getfield 9, 3, .inr (.inl (6, 0))), (20, .iload_n 3, 1, .inl ()), (21, .iaload, 1, .inl ()), (22, .aload_n 0, 1, .inl ()), (23, .getfield 9, 3, .inr (.inl (6, 0))), (26, .iload_n 3, 1, .inl ()), (27, .iload_n 1, 1, .inl ()), (28, .isub, 1, .inl ()), (29, .iconst 1, 1, .inl ()), (30, .iadd, 1, .inl ()), (31, .iaload, 1, .inl ()), (32, .isub, 1, .inl ()), (33, .invokestatic 30, 3, .inr (.inl (1, 0))), (36, .istore_n 2, 1, .inl ()), (37, .iinc 3 1, 3, .inl ()), (40, .goto (-33), 3, .inr (.inr (.inr 7))), (43, .iload_n 2, 1, .inl ()), (44, .ireturn, 1, .inl ())]
theorem ok_Row_spread : okM H_Row_spread K_Row_spread = true := by decide +kernel
def K_Row_momentOf : List CE := [(0, .iload_n 1, 1, .inl ()), (1, .iconst 1, 1, .inl ()), (2, .isub, 1, .inl ()), (3, .istore_n 3, 1, .inl ()), (4, .iload_n 3, 1, .inl ()), (5, .aload_n 0, 1, .inl ()), (6, .getfield 21, 3, .inr (.inl (6, 1))), (9, .if_icmp .ge 37, 3, .inr (.inr (.inr 46))), (12, .aload_n 0, 1, .inl ()), (13, .getfield 9, 3, .inr (.inl (6, 0))), (16, .iload_n 3, 1, .inl ()), (17, .iaload, 1, .inl ()), (18, .aload_n 0, 1, .inl ()), (19, .getfield 9, 3, .inr (.inl (6, 0))), (22, .iload_n 3, 1, .inl ()), (23, .iload_n 1, 1, .inl ()), (24, .isub, 1, .inl ()), (25, .iconst 1, 1, .inl ()), (26, .iadd, 1, .inl ()), (27, .iaload, 1, .inl ()), (28, .isub, 1, .inl ()), (29, .iload_n 2, 1, .inl ()), (30, .if_icmp .gt 10, 3, .inr (.inr (.inr 40))), (33, .aload_n 0, 1, .inl ()), (34, .getfield 9, 3, .inr (.inl (6, 0))), (37, .iload_n 3, 1, .inl ()), (38, .iaload, 1, .inl ()), (39, .ireturn, 1, .inl ()), (40, .iinc 3 1, 3, .inl ()), (43, .goto (-39), 3, .inr (.inr (.inr 4))), (46, .ldc 29, 2, .inr (.inr (.inl (1000000)))), (48, .ireturn, 1, .inl ())]
theorem ok_Row_momentOf : okM H_Row_momentOf K_Row_momentOf = true := by decide +kernel
def K_Row_findSpans_0 : List CE := [(0, .aload_n 0, 1, .inl ()), (1, .iconst 0, 1, .inl ()), (2, .putfield 36, 3, .inr (.inl (6, 4))), (5, .aload_n 0, 1, .inl ()), (6, .iload_n 1, 1, .inl ()), (7, .invokevirtual 39, 3, .inr (.inr (.inr 50))), (10, .iload_n 2, 1, .inl ()), (11, .if_icmp .gt 12, 3, .inr (.inr (.inr 23))), (14, .aload_n 0, 1, .inl ()), (15, .ldc 43, 2, .inr (.inr (.inl (-2000000)))), (17, .ldc 44, 2, .inr (.inr (.inl (4000000)))), (19, .invokevirtual 45, 3, .inr (.inr (.inr 53))), (22, .return_, 1, .inl ()), (23, .ldc 43, 2, .inr (.inr (.inl (-2000000)))), (25, .istore_n 3, 1, .inl ()), (26, .iconst 0, 1, .inl ()), (27, .istore 4, 2, .inl ()), (29, .iload 4, 2, .inl ()), (31, .iload_n 1, 1, .inl ()), (32, .iadd, 1, .inl ()), (33, .iconst 2, 1, .inl ()), (34, .isub, 1, .inl ()), (35, .aload_n 0, 1, .inl ()), (36, .getfield 21, 3, .inr (.inl (6, 1))), (39, .if_icmp .ge 74, 3, .inr (.inr (.inr 113))), (42, .iload 4, 2, .inl ()), (44, .iload_n 1, 1, .inl ()), (45, .iadd, 1, .inl ()), (46, .iconst 2, 1, .inl ()), (47, .isub, 1, .inl ()), (48, .istore 5, 2, .inl ()), (50, .aload_n 0, 1, .inl ()), (51, .getfield 9, 3, .inr (.inl (6, 0))), (54, .iload 5, 2, .inl ()), (56, .iaload, 1, .inl ()), (57, .aload_n 0, 1, .inl ()), (58, .getfield 9, 3, .inr (.inl (6, 0))), (61, .iload 4, 2, .inl ()), (63, .iaload, 1, .inl ()), (64, .isub, 1, .inl ()), (65, .iload_n 2, 1, .inl ()), (66, .if_icmp .gt 41, 3, .inr (.inr (.inr 107))), (69, .aload_n 0, 1, .inl ()), (70, .aload_n 0, 1, .inl ()), (71, .getfield 9, 3, .inr (.inl (6, 0))), (74, .iload 5, 2, .inl ()), (76, .iaload, 1, .inl ()), (77, .iload_n 2, 1, .inl ()), (78, .isub, 1, .inl ()), (79, .iload_n 3, 1, .inl ())]
def K_Row_findSpans_1 : List CE := [(80, .iconst 1, 1, .inl ()), (81, .iadd, 1, .inl ()), (82, .invokestatic 49, 3, .inr (.inl (0, 0))), (85, .aload_n 0, 1, .inl ()), (86, .getfield 9, 3, .inr (.inl (6, 0))), (89, .iload 4, 2, .inl ()), (91, .iaload, 1, .inl ()), (92, .iload_n 2, 1, .inl ()), (93, .iadd, 1, .inl ()), (94, .invokevirtual 45, 3, .inr (.inr (.inr 53))), (97, .aload_n 0, 1, .inl ()), (98, .getfield 9, 3, .inr (.inl (6, 0))), (101, .iload 4, 2, .inl ()), (103, .iaload, 1, .inl ()), (104, .iload_n 2, 1, .inl ()), (105, .iadd, 1, .inl ()), (106, .istore_n 3, 1, .inl ()), (107, .iinc 4 1, 3, .inl ()), (110, .goto (-81), 3, .inr (.inr (.inr 29))), (113, .return_, 1, .inl ())]
def K_Row_findSpans : List CE := K_Row_findSpans_0 ++ (K_Row_findSpans_1)
theorem ok_Row_findSpans : okM H_Row_findSpans K_Row_findSpans = true := by decide +kernel
def K_Row_addSpan : List CE := [(0, .aload_n 0, 1, .inl ()), (1, .getfield 36, 3, .inr (.inl (6, 4))), (4, .iconst 4, 1, .inl ()), (5, .if_icmp .ge 33, 3, .inr (.inr (.inr 38))), (8, .aload_n 0, 1, .inl ()), (9, .getfield 15, 3, .inr (.inl (6, 2))), (12, .aload_n 0, 1, .inl ()), (13, .getfield 36, 3, .inr (.inl (6, 4))), (16, .iload_n 1, 1, .inl ()), (17, .iastore, 1, .inl ()), (18, .aload_n 0, 1, .inl ()), (19, .getfield 18, 3, .inr (.inl (6, 3))), (22, .aload_n 0, 1, .inl ()), (23, .getfield 36, 3, .inr (.inl (6, 4))), (26, .iload_n 2, 1, .inl ()), (27, .iastore, 1, .inl ()), (28, .aload_n 0, 1, .inl ()), (29, .dup, 1, .inl ()), (30, .getfield 36, 3, .inr (.inl (6, 4))), (33, .iconst 1, 1, .inl ()), (34, .iadd, 1, .inl ()), (35, .putfield 36, 3, .inr (.inl (6, 4))), (38, .return_, 1, .inl ())]
theorem ok_Row_addSpan : okM H_Row_addSpan K_Row_addSpan = true := by decide +kernel
def K_Solo_trySimple_0 : List CE := [(0, .aload_n 0, 1, .inl ()), (1, .invokevirtual 22, 3, .inr (.inr (.inr 57))), (4, .iload 5, 2, .inl ()), (6, .ifCond .eq 14, 3, .inr (.inr (.inr 20))), (9, .iconst 1, 1, .inl ()), (10, .aload_n 2, 1, .inl ()), (11, .getfield 25, 3, .inr (.inl (2, 1))), (14, .ishl, 1, .inl ()), (15, .iconst 1, 1, .inl ()), (16, .isub, 1, .inl ()), (17, .goto 9, 3, .inr (.inr (.inr 26))), (20, .aload_n 2, 1, .inl ()), (21, .iload 4, 2, .inl ()), (23, .invokevirtual 31, 3, .inr (.inr (.inr 27))), (26, .istore 6, 2, .inl ()), (28, .aload_n 1, 1, .inl ()), (29, .aload_n 2, 1, .inl ()), (30, .aload_n 3, 1, .inl ()), (31, .iload 6, 2, .inl ()), (33, .invokevirtual 35, 3, .inr (.inr (.inr 76))), (36, .istore 7, 2, .inl ()), (38, .iconst 0, 1, .inl ()), (39, .istore 8, 2, .inl ()), (41, .iload 8, 2, .inl ()), (43, .iload 7, 2, .inl ()), (45, .if_icmp .ge 78, 3, .inr (.inr (.inr 123))), (48, .aload_n 0, 1, .inl ()), (49, .aload_n 1, 1, .inl ()), (50, .iload 4, 2, .inl ()), (52, .invokevirtual 41, 3, .inr (.inr (.inr 58))), (55, .iconst 0, 1, .inl ()), (56, .istore 9, 2, .inl ()), (58, .iload 9, 2, .inl ()), (60, .aload_n 2, 1, .inl ()), (61, .getfield 25, 3, .inr (.inl (2, 1))), (64, .if_icmp .ge 49, 3, .inr (.inr (.inr 113))), (67, .iload 5, 2, .inl ()), (69, .ifCond .eq 13, 3, .inr (.inr (.inr 82))), (72, .aload_n 1, 1, .inl ()), (73, .getfield 45, 3, .inr (.inl (10, 7))), (76, .iload 9, 2, .inl ()), (78, .iaload, 1, .inl ()), (79, .goto 11, 3, .inr (.inr (.inr 90))), (82, .aload_n 1, 1, .inl ()), (83, .iload 4, 2, .inl ()), (85, .iload 9, 2, .inl ()), (87, .invokevirtual 48, 3, .inr (.inr (.inr 81))), (90, .istore 10, 2, .inl ()), (92, .aload_n 0, 1, .inl ()), (93, .iload 9, 2, .inl ())]
def K_Solo_trySimple_1 : List CE := [(95, .bipush 10, 2, .inl ()), (97, .imul, 1, .inl ()), (98, .iload 10, 2, .inl ()), (100, .aload_n 1, 1, .inl ()), (101, .getfield 52, 3, .inr (.inl (10, 2))), (104, .invokevirtual 55, 3, .inr (.inr (.inr 59))), (107, .iinc 9 1, 3, .inl ()), (110, .goto (-52), 3, .inr (.inr (.inr 58))), (113, .aload_n 1, 1, .inl ()), (114, .invokevirtual 59, 3, .inr (.inr (.inr 77))), (117, .iinc 8 1, 3, .inl ()), (120, .goto (-79), 3, .inr (.inr (.inr 41))), (123, .return_, 1, .inl ())]
def K_Solo_trySimple : List CE := K_Solo_trySimple_0 ++ (K_Solo_trySimple_1)
theorem ok_Solo_trySimple : okM H_Solo_trySimple K_Solo_trySimple = true := by decide +kernel
def K_Solo_tryWaiting : List CE := [(0, .aload_n 0, 1, .inl ()), (1, .invokevirtual 22, 3, .inr (.inr (.inr 57))), (4, .aload_n 1, 1, .inl ()), (5, .aload_n 2, 1, .inl ()), (6, .aload_n 3, 1, .inl ()), (7, .iconst 0, 1, .inl ()), (8, .invokevirtual 35, 3, .inr (.inr (.inr 76))), (11, .istore 5, 2, .inl ()), (13, .iconst 0, 1, .inl ()), (14, .istore 6, 2, .inl ()), (16, .iload 6, 2, .inl ()), (18, .iload 5, 2, .inl ()), (20, .if_icmp .ge 36, 3, .inr (.inr (.inr 56))), (23, .aload_n 0, 1, .inl ()), (24, .aload_n 1, 1, .inl ()), (25, .iload 4, 2, .inl ()), (27, .invokevirtual 41, 3, .inr (.inr (.inr 58))), (30, .aload_n 0, 1, .inl ()), (31, .iconst 0, 1, .inl ()), (32, .aload_n 1, 1, .inl ()), (33, .getfield 62, 3, .inr (.inl (10, 8))), (36, .iload 4, 2, .inl ()), (38, .iaload, 1, .inl ()), (39, .aload_n 1, 1, .inl ()), (40, .getfield 52, 3, .inr (.inl (10, 2))), (43, .invokevirtual 55, 3, .inr (.inr (.inr 59))), (46, .aload_n 1, 1, .inl ()), (47, .invokevirtual 59, 3, .inr (.inr (.inr 77))), (50, .iinc 6 1, 3, .inl ()), (53, .goto (-37), 3, .inr (.inr (.inr 16))), (56, .return_, 1, .inl ())]
theorem ok_Solo_tryWaiting : okM H_Solo_tryWaiting K_Solo_tryWaiting = true := by decide +kernel
def K_Solo_answer : List CE := [(0, .iconst 0, 1, .inl ()), (1, .istore_n 3, 1, .inl ()), (2, .iconst 1, 1, .inl ()), (3, .istore 4, 2, .inl ()), (5, .iload 4, 2, .inl ()), (7, .iload_n 1, 1, .inl ()), (8, .if_icmp .ge 35, 3, .inr (.inr (.inr 43))), (11, .iload 4, 2, .inl ()), (13, .bipush 50, 2, .inl ()), (15, .if_icmp .ge 28, 3, .inr (.inr (.inr 43))), (18, .aload_n 0, 1, .inl ()), (19, .getfield 9, 3, .inr (.inl (7, 0))), (22, .iload 4, 2, .inl ()), (24, .iaload, 1, .inl ()), (25, .aload_n 0, 1, .inl ()), (26, .getfield 9, 3, .inr (.inl (7, 0))), (29, .iload_n 3, 1, .inl ()), (30, .iaload, 1, .inl ()), (31, .if_icmp .le 6, 3, .inr (.inr (.inr 37))), (34, .iload 4, 2, .inl ()), (36, .istore_n 3, 1, .inl ()), (37, .iinc 4 1, 3, .inl ()), (40, .goto (-35), 3, .inr (.inr (.inr 5))), (43, .iload_n 2, 1, .inl ()), (44, .ifCond .ne 7, 3, .inr (.inr (.inr 51))), (47, .iload_n 3, 1, .inl ()), (48, .goto 9, 3, .inr (.inr (.inr 57))), (51, .aload_n 0, 1, .inl ()), (52, .getfield 9, 3, .inr (.inl (7, 0))), (55, .iload_n 3, 1, .inl ()), (56, .iaload, 1, .inl ()), (57, .ireturn, 1, .inl ())]
theorem ok_Solo_answer : okM H_Solo_answer K_Solo_answer = true := by decide +kernel
def K_Solo_clear : List CE := [(0, .iconst 0, 1, .inl ()), (1, .istore_n 1, 1, .inl ()), (2, .iload_n 1, 1, .inl ()), (3, .bipush 50, 2, .inl ()), (5, .if_icmp .ge 16, 3, .inr (.inr (.inr 21))), (8, .aload_n 0, 1, .inl ()), (9, .getfield 9, 3, .inr (.inl (7, 0))), (12, .iload_n 1, 1, .inl ()), (13, .iconst 0, 1, .inl ()), (14, .iastore, 1, .inl ()), (15, .iinc 1 1, 3, .inl ()), (18, .goto (-16), 3, .inr (.inr (.inr 2))), (21, .return_, 1, .inl ())]
theorem ok_Solo_clear : okM H_Solo_clear K_Solo_clear = true := by decide +kernel
def K_Solo_findSpans : List CE := [(0, .aload_n 0, 1, .inl ()), (1, .getfield 18, 3, .inr (.inl (7, 1))), (4, .aload_n 1, 1, .inl ()), (5, .getfield 62, 3, .inr (.inl (10, 8))), (8, .aload_n 1, 1, .inl ()), (9, .getfield 65, 3, .inr (.inl (10, 1))), (12, .getfield 69, 3, .inr (.inl (2, 0))), (15, .iload_n 2, 1, .inl ()), (16, .iconst (-1), 1, .inl ()), (17, .invokevirtual 72, 3, .inr (.inr (.inr 47))), (20, .aload_n 0, 1, .inl ()), (21, .getfield 18, 3, .inr (.inl (7, 1))), (24, .aload_n 1, 1, .inl ()), (25, .getfield 65, 3, .inr (.inl (10, 1))), (28, .getfield 76, 3, .inr (.inl (2, 4))), (31, .aload_n 1, 1, .inl ()), (32, .getfield 65, 3, .inr (.inl (10, 1))), (35, .getfield 79, 3, .inr (.inl (2, 5))), (38, .invokevirtual 82, 3, .inr (.inr (.inr 52))), (41, .return_, 1, .inl ())]
theorem ok_Solo_findSpans : okM H_Solo_findSpans K_Solo_findSpans = true := by decide +kernel
def K_Solo_addOpen : List CE := [(0, .iconst 0, 1, .inl ()), (1, .istore 4, 2, .inl ()), (3, .iload 4, 2, .inl ()), (5, .aload_n 0, 1, .inl ()), (6, .getfield 18, 3, .inr (.inl (7, 1))), (9, .getfield 85, 3, .inr (.inl (6, 4))), (12, .if_icmp .ge 42, 3, .inr (.inr (.inr 54))), (15, .aload_n 0, 1, .inl ()), (16, .getfield 9, 3, .inr (.inl (7, 0))), (19, .iload_n 1, 1, .inl ()), (20, .aload_n 0, 1, .inl ()), (21, .getfield 18, 3, .inr (.inl (7, 1))), (24, .getfield 88, 3, .inr (.inl (6, 2))), (27, .iload 4, 2, .inl ()), (29, .iaload, 1, .inl ()), (30, .iload_n 2, 1, .inl ()), (31, .isub, 1, .inl ()), (32, .aload_n 0, 1, .inl ()), (33, .getfield 18, 3, .inr (.inl (7, 1))), (36, .getfield 91, 3, .inr (.inl (6, 3))), (39, .iload 4, 2, .inl ()), (41, .iaload, 1, .inl ()), (42, .iload_n 2, 1, .inl ()), (43, .isub, 1, .inl ()), (44, .iload_n 3, 1, .inl ()), (45, .invokestatic 94, 3, .inr (.inr (.inr 14))), (48, .iinc 4 1, 3, .inl ()), (51, .goto (-48), 3, .inr (.inr (.inr 3))), (54, .return_, 1, .inl ())]
theorem ok_Solo_addOpen : okM H_Solo_addOpen K_Solo_addOpen = true := by decide +kernel
def K_Survey_take : List CE := [(0, .aload_n 0, 1, .inl ()), (1, .invokevirtual 24, 3, .inr (.inr (.inr 62))), (4, .aload_n 1, 1, .inl ()), (5, .aload_n 2, 1, .inl ()), (6, .aload_n 3, 1, .inl ()), (7, .iconst 0, 1, .inl ()), (8, .invokevirtual 27, 3, .inr (.inr (.inr 76))), (11, .istore 4, 2, .inl ()), (13, .iconst 0, 1, .inl ()), (14, .istore 5, 2, .inl ()), (16, .iload 5, 2, .inl ()), (18, .iload 4, 2, .inl ()), (20, .if_icmp .ge 92, 3, .inr (.inr (.inr 112))), (23, .aload_n 0, 1, .inl ()), (24, .aload_n 1, 1, .inl ()), (25, .invokevirtual 33, 3, .inr (.inr (.inr 63))), (28, .aload_n 1, 1, .inl ()), (29, .getfield 37, 3, .inr (.inl (10, 9))), (32, .aload_n 1, 1, .inl ()), (33, .getfield 41, 3, .inr (.inl (10, 8))), (36, .aload_n 2, 1, .inl ()), (37, .getfield 44, 3, .inr (.inl (2, 0))), (40, .iconst (-1), 1, .inl ()), (41, .iconst (-1), 1, .inl ()), (42, .invokevirtual 50, 3, .inr (.inr (.inr 47))), (45, .aload_n 0, 1, .inl ()), (46, .aload_n 1, 1, .inl ()), (47, .getfield 37, 3, .inr (.inl (10, 9))), (50, .aload_n 2, 1, .inl ()), (51, .getfield 56, 3, .inr (.inl (2, 4))), (54, .invokevirtual 59, 3, .inr (.inr (.inr 50))), (57, .invokevirtual 63, 3, .inr (.inr (.inr 64))), (60, .aload_n 1, 1, .inl ()), (61, .getfield 37, 3, .inr (.inl (10, 9))), (64, .aload_n 2, 1, .inl ()), (65, .getfield 56, 3, .inr (.inl (2, 4))), (68, .aload_n 2, 1, .inl ()), (69, .getfield 67, 3, .inr (.inl (2, 5))), (72, .invokevirtual 70, 3, .inr (.inr (.inr 51))), (75, .istore 6, 2, .inl ()), (77, .iload 6, 2, .inl ()), (79, .ldc 74, 2, .inr (.inr (.inl (1000000)))), (81, .if_icmp .ge 16, 3, .inr (.inr (.inr 97))), (84, .aload_n 0, 1, .inl ()), (85, .iload 6, 2, .inl ()), (87, .aload_n 1, 1, .inl ()), (88, .getfield 75, 3, .inr (.inl (10, 2))), (91, .invokevirtual 78, 3, .inr (.inr (.inr 65))), (94, .goto 8, 3, .inr (.inr (.inr 102))), (97, .aload_n 0, 1, .inl ()), (98, .aload_n 1, 1, .inl ()), (99, .invokevirtual 82, 3, .inr (.inr (.inr 66))), (102, .aload_n 1, 1, .inl ()), (103, .invokevirtual 85, 3, .inr (.inr (.inr 77))), (106, .iinc 5 1, 3, .inl ()), (109, .goto (-93), 3, .inr (.inr (.inr 16))), (112, .aload_n 0, 1, .inl ()), (113, .iconst 1, 1, .inl ()), (114, .putfield 88, 3, .inr (.inl (8, 0))), (117, .return_, 1, .inl ())]
theorem ok_Survey_take : okM H_Survey_take K_Survey_take = true := by decide +kernel
def K_Survey_openSets_0 : List CE := [(0, .aload_n 0, 1, .inl ()), (1, .getfield 92, 3, .inr (.inl (8, 1))), (4, .ifCond .eq 8, 3, .inr (.inr (.inr 12))), (7, .aload_n 0, 1, .inl ()), (8, .getfield 95, 3, .inr (.inl (8, 13))), (11, .ireturn, 1, .inl ()), (12, .iconst 1, 1, .inl ()), (13, .aload_n 2, 1, .inl ()), (14, .getfield 44, 3, .inr (.inl (2, 0))), (17, .ishl, 1, .inl ()), (18, .istore 4, 2, .inl ()), (20, .aload_n 1, 1, .inl ()), (21, .aload_n 2, 1, .inl ()), (22, .aload_n 3, 1, .inl ()), (23, .iconst 0, 1, .inl ()), (24, .invokevirtual 27, 3, .inr (.inr (.inr 76))), (27, .istore 5, 2, .inl ()), (29, .aload_n 0, 1, .inl ()), (30, .iconst 1, 1, .inl ()), (31, .iload 4, 2, .inl ()), (33, .ishl, 1, .inl ()), (34, .iconst 2, 1, .inl ()), (35, .isub, 1, .inl ()), (36, .putfield 95, 3, .inr (.inl (8, 13))), (39, .iconst 0, 1, .inl ()), (40, .istore 6, 2, .inl ()), (42, .iload 6, 2, .inl ()), (44, .iload 5, 2, .inl ()), (46, .if_icmp .ge 72, 3, .inr (.inr (.inr 118))), (49, .aload_n 0, 1, .inl ()), (50, .getfield 95, 3, .inr (.inl (8, 13))), (53, .ifCond .eq 65, 3, .inr (.inr (.inr 118))), (56, .iconst 1, 1, .inl ()), (57, .istore 7, 2, .inl ()), (59, .iload 7, 2, .inl ()), (61, .iload 4, 2, .inl ()), (63, .if_icmp .ge 45, 3, .inr (.inr (.inr 108))), (66, .aload_n 0, 1, .inl ()), (67, .getfield 95, 3, .inr (.inl (8, 13))), (70, .iload 7, 2, .inl ()), (72, .ishr, 1, .inl ()), (73, .iconst 1, 1, .inl ()), (74, .iand, 1, .inl ()), (75, .ifCond .eq 27, 3, .inr (.inr (.inr 102))), (78, .aload_n 1, 1, .inl ()), (79, .iload 7, 2, .inl ()), (81, .invokevirtual 98, 3, .inr (.inr (.inr 79))), (84, .ifCond .ne 18, 3, .inr (.inr (.inr 102))), (87, .aload_n 0, 1, .inl ()), (88, .dup, 1, .inl ())]
def K_Survey_openSets_1 : List CE := [(89, .getfield 95, 3, .inr (.inl (8, 13))), (92, .iconst 1, 1, .inl ()), (93, .iload 7, 2, .inl ()), (95, .ishl, 1, .inl ()), (96, .iconst (-1), 1, .inl ()), (97, .ixor, 1, .inl ()), (98, .iand, 1, .inl ()), (99, .putfield 95, 3, .inr (.inl (8, 13))), (102, .iinc 7 1, 3, .inl ()), (105, .goto (-46), 3, .inr (.inr (.inr 59))), (108, .aload_n 1, 1, .inl ()), (109, .invokevirtual 85, 3, .inr (.inr (.inr 77))), (112, .iinc 6 1, 3, .inl ()), (115, .goto (-73), 3, .inr (.inr (.inr 42))), (118, .aload_n 0, 1, .inl ()), (119, .iconst 1, 1, .inl ()), (120, .putfield 92, 3, .inr (.inl (8, 1))), (123, .aload_n 0, 1, .inl ()), (124, .getfield 95, 3, .inr (.inl (8, 13))), (127, .ireturn, 1, .inl ())]
def K_Survey_openSets : List CE := K_Survey_openSets_0 ++ (K_Survey_openSets_1)
theorem ok_Survey_openSets : okM H_Survey_openSets K_Survey_openSets = true := by decide +kernel
def K_Survey_clear : List CE := [(0, .aload_n 0, 1, .inl ()), (1, .iconst 0, 1, .inl ()), (2, .putfield 102, 3, .inr (.inl (8, 2))), (5, .iconst 0, 1, .inl ()), (6, .istore_n 1, 1, .inl ()), (7, .iload_n 1, 1, .inl ()), (8, .iconst 4, 1, .inl ()), (9, .if_icmp .ge 39, 3, .inr (.inr (.inr 48))), (12, .aload_n 0, 1, .inl ()), (13, .getfield 9, 3, .inr (.inl (8, 3))), (16, .iload_n 1, 1, .inl ()), (17, .ldc 74, 2, .inr (.inr (.inl (1000000)))), (19, .iastore, 1, .inl ()), (20, .aload_n 0, 1, .inl ()), (21, .getfield 15, 3, .inr (.inl (8, 4))), (24, .iload_n 1, 1, .inl ()), (25, .ldc 74, 2, .inr (.inr (.inl (1000000)))), (27, .iastore, 1, .inl ()), (28, .aload_n 0, 1, .inl ()), (29, .getfield 18, 3, .inr (.inl (8, 5))), (32, .iload_n 1, 1, .inl ()), (33, .iconst 0, 1, .inl ()), (34, .iastore, 1, .inl ()), (35, .aload_n 0, 1, .inl ()), (36, .getfield 21, 3, .inr (.inl (8, 6))), (39, .iload_n 1, 1, .inl ()), (40, .iconst 0, 1, .inl ()), (41, .iastore, 1, .inl ()), (42, .iinc 1 1, 3, .inl ()), (45, .goto (-38), 3, .inr (.inr (.inr 7))), (48, .aload_n 0, 1, .inl ()), (49, .ldc 74, 2, .inr (.inr (.inl (1000000)))), (51, .putfield 105, 3, .inr (.inl (8, 7))), (54, .aload_n 0, 1, .inl ()), (55, .iconst 0, 1, .inl ()), (56, .putfield 108, 3, .inr (.inl (8, 8))), (59, .aload_n 0, 1, .inl ()), (60, .iconst 0, 1, .inl ()), (61, .putfield 111, 3, .inr (.inl (8, 9))), (64, .aload_n 0, 1, .inl ()), (65, .ldc 74, 2, .inr (.inr (.inl (1000000)))), (67, .putfield 114, 3, .inr (.inl (8, 10))), (70, .aload_n 0, 1, .inl ()), (71, .ldc 117, 2, .inr (.inr (.inl (-1000000)))), (73, .putfield 118, 3, .inr (.inl (8, 11))), (76, .aload_n 0, 1, .inl ()), (77, .iconst 0, 1, .inl ()), (78, .putfield 121, 3, .inr (.inl (8, 12))), (81, .return_, 1, .inl ())]
theorem ok_Survey_clear : okM H_Survey_clear K_Survey_clear = true := by decide +kernel
def K_Survey_seeTurns_0 : List CE := [(0, .iconst 0, 1, .inl ()), (1, .istore_n 2, 1, .inl ()), (2, .iload_n 2, 1, .inl ()), (3, .aload_n 1, 1, .inl ()), (4, .getfield 124, 3, .inr (.inl (10, 1))), (7, .getfield 44, 3, .inr (.inl (2, 0))), (10, .if_icmp .ge 106, 3, .inr (.inr (.inr 116))), (13, .aload_n 1, 1, .inl ()), (14, .getfield 41, 3, .inr (.inl (10, 8))), (17, .iload_n 2, 1, .inl ()), (18, .iaload, 1, .inl ()), (19, .istore_n 3, 1, .inl ()), (20, .iload_n 3, 1, .inl ()), (21, .ldc 74, 2, .inr (.inr (.inl (1000000)))), (23, .if_icmp .lt 19, 3, .inr (.inr (.inr 42))), (26, .aload_n 0, 1, .inl ()), (27, .getfield 18, 3, .inr (.inl (8, 5))), (30, .iload_n 2, 1, .inl ()), (31, .dup2, 1, .inl ()), (32, .iaload, 1, .inl ()), (33, .aload_n 1, 1, .inl ()), (34, .getfield 75, 3, .inr (.inl (10, 2))), (37, .iadd, 1, .inl ()), (38, .iastore, 1, .inl ()), (39, .goto 71, 3, .inr (.inr (.inr 110))), (42, .aload_n 0, 1, .inl ()), (43, .getfield 9, 3, .inr (.inl (8, 3))), (46, .iload_n 2, 1, .inl ()), (47, .iaload, 1, .inl ()), (48, .ldc 74, 2, .inr (.inr (.inl (1000000)))), (50, .if_icmp .lt 7, 3, .inr (.inr (.inr 57))), (53, .iconst 1, 1, .inl ()), (54, .goto 4, 3, .inr (.inr (.inr 58))), (57, .iconst 0, 1, .inl ()), (58, .istore 4, 2, .inl ()), (60, .aload_n 0, 1, .inl ()), (61, .getfield 9, 3, .inr (.inl (8, 3))), (64, .iload_n 2, 1, .inl ()), (65, .iload 4, 2, .inl ()), (67, .ifCond .eq 7, 3, .inr (.inr (.inr 74))), (70, .iload_n 3, 1, .inl ()), (71, .goto 13, 3, .inr (.inr (.inr 84))), (74, .aload_n 0, 1, .inl ()), (75, .getfield 9, 3, .inr (.inl (8, 3))), (78, .iload_n 2, 1, .inl ()), (79, .iaload, 1, .inl ()), (80, .iload_n 3, 1, .inl ()), (81, .invokestatic 128, 3, .inr (.inl (1, 0))), (84, .iastore, 1, .inl ()), (85, .aload_n 0, 1, .inl ())]
def K_Survey_seeTurns_1 : List CE := [(86, .getfield 15, 3, .inr (.inl (8, 4))), (89, .iload_n 2, 1, .inl ()), (90, .iload 4, 2, .inl ()), (92, .ifCond .eq 7, 3, .inr (.inr (.inr 99))), (95, .iload_n 3, 1, .inl ()), (96, .goto 13, 3, .inr (.inr (.inr 109))), (99, .aload_n 0, 1, .inl ()), (100, .getfield 15, 3, .inr (.inl (8, 4))), (103, .iload_n 2, 1, .inl ()), (104, .iaload, 1, .inl ()), (105, .iload_n 3, 1, .inl ()), (106, .invokestatic 133, 3, .inr (.inl (0, 0))), (109, .iastore, 1, .inl ()), (110, .iinc 2 1, 3, .inl ()), (113, .goto (-111), 3, .inr (.inr (.inr 2))), (116, .return_, 1, .inl ())]
def K_Survey_seeTurns : List CE := K_Survey_seeTurns_0 ++ (K_Survey_seeTurns_1)
theorem ok_Survey_seeTurns : okM H_Survey_seeTurns K_Survey_seeTurns = true := by decide +kernel
def K_Survey_seeSpread : List CE := [(0, .iload_n 1, 1, .inl ()), (1, .ldc 74, 2, .inr (.inr (.inl (1000000)))), (3, .if_icmp .lt 11, 3, .inr (.inr (.inr 14))), (6, .aload_n 0, 1, .inl ()), (7, .iconst 1, 1, .inl ()), (8, .putfield 111, 3, .inr (.inl (8, 9))), (11, .goto 27, 3, .inr (.inr (.inr 38))), (14, .aload_n 0, 1, .inl ()), (15, .aload_n 0, 1, .inl ()), (16, .getfield 105, 3, .inr (.inl (8, 7))), (19, .iload_n 1, 1, .inl ()), (20, .invokestatic 128, 3, .inr (.inl (1, 0))), (23, .putfield 105, 3, .inr (.inl (8, 7))), (26, .aload_n 0, 1, .inl ()), (27, .aload_n 0, 1, .inl ()), (28, .getfield 108, 3, .inr (.inl (8, 8))), (31, .iload_n 1, 1, .inl ()), (32, .invokestatic 133, 3, .inr (.inl (0, 0))), (35, .putfield 108, 3, .inr (.inl (8, 8))), (38, .return_, 1, .inl ())]
theorem ok_Survey_seeSpread : okM H_Survey_seeSpread K_Survey_seeSpread = true := by decide +kernel
def K_Survey_seeMoment : List CE := [(0, .aload_n 0, 1, .inl ()), (1, .dup, 1, .inl ()), (2, .getfield 102, 3, .inr (.inl (8, 2))), (5, .iload_n 2, 1, .inl ()), (6, .iadd, 1, .inl ()), (7, .putfield 102, 3, .inr (.inl (8, 2))), (10, .aload_n 0, 1, .inl ()), (11, .aload_n 0, 1, .inl ()), (12, .getfield 114, 3, .inr (.inl (8, 10))), (15, .iload_n 1, 1, .inl ()), (16, .invokestatic 128, 3, .inr (.inl (1, 0))), (19, .putfield 114, 3, .inr (.inl (8, 10))), (22, .aload_n 0, 1, .inl ()), (23, .aload_n 0, 1, .inl ()), (24, .getfield 118, 3, .inr (.inl (8, 11))), (27, .iload_n 1, 1, .inl ()), (28, .invokestatic 133, 3, .inr (.inl (0, 0))), (31, .putfield 118, 3, .inr (.inl (8, 11))), (34, .aload_n 0, 1, .inl ()), (35, .dup, 1, .inl ()), (36, .getfield 121, 3, .inr (.inl (8, 12))), (39, .iload_n 1, 1, .inl ()), (40, .iload_n 2, 1, .inl ()), (41, .imul, 1, .inl ()), (42, .iadd, 1, .inl ()), (43, .putfield 121, 3, .inr (.inl (8, 12))), (46, .return_, 1, .inl ())]
theorem ok_Survey_seeMoment : okM H_Survey_seeMoment K_Survey_seeMoment = true := by decide +kernel
def K_Survey_seeFirst : List CE := [(0, .iconst (-1), 1, .inl ()), (1, .istore_n 2, 1, .inl ()), (2, .ldc 74, 2, .inr (.inr (.inl (1000000)))), (4, .istore_n 3, 1, .inl ()), (5, .iconst 0, 1, .inl ()), (6, .istore 4, 2, .inl ()), (8, .iload 4, 2, .inl ()), (10, .aload_n 1, 1, .inl ()), (11, .getfield 124, 3, .inr (.inl (10, 1))), (14, .getfield 44, 3, .inr (.inl (2, 0))), (17, .if_icmp .ge 31, 3, .inr (.inr (.inr 48))), (20, .aload_n 1, 1, .inl ()), (21, .getfield 41, 3, .inr (.inl (10, 8))), (24, .iload 4, 2, .inl ()), (26, .iaload, 1, .inl ()), (27, .iload_n 3, 1, .inl ()), (28, .if_icmp .ge 14, 3, .inr (.inr (.inr 42))), (31, .aload_n 1, 1, .inl ()), (32, .getfield 41, 3, .inr (.inl (10, 8))), (35, .iload 4, 2, .inl ()), (37, .iaload, 1, .inl ()), (38, .istore_n 3, 1, .inl ()), (39, .iload 4, 2, .inl ()), (41, .istore_n 2, 1, .inl ()), (42, .iinc 4 1, 3, .inl ()), (45, .goto (-37), 3, .inr (.inr (.inr 8))), (48, .iload_n 2, 1, .inl ()), (49, .ifCond .lt 16, 3, .inr (.inr (.inr 65))), (52, .aload_n 0, 1, .inl ()), (53, .getfield 21, 3, .inr (.inl (8, 6))), (56, .iload_n 2, 1, .inl ()), (57, .dup2, 1, .inl ()), (58, .iaload, 1, .inl ()), (59, .aload_n 1, 1, .inl ()), (60, .getfield 75, 3, .inr (.inl (10, 2))), (63, .iadd, 1, .inl ()), (64, .iastore, 1, .inl ()), (65, .return_, 1, .inl ())]
theorem ok_Survey_seeFirst : okM H_Survey_seeFirst K_Survey_seeFirst = true := by decide +kernel
def K_Tape_filled : List CE := [(0, .iconst 0, 1, .inl ()), (1, .istore_n 1, 1, .inl ()), (2, .iconst 0, 1, .inl ()), (3, .istore_n 2, 1, .inl ()), (4, .iload_n 2, 1, .inl ()), (5, .bipush 32, 2, .inl ()), (7, .if_icmp .ge 22, 3, .inr (.inr (.inr 29))), (10, .iload_n 0, 1, .inl ()), (11, .iload_n 2, 1, .inl ()), (12, .iushr, 1, .inl ()), (13, .sipush 255, 3, .inl ()), (16, .iand, 1, .inl ()), (17, .ifCond .eq 6, 3, .inr (.inr (.inr 23))), (20, .iinc 1 1, 3, .inl ()), (23, .iinc 2 8, 3, .inl ()), (26, .goto (-22), 3, .inr (.inr (.inr 4))), (29, .iload_n 1, 1, .inl ()), (30, .ireturn, 1, .inl ())]
theorem ok_Tape_filled : okM H_Tape_filled K_Tape_filled = true := by decide +kernel
def K_Tape_add : List CE := [(0, .bipush 24, 2, .inl ()), (2, .istore_n 2, 1, .inl ()), (3, .iload_n 2, 1, .inl ()), (4, .ifCond .lt 51, 3, .inr (.inr (.inr 55))), (7, .iload_n 1, 1, .inl ()), (8, .iload_n 2, 1, .inl ()), (9, .iushr, 1, .inl ()), (10, .sipush 255, 3, .inl ()), (13, .iand, 1, .inl ()), (14, .istore_n 3, 1, .inl ()), (15, .iload_n 3, 1, .inl ()), (16, .ifCond .eq 33, 3, .inr (.inr (.inr 49))), (19, .aload_n 0, 1, .inl ()), (20, .getfield 19, 3, .inr (.inl (9, 1))), (23, .sipush 160, 3, .inl ()), (26, .if_icmp .ge 23, 3, .inr (.inr (.inr 49))), (29, .aload_n 0, 1, .inl ()), (30, .getfield 9, 3, .inr (.inl (9, 0))), (33, .aload_n 0, 1, .inl ()), (34, .getfield 19, 3, .inr (.inl (9, 1))), (37, .iload_n 3, 1, .inl ()), (38, .iastore, 1, .inl ()), (39, .aload_n 0, 1, .inl ()), (40, .dup, 1, .inl ()), (41, .getfield 19, 3, .inr (.inl (9, 1))), (44, .iconst 1, 1, .inl ()), (45, .iadd, 1, .inl ()), (46, .putfield 19, 3, .inr (.inl (9, 1))), (49, .iinc 2 (-8), 3, .inl ()), (52, .goto (-49), 3, .inr (.inr (.inr 3))), (55, .return_, 1, .inl ())]
theorem ok_Tape_add : okM H_Tape_add K_Tape_add = true := by decide +kernel
def K_Tape_rewind : List CE := [(0, .aload_n 0, 1, .inl ()), (1, .iconst 0, 1, .inl ()), (2, .putfield 22, 3, .inr (.inl (9, 2))), (5, .aload_n 0, 1, .inl ()), (6, .iconst (-1), 1, .inl ()), (7, .putfield 15, 3, .inr (.inl (9, 3))), (10, .return_, 1, .inl ())]
theorem ok_Tape_rewind : okM H_Tape_rewind K_Tape_rewind = true := by decide +kernel
def K_Tape_fail : List CE := [(0, .aload_n 0, 1, .inl ()), (1, .getfield 15, 3, .inr (.inl (9, 3))), (4, .iconst (-1), 1, .inl ()), (5, .if_icmp .ne 8, 3, .inr (.inr (.inr 13))), (8, .aload_n 0, 1, .inl ()), (9, .iload_n 1, 1, .inl ()), (10, .putfield 15, 3, .inr (.inl (9, 3))), (13, .return_, 1, .inl ())]
theorem ok_Tape_fail : okM H_Tape_fail K_Tape_fail = true := by decide +kernel
def K_Tape_isFine : List CE := [(0, .aload_n 0, 1, .inl ()), (1, .getfield 15, 3, .inr (.inl (9, 3))), (4, .iconst (-1), 1, .inl ()), (5, .if_icmp .ne 7, 3, .inr (.inr (.inr 12))), (8, .iconst 1, 1, .inl ()), (9, .goto 4, 3, .inr (.inr (.inr 13))), (12, .iconst 0, 1, .inl ()), (13, .ireturn, 1, .inl ())]
theorem ok_Tape_isFine : okM H_Tape_isFine K_Tape_isFine = true := by decide +kernel
def K_Tape_next : List CE := [(0, .aload_n 0, 1, .inl ()), (1, .getfield 22, 3, .inr (.inl (9, 2))), (4, .aload_n 0, 1, .inl ()), (5, .getfield 19, 3, .inr (.inl (9, 1))), (8, .if_icmp .ge 30, 3, .inr (.inr (.inr 38))), (11, .aload_n 0, 1, .inl ()), (12, .getfield 9, 3, .inr (.inl (9, 0))), (15, .aload_n 0, 1, .inl ()), (16, .getfield 22, 3, .inr (.inl (9, 2))), (19, .iaload, 1, .inl ()), (20, .bipush 32, 2, .inl ()), (22, .if_icmp .ne 16, 3, .inr (.inr (.inr 38))), (25, .aload_n 0, 1, .inl ()), (26, .dup, 1, .inl ()), (27, .getfield 22, 3, .inr (.inl (9, 2))), (30, .iconst 1, 1, .inl ()), (31, .iadd, 1, .inl ()), (32, .putfield 22, 3, .inr (.inl (9, 2))), (35, .goto (-35), 3, .inr (.inr (.inr 0))), (38, .aload_n 0, 1, .inl ()), (39, .getfield 22, 3, .inr (.inl (9, 2))), (42, .aload_n 0, 1, .inl ()), (43, .getfield 19, 3, .inr (.inl (9, 1))), (46, .if_icmp .ge 15, 3, .inr (.inr (.inr 61))), (49, .aload_n 0, 1, .inl ()), (50, .getfield 9, 3, .inr (.inl (9, 0))), (53, .aload_n 0, 1, .inl ()), (54, .getfield 22, 3, .inr (.inl (9, 2))), (57, .iaload, 1, .inl ()), (58, .goto 4, 3, .inr (.inr (.inr 62))), (61, .iconst (-1), 1, .inl ()), (62, .ireturn, 1, .inl ())]
theorem ok_Tape_next : okM H_Tape_next K_Tape_next = true := by decide +kernel
def K_Tape_number_0 : List CE := [(0, .aload_n 0, 1, .inl ()), (1, .invokevirtual 25, 3, .inr (.inr (.inr 72))), (4, .pop, 1, .inl ()), (5, .aload_n 0, 1, .inl ()), (6, .getfield 22, 3, .inr (.inl (9, 2))), (9, .istore_n 3, 1, .inl ()), (10, .iconst 0, 1, .inl ()), (11, .istore 4, 2, .inl ()), (13, .iconst 0, 1, .inl ()), (14, .istore 5, 2, .inl ()), (16, .iload 5, 2, .inl ()), (18, .iconst 2, 1, .inl ()), (19, .if_icmp .ge 50, 3, .inr (.inr (.inr 69))), (22, .aload_n 0, 1, .inl ()), (23, .aload_n 0, 1, .inl ()), (24, .getfield 22, 3, .inr (.inl (9, 2))), (27, .invokevirtual 29, 3, .inr (.inr (.inr 74))), (30, .ifCond .eq 39, 3, .inr (.inr (.inr 69))), (33, .bipush 10, 2, .inl ()), (35, .iload 4, 2, .inl ()), (37, .imul, 1, .inl ()), (38, .aload_n 0, 1, .inl ()), (39, .getfield 9, 3, .inr (.inl (9, 0))), (42, .aload_n 0, 1, .inl ()), (43, .getfield 22, 3, .inr (.inl (9, 2))), (46, .iaload, 1, .inl ()), (47, .iadd, 1, .inl ()), (48, .bipush 48, 2, .inl ()), (50, .isub, 1, .inl ()), (51, .istore 4, 2, .inl ()), (53, .aload_n 0, 1, .inl ()), (54, .dup, 1, .inl ()), (55, .getfield 22, 3, .inr (.inl (9, 2))), (58, .iconst 1, 1, .inl ()), (59, .iadd, 1, .inl ()), (60, .putfield 22, 3, .inr (.inl (9, 2))), (63, .iinc 5 1, 3, .inl ()), (66, .goto (-50), 3, .inr (.inr (.inr 16))), (69, .aload_n 0, 1, .inl ()), (70, .getfield 22, 3, .inr (.inl (9, 2))), (73, .iload_n 3, 1, .inl ()), (74, .if_icmp .eq 14, 3, .inr (.inr (.inr 88))), (77, .aload_n 0, 1, .inl ()), (78, .aload_n 0, 1, .inl ()), (79, .getfield 22, 3, .inr (.inl (9, 2))), (82, .invokevirtual 29, 3, .inr (.inr (.inr 74))), (85, .ifCond .eq 14, 3, .inr (.inr (.inr 99))), (88, .aload_n 0, 1, .inl ()), (89, .aload_n 0, 1, .inl ()), (90, .getfield 22, 3, .inr (.inl (9, 2)))]
def K_Tape_number_1 : List CE := [(93, .invokevirtual 33, 3, .inr (.inr (.inr 70))), (96, .goto 25, 3, .inr (.inr (.inr 121))), (99, .iload 4, 2, .inl ()), (101, .iload_n 1, 1, .inl ()), (102, .if_icmp .lt 9, 3, .inr (.inr (.inr 111))), (105, .iload 4, 2, .inl ()), (107, .iload_n 2, 1, .inl ()), (108, .if_icmp .le 13, 3, .inr (.inr (.inr 121))), (111, .aload_n 0, 1, .inl ()), (112, .aload_n 0, 1, .inl ()), (113, .getfield 22, 3, .inr (.inl (9, 2))), (116, .iconst 1, 1, .inl ()), (117, .isub, 1, .inl ()), (118, .invokevirtual 33, 3, .inr (.inr (.inr 70))), (121, .iload 4, 2, .inl ()), (123, .ireturn, 1, .inl ())]
def K_Tape_number : List CE := K_Tape_number_0 ++ (K_Tape_number_1)
theorem ok_Tape_number : okM H_Tape_number K_Tape_number = true := by decide +kernel
def K_Tape_isDigitAt : List CE := [(0, .iload_n 1, 1, .inl ()), (1, .aload_n 0, 1, .inl ()), (2, .getfield 19, 3, .inr (.inl (9, 1))), (5, .if_icmp .ge 29, 3, .inr (.inr (.inr 34))), (8, .aload_n 0, 1, .inl ()), (9, .getfield 9, 3, .inr (.inl (9, 0))), (12, .iload_n 1, 1, .inl ()), (13, .iaload, 1, .inl ()), (14, .bipush 48, 2, .inl ()), (16, .if_icmp .lt 18, 3, .inr (.inr (.inr 34))), (19, .aload_n 0, 1, .inl ()), (20, .getfield 9, 3, .inr (.inl (9, 0))), (23, .iload_n 1, 1, .inl ()), (24, .iaload, 1, .inl ()), (25, .bipush 57, 2, .inl ()), (27, .if_icmp .gt 7, 3, .inr (.inr (.inr 34))), (30, .iconst 1, 1, .inl ()), (31, .goto 4, 3, .inr (.inr (.inr 35))), (34, .iconst 0, 1, .inl ()), (35, .ireturn, 1, .inl ())]
theorem ok_Tape_isDigitAt : okM H_Tape_isDigitAt K_Tape_isDigitAt = true := by decide +kernel
def K_Walk_place : List CE := [(0, .aload_n 0, 1, .inl ()), (1, .aload_n 1, 1, .inl ()), (2, .aload_n 2, 1, .inl ()), (3, .invokevirtual 49, 3, .inr (.inr (.inr 83))), (6, .iconst 0, 1, .inl ()), (7, .istore 4, 2, .inl ()), (9, .iload 4, 2, .inl ()), (11, .aload_n 0, 1, .inl ()), (12, .getfield 45, 3, .inr (.inl (10, 1))), (15, .getfield 53, 3, .inr (.inl (2, 1))), (18, .if_icmp .ge 20, 3, .inr (.inr (.inr 38))), (21, .aload_n 0, 1, .inl ()), (22, .getfield 25, 3, .inr (.inl (10, 6))), (25, .iload 4, 2, .inl ()), (27, .aload_n 3, 1, .inl ()), (28, .iload 4, 2, .inl ()), (30, .iaload, 1, .inl ()), (31, .iastore, 1, .inl ()), (32, .iinc 4 1, 3, .inl ()), (35, .goto (-26), 3, .inr (.inr (.inr 9))), (38, .aload_n 0, 1, .inl ()), (39, .iconst 0, 1, .inl ()), (40, .invokevirtual 58, 3, .inr (.inr (.inr 85))), (43, .return_, 1, .inl ())]
theorem ok_Walk_place : okM H_Walk_place K_Walk_place = true := by decide +kernel
def K_Walk_start_0 : List CE := [(0, .aload_n 0, 1, .inl ()), (1, .aload_n 1, 1, .inl ()), (2, .aload_n 2, 1, .inl ()), (3, .invokevirtual 49, 3, .inr (.inr (.inr 83))), (6, .aload_n 0, 1, .inl ()), (7, .iconst 0, 1, .inl ()), (8, .invokevirtual 58, 3, .inr (.inr (.inr 85))), (11, .aload_n 0, 1, .inl ()), (12, .iload_n 3, 1, .inl ()), (13, .invokevirtual 62, 3, .inr (.inr (.inr 84))), (16, .istore 4, 2, .inl ()), (18, .iconst 1, 1, .inl ()), (19, .istore 5, 2, .inl ()), (21, .aload_n 0, 1, .inl ()), (22, .iconst 1, 1, .inl ()), (23, .putfield 9, 3, .inr (.inl (10, 2))), (26, .iconst 0, 1, .inl ()), (27, .istore 6, 2, .inl ()), (29, .iload 6, 2, .inl ()), (31, .aload_n 0, 1, .inl ()), (32, .getfield 45, 3, .inr (.inl (10, 1))), (35, .getfield 53, 3, .inr (.inl (2, 1))), (38, .if_icmp .ge 119, 3, .inr (.inr (.inr 157))), (41, .iconst 2, 1, .inl ()), (42, .aload_n 0, 1, .inl ()), (43, .getfield 45, 3, .inr (.inl (10, 1))), (46, .getfield 66, 3, .inr (.inl (2, 11))), (49, .iload 6, 2, .inl ()), (51, .iaload, 1, .inl ()), (52, .imul, 1, .inl ()), (53, .iconst 1, 1, .inl ()), (54, .iadd, 1, .inl ()), (55, .istore 7, 2, .inl ()), (57, .iload 4, 2, .inl ()), (59, .iload 6, 2, .inl ()), (61, .ishr, 1, .inl ()), (62, .iconst 1, 1, .inl ()), (63, .iand, 1, .inl ()), (64, .ifCond .eq 7, 3, .inr (.inr (.inr 71))), (67, .iconst 1, 1, .inl ()), (68, .goto 4, 3, .inr (.inr (.inr 72))), (71, .iconst 0, 1, .inl ()), (72, .istore 8, 2, .inl ()), (74, .aload_n 0, 1, .inl ()), (75, .getfield 22, 3, .inr (.inl (10, 5))), (78, .iload 6, 2, .inl ()), (80, .iload 8, 2, .inl ()), (82, .ifCond .eq 16, 3, .inr (.inr (.inr 98))), (85, .aload_n 0, 1, .inl ()), (86, .getfield 45, 3, .inr (.inl (10, 1)))]
def K_Walk_start_1 : List CE := [(89, .getfield 66, 3, .inr (.inl (2, 11))), (92, .iload 6, 2, .inl ()), (94, .iaload, 1, .inl ()), (95, .goto 4, 3, .inr (.inr (.inr 99))), (98, .iconst 0, 1, .inl ()), (99, .iastore, 1, .inl ()), (100, .aload_n 0, 1, .inl ()), (101, .getfield 25, 3, .inr (.inl (10, 6))), (104, .iload 6, 2, .inl ()), (106, .aload_n 0, 1, .inl ()), (107, .getfield 22, 3, .inr (.inl (10, 5))), (110, .iload 6, 2, .inl ()), (112, .iaload, 1, .inl ()), (113, .ineg, 1, .inl ()), (114, .iastore, 1, .inl ()), (115, .iload 5, 2, .inl ()), (117, .iload 8, 2, .inl ()), (119, .ifCond .eq 8, 3, .inr (.inr (.inr 127))), (122, .iload 7, 2, .inl ()), (124, .goto 4, 3, .inr (.inr (.inr 128))), (127, .iconst 1, 1, .inl ()), (128, .imul, 1, .inl ()), (129, .istore 5, 2, .inl ()), (131, .aload_n 0, 1, .inl ()), (132, .dup, 1, .inl ()), (133, .getfield 9, 3, .inr (.inl (10, 2))), (136, .iload 8, 2, .inl ()), (138, .ifCond .eq 7, 3, .inr (.inr (.inr 145))), (141, .iconst 1, 1, .inl ()), (142, .goto 5, 3, .inr (.inr (.inr 147))), (145, .iload 7, 2, .inl ()), (147, .imul, 1, .inl ()), (148, .putfield 9, 3, .inr (.inl (10, 2))), (151, .iinc 6 1, 3, .inl ()), (154, .goto (-125), 3, .inr (.inr (.inr 29))), (157, .aload_n 0, 1, .inl ()), (158, .iconst 0, 1, .inl ()), (159, .invokevirtual 58, 3, .inr (.inr (.inr 85))), (162, .iload 5, 2, .inl ()), (164, .ireturn, 1, .inl ())]
def K_Walk_start : List CE := K_Walk_start_0 ++ (K_Walk_start_1)
theorem ok_Walk_start : okM H_Walk_start K_Walk_start = true := by decide +kernel
def K_Walk_step : List CE := [(0, .aload_n 0, 1, .inl ()), (1, .getfield 45, 3, .inr (.inl (10, 1))), (4, .getfield 53, 3, .inr (.inl (2, 1))), (7, .iconst 1, 1, .inl ()), (8, .isub, 1, .inl ()), (9, .istore_n 1, 1, .inl ()), (10, .iload_n 1, 1, .inl ()), (11, .ifCond .le 37, 3, .inr (.inr (.inr 48))), (14, .aload_n 0, 1, .inl ()), (15, .getfield 25, 3, .inr (.inl (10, 6))), (18, .iload_n 1, 1, .inl ()), (19, .iaload, 1, .inl ()), (20, .aload_n 0, 1, .inl ()), (21, .getfield 22, 3, .inr (.inl (10, 5))), (24, .iload_n 1, 1, .inl ()), (25, .iaload, 1, .inl ()), (26, .if_icmp .ne 22, 3, .inr (.inr (.inr 48))), (29, .aload_n 0, 1, .inl ()), (30, .getfield 25, 3, .inr (.inl (10, 6))), (33, .iload_n 1, 1, .inl ()), (34, .aload_n 0, 1, .inl ()), (35, .getfield 22, 3, .inr (.inl (10, 5))), (38, .iload_n 1, 1, .inl ()), (39, .iaload, 1, .inl ()), (40, .ineg, 1, .inl ()), (41, .iastore, 1, .inl ()), (42, .iinc 1 (-1), 3, .inl ()), (45, .goto (-35), 3, .inr (.inr (.inr 10))), (48, .iload_n 1, 1, .inl ()), (49, .ifCond .lt 47, 3, .inr (.inr (.inr 96))), (52, .aload_n 0, 1, .inl ()), (53, .getfield 25, 3, .inr (.inl (10, 6))), (56, .iload_n 1, 1, .inl ()), (57, .aload_n 0, 1, .inl ()), (58, .getfield 25, 3, .inr (.inl (10, 6))), (61, .iload_n 1, 1, .inl ()), (62, .iaload, 1, .inl ()), (63, .aload_n 0, 1, .inl ()), (64, .getfield 22, 3, .inr (.inl (10, 5))), (67, .iload_n 1, 1, .inl ()), (68, .iaload, 1, .inl ()), (69, .if_icmp .ne 13, 3, .inr (.inr (.inr 82))), (72, .aload_n 0, 1, .inl ()), (73, .getfield 22, 3, .inr (.inl (10, 5))), (76, .iload_n 1, 1, .inl ()), (77, .iaload, 1, .inl ()), (78, .ineg, 1, .inl ()), (79, .goto 11, 3, .inr (.inr (.inr 90))), (82, .aload_n 0, 1, .inl ()), (83, .getfield 25, 3, .inr (.inl (10, 6))), (86, .iload_n 1, 1, .inl ()), (87, .iaload, 1, .inl ()), (88, .iconst 1, 1, .inl ()), (89, .iadd, 1, .inl ()), (90, .iastore, 1, .inl ()), (91, .aload_n 0, 1, .inl ()), (92, .iload_n 1, 1, .inl ()), (93, .invokevirtual 58, 3, .inr (.inr (.inr 85))), (96, .return_, 1, .inl ())]
theorem ok_Walk_step : okM H_Walk_step K_Walk_step = true := by decide +kernel
def K_Walk_isOpen : List CE := [(0, .aload_n 0, 1, .inl ()), (1, .getfield 37, 3, .inr (.inl (10, 9))), (4, .aload_n 0, 1, .inl ()), (5, .getfield 31, 3, .inr (.inl (10, 8))), (8, .aload_n 0, 1, .inl ()), (9, .getfield 45, 3, .inr (.inl (10, 1))), (12, .getfield 69, 3, .inr (.inl (2, 0))), (15, .iconst (-1), 1, .inl ()), (16, .iconst (-1), 1, .inl ()), (17, .invokevirtual 72, 3, .inr (.inr (.inr 47))), (20, .aload_n 0, 1, .inl ()), (21, .getfield 37, 3, .inr (.inl (10, 9))), (24, .aload_n 0, 1, .inl ()), (25, .getfield 45, 3, .inr (.inl (10, 1))), (28, .getfield 76, 3, .inr (.inl (2, 4))), (31, .invokevirtual 79, 3, .inr (.inr (.inr 50))), (34, .aload_n 0, 1, .inl ()), (35, .getfield 45, 3, .inr (.inl (10, 1))), (38, .getfield 82, 3, .inr (.inl (2, 5))), (41, .if_icmp .gt 7, 3, .inr (.inr (.inr 48))), (44, .iconst 1, 1, .inl ()), (45, .goto 4, 3, .inr (.inr (.inr 49))), (48, .iconst 0, 1, .inl ()), (49, .ireturn, 1, .inl ())]
theorem ok_Walk_isOpen : okM H_Walk_isOpen K_Walk_isOpen = true := by decide +kernel
def K_Walk_isOpenBy : List CE := [(0, .aload_n 0, 1, .inl ()), (1, .getfield 37, 3, .inr (.inl (10, 9))), (4, .iconst 0, 1, .inl ()), (5, .putfield 85, 3, .inr (.inl (6, 1))), (8, .iconst 0, 1, .inl ()), (9, .istore_n 2, 1, .inl ()), (10, .iload_n 2, 1, .inl ()), (11, .aload_n 0, 1, .inl ()), (12, .getfield 45, 3, .inr (.inl (10, 1))), (15, .getfield 69, 3, .inr (.inl (2, 0))), (18, .if_icmp .ge 30, 3, .inr (.inr (.inr 48))), (21, .iload_n 1, 1, .inl ()), (22, .iload_n 2, 1, .inl ()), (23, .ishr, 1, .inl ()), (24, .iconst 1, 1, .inl ()), (25, .iand, 1, .inl ()), (26, .ifCond .eq 16, 3, .inr (.inr (.inr 42))), (29, .aload_n 0, 1, .inl ()), (30, .getfield 37, 3, .inr (.inl (10, 9))), (33, .aload_n 0, 1, .inl ()), (34, .getfield 31, 3, .inr (.inl (10, 8))), (37, .iload_n 2, 1, .inl ()), (38, .iaload, 1, .inl ()), (39, .invokevirtual 88, 3, .inr (.inr (.inr 49))), (42, .iinc 2 1, 3, .inl ()), (45, .goto (-35), 3, .inr (.inr (.inr 10))), (48, .aload_n 0, 1, .inl ()), (49, .getfield 37, 3, .inr (.inl (10, 9))), (52, .aload_n 0, 1, .inl ()), (53, .getfield 45, 3, .inr (.inl (10, 1))), (56, .getfield 76, 3, .inr (.inl (2, 4))), (59, .invokevirtual 79, 3, .inr (.inr (.inr 50))), (62, .aload_n 0, 1, .inl ()), (63, .getfield 45, 3, .inr (.inl (10, 1))), (66, .getfield 82, 3, .inr (.inl (2, 5))), (69, .if_icmp .gt 7, 3, .inr (.inr (.inr 76))), (72, .iconst 1, 1, .inl ()), (73, .goto 4, 3, .inr (.inr (.inr 77))), (76, .iconst 0, 1, .inl ()), (77, .ireturn, 1, .inl ())]
theorem ok_Walk_isOpenBy : okM H_Walk_isOpenBy K_Walk_isOpenBy = true := by decide +kernel
def K_Walk_tally : List CE := [(0, .aload_n 0, 1, .inl ()), (1, .aload_n 1, 1, .inl ()), (2, .aload_n 2, 1, .inl ()), (3, .iconst 0, 1, .inl ()), (4, .invokevirtual 91, 3, .inr (.inr (.inr 76))), (7, .istore_n 3, 1, .inl ()), (8, .iconst 0, 1, .inl ()), (9, .istore 4, 2, .inl ()), (11, .iconst 0, 1, .inl ()), (12, .istore 5, 2, .inl ()), (14, .iload 5, 2, .inl ()), (16, .iload_n 3, 1, .inl ()), (17, .if_icmp .ge 29, 3, .inr (.inr (.inr 46))), (20, .aload_n 0, 1, .inl ()), (21, .invokevirtual 95, 3, .inr (.inr (.inr 78))), (24, .ifCond .eq 12, 3, .inr (.inr (.inr 36))), (27, .iload 4, 2, .inl ()), (29, .aload_n 0, 1, .inl ()), (30, .getfield 9, 3, .inr (.inl (10, 2))), (33, .iadd, 1, .inl ()), (34, .istore 4, 2, .inl ()), (36, .aload_n 0, 1, .inl ()), (37, .invokevirtual 99, 3, .inr (.inr (.inr 77))), (40, .iinc 5 1, 3, .inl ()), (43, .goto (-29), 3, .inr (.inr (.inr 14))), (46, .iload 4, 2, .inl ()), (48, .ireturn, 1, .inl ())]
theorem ok_Walk_tally : okM H_Walk_tally K_Walk_tally = true := by decide +kernel
def K_Walk_hearing : List CE := [(0, .aload_n 0, 1, .inl ()), (1, .getfield 28, 3, .inr (.inl (10, 7))), (4, .iload_n 2, 1, .inl ()), (5, .iaload, 1, .inl ()), (6, .aload_n 0, 1, .inl ()), (7, .getfield 45, 3, .inr (.inl (10, 1))), (10, .getfield 102, 3, .inr (.inl (2, 14))), (13, .iload_n 1, 1, .inl ()), (14, .iconst 5, 1, .inl ()), (15, .imul, 1, .inl ()), (16, .iload_n 2, 1, .inl ()), (17, .iadd, 1, .inl ()), (18, .iaload, 1, .inl ()), (19, .iadd, 1, .inl ()), (20, .ireturn, 1, .inl ())]
theorem ok_Walk_hearing : okM H_Walk_hearing K_Walk_hearing = true := by decide +kernel
def K_Walk_offBits : List CE := [(0, .iconst 0, 1, .inl ()), (1, .istore_n 2, 1, .inl ()), (2, .aload_n 0, 1, .inl ()), (3, .getfield 22, 3, .inr (.inl (10, 5))), (6, .iload_n 1, 1, .inl ()), (7, .iaload, 1, .inl ()), (8, .ifCond .le 7, 3, .inr (.inr (.inr 15))), (11, .iconst 0, 1, .inl ()), (12, .goto 12, 3, .inr (.inr (.inr 24))), (15, .aload_n 0, 1, .inl ()), (16, .getfield 45, 3, .inr (.inl (10, 1))), (19, .getfield 66, 3, .inr (.inl (2, 11))), (22, .iload_n 1, 1, .inl ()), (23, .iaload, 1, .inl ()), (24, .istore_n 3, 1, .inl ()), (25, .iload_n 3, 1, .inl ()), (26, .ineg, 1, .inl ()), (27, .istore 4, 2, .inl ()), (29, .iload 4, 2, .inl ()), (31, .iload_n 3, 1, .inl ()), (32, .if_icmp .gt 25, 3, .inr (.inr (.inr 57))), (35, .iload_n 2, 1, .inl ()), (36, .iconst 1, 1, .inl ()), (37, .aload_n 0, 1, .inl ()), (38, .getfield 25, 3, .inr (.inl (10, 6))), (41, .iload_n 1, 1, .inl ()), (42, .iaload, 1, .inl ()), (43, .iload 4, 2, .inl ()), (45, .iadd, 1, .inl ()), (46, .iconst 3, 1, .inl ()), (47, .iadd, 1, .inl ()), (48, .ishl, 1, .inl ()), (49, .ior, 1, .inl ()), (50, .istore_n 2, 1, .inl ()), (51, .iinc 4 1, 3, .inl ()), (54, .goto (-25), 3, .inr (.inr (.inr 29))), (57, .iload_n 2, 1, .inl ()), (58, .ireturn, 1, .inl ())]
theorem ok_Walk_offBits : okM H_Walk_offBits K_Walk_offBits = true := by decide +kernel
def K_Walk_enter : List CE := [(0, .aload_n 0, 1, .inl ()), (1, .aload_n 1, 1, .inl ()), (2, .putfield 45, 3, .inr (.inl (10, 1))), (5, .iconst 0, 1, .inl ()), (6, .istore_n 3, 1, .inl ()), (7, .iload_n 3, 1, .inl ()), (8, .aload_n 0, 1, .inl ()), (9, .getfield 45, 3, .inr (.inl (10, 1))), (12, .getfield 69, 3, .inr (.inl (2, 0))), (15, .if_icmp .ge 54, 3, .inr (.inr (.inr 69))), (18, .aload_n 0, 1, .inl ()), (19, .getfield 15, 3, .inr (.inl (10, 3))), (22, .iload_n 3, 1, .inl ()), (23, .aload_n 2, 1, .inl ()), (24, .iload_n 3, 1, .inl ()), (25, .iaload, 1, .inl ()), (26, .iastore, 1, .inl ()), (27, .aload_n 0, 1, .inl ()), (28, .getfield 19, 3, .inr (.inl (10, 4))), (31, .iload_n 3, 1, .inl ()), (32, .aload_n 0, 1, .inl ()), (33, .getfield 41, 3, .inr (.inl (10, 0))), (36, .aload_n 0, 1, .inl ()), (37, .getfield 15, 3, .inr (.inl (10, 3))), (40, .iload_n 3, 1, .inl ()), (41, .iaload, 1, .inl ()), (42, .invokevirtual 105, 3, .inr (.inr (.inr 44))), (45, .aload_n 0, 1, .inl ()), (46, .getfield 45, 3, .inr (.inl (10, 1))), (49, .iload_n 3, 1, .inl ()), (50, .invokevirtual 110, 3, .inr (.inr (.inr 27))), (53, .iand, 1, .inl ()), (54, .iastore, 1, .inl ()), (55, .aload_n 0, 1, .inl ()), (56, .getfield 31, 3, .inr (.inl (10, 8))), (59, .iload_n 3, 1, .inl ()), (60, .ldc 113, 2, .inr (.inr (.inl (1000000)))), (62, .iastore, 1, .inl ()), (63, .iinc 3 1, 3, .inl ()), (66, .goto (-59), 3, .inr (.inr (.inr 7))), (69, .iconst 0, 1, .inl ()), (70, .istore_n 3, 1, .inl ()), (71, .iload_n 3, 1, .inl ()), (72, .iconst 5, 1, .inl ()), (73, .if_icmp .ge 24, 3, .inr (.inr (.inr 97))), (76, .aload_n 0, 1, .inl ()), (77, .getfield 25, 3, .inr (.inl (10, 6))), (80, .iload_n 3, 1, .inl ()), (81, .iconst 0, 1, .inl ()), (82, .iastore, 1, .inl ()), (83, .aload_n 0, 1, .inl ()), (84, .getfield 28, 3, .inr (.inl (10, 7))), (87, .iload_n 3, 1, .inl ()), (88, .ldc 113, 2, .inr (.inr (.inl (1000000)))), (90, .iastore, 1, .inl ()), (91, .iinc 3 1, 3, .inl ()), (94, .goto (-23), 3, .inr (.inr (.inr 71))), (97, .return_, 1, .inl ())]
theorem ok_Walk_enter : okM H_Walk_enter K_Walk_enter = true := by decide +kernel
def K_Walk_neededSigns_0 : List CE := [(0, .iload_n 1, 1, .inl ()), (1, .istore_n 2, 1, .inl ()), (2, .iconst 0, 1, .inl ()), (3, .istore_n 3, 1, .inl ()), (4, .iload_n 3, 1, .inl ()), (5, .aload_n 0, 1, .inl ()), (6, .getfield 45, 3, .inr (.inl (10, 1))), (9, .getfield 69, 3, .inr (.inl (2, 0))), (12, .if_icmp .ge 18, 3, .inr (.inr (.inr 30))), (15, .iload_n 2, 1, .inl ()), (16, .aload_n 0, 1, .inl ()), (17, .getfield 19, 3, .inr (.inl (10, 4))), (20, .iload_n 3, 1, .inl ()), (21, .iaload, 1, .inl ()), (22, .ior, 1, .inl ()), (23, .istore_n 2, 1, .inl ()), (24, .iinc 3 1, 3, .inl ()), (27, .goto (-23), 3, .inr (.inr (.inr 4))), (30, .iconst 0, 1, .inl ()), (31, .istore_n 3, 1, .inl ()), (32, .aload_n 0, 1, .inl ()), (33, .getfield 45, 3, .inr (.inl (10, 1))), (36, .getfield 53, 3, .inr (.inl (2, 1))), (39, .iconst 1, 1, .inl ()), (40, .isub, 1, .inl ()), (41, .istore 4, 2, .inl ()), (43, .iload 4, 2, .inl ()), (45, .ifCond .lt 69, 3, .inr (.inr (.inr 114))), (48, .iload_n 2, 1, .inl ()), (49, .iload 4, 2, .inl ()), (51, .ishr, 1, .inl ()), (52, .iconst 1, 1, .inl ()), (53, .iand, 1, .inl ()), (54, .ifCond .eq 54, 3, .inr (.inr (.inr 108))), (57, .aload_n 0, 1, .inl ()), (58, .getfield 28, 3, .inr (.inl (10, 7))), (61, .iload 4, 2, .inl ()), (63, .iaload, 1, .inl ()), (64, .ldc 113, 2, .inr (.inr (.inl (1000000)))), (66, .if_icmp .ge 42, 3, .inr (.inr (.inr 108))), (69, .iload_n 3, 1, .inl ()), (70, .iconst 1, 1, .inl ()), (71, .iload 4, 2, .inl ()), (73, .ishl, 1, .inl ()), (74, .ior, 1, .inl ()), (75, .istore_n 3, 1, .inl ()), (76, .iload_n 2, 1, .inl ()), (77, .aload_n 0, 1, .inl ()), (78, .getfield 45, 3, .inr (.inl (10, 1))), (81, .getfield 114, 3, .inr (.inl (2, 12)))]
def K_Walk_neededSigns_1 : List CE := [(84, .iload 4, 2, .inl ()), (86, .iaload, 1, .inl ()), (87, .ifCond .ge 7, 3, .inr (.inr (.inr 94))), (90, .iconst 0, 1, .inl ()), (91, .goto 15, 3, .inr (.inr (.inr 106))), (94, .iconst 1, 1, .inl ()), (95, .aload_n 0, 1, .inl ()), (96, .getfield 45, 3, .inr (.inl (10, 1))), (99, .getfield 114, 3, .inr (.inl (2, 12))), (102, .iload 4, 2, .inl ()), (104, .iaload, 1, .inl ()), (105, .ishl, 1, .inl ()), (106, .ior, 1, .inl ()), (107, .istore_n 2, 1, .inl ()), (108, .iinc 4 (-1), 3, .inl ()), (111, .goto (-68), 3, .inr (.inr (.inr 43))), (114, .iload_n 3, 1, .inl ()), (115, .ireturn, 1, .inl ())]
def K_Walk_neededSigns : List CE := K_Walk_neededSigns_0 ++ (K_Walk_neededSigns_1)
theorem ok_Walk_neededSigns : okM H_Walk_neededSigns K_Walk_neededSigns = true := by decide +kernel
def K_Walk_settle : List CE := [(0, .iload_n 1, 1, .inl ()), (1, .istore_n 2, 1, .inl ()), (2, .iload_n 2, 1, .inl ()), (3, .aload_n 0, 1, .inl ()), (4, .getfield 45, 3, .inr (.inl (10, 1))), (7, .getfield 53, 3, .inr (.inl (2, 1))), (10, .if_icmp .ge 33, 3, .inr (.inr (.inr 43))), (13, .aload_n 0, 1, .inl ()), (14, .getfield 28, 3, .inr (.inl (10, 7))), (17, .iload_n 2, 1, .inl ()), (18, .aload_n 0, 1, .inl ()), (19, .getfield 45, 3, .inr (.inl (10, 1))), (22, .iload_n 2, 1, .inl ()), (23, .aload_n 0, 1, .inl ()), (24, .getfield 28, 3, .inr (.inl (10, 7))), (27, .aload_n 0, 1, .inl ()), (28, .getfield 25, 3, .inr (.inl (10, 6))), (31, .iload_n 2, 1, .inl ()), (32, .iaload, 1, .inl ()), (33, .invokevirtual 117, 3, .inr (.inr (.inr 30))), (36, .iastore, 1, .inl ()), (37, .iinc 2 1, 3, .inl ()), (40, .goto (-38), 3, .inr (.inr (.inr 2))), (43, .iconst 0, 1, .inl ()), (44, .istore_n 2, 1, .inl ()), (45, .iload_n 2, 1, .inl ()), (46, .aload_n 0, 1, .inl ()), (47, .getfield 45, 3, .inr (.inl (10, 1))), (50, .getfield 69, 3, .inr (.inl (2, 0))), (53, .if_icmp .ge 53, 3, .inr (.inr (.inr 106))), (56, .aload_n 0, 1, .inl ()), (57, .getfield 19, 3, .inr (.inl (10, 4))), (60, .iload_n 2, 1, .inl ()), (61, .iaload, 1, .inl ()), (62, .iload_n 1, 1, .inl ()), (63, .ishr, 1, .inl ()), (64, .ifCond .eq 36, 3, .inr (.inr (.inr 100))), (67, .aload_n 0, 1, .inl ()), (68, .getfield 31, 3, .inr (.inl (10, 8))), (71, .iload_n 2, 1, .inl ()), (72, .aload_n 0, 1, .inl ()), (73, .getfield 41, 3, .inr (.inl (10, 0))), (76, .aload_n 0, 1, .inl ()), (77, .getfield 15, 3, .inr (.inl (10, 3))), (80, .iload_n 2, 1, .inl ()), (81, .iaload, 1, .inl ()), (82, .aload_n 0, 1, .inl ()), (83, .getfield 28, 3, .inr (.inl (10, 7))), (86, .aload_n 0, 1, .inl ()), (87, .getfield 45, 3, .inr (.inl (10, 1))), (90, .getfield 102, 3, .inr (.inl (2, 14))), (93, .iload_n 2, 1, .inl ()), (94, .iconst 5, 1, .inl ()), (95, .imul, 1, .inl ()), (96, .invokevirtual 121, 3, .inr (.inr (.inr 45))), (99, .iastore, 1, .inl ()), (100, .iinc 2 1, 3, .inl ()), (103, .goto (-58), 3, .inr (.inr (.inr 45))), (106, .return_, 1, .inl ())]
theorem ok_Walk_settle : okM H_Walk_settle K_Walk_settle = true := by decide +kernel
def K_X_feed : List CE := [(0, .iload_n 1, 1, .inl ()), (1, .invokestatic 96, 3, .inr (.inr (.inr 67))), (4, .iload_n 2, 1, .inl ()), (5, .invokestatic 96, 3, .inr (.inr (.inr 67))), (8, .iadd, 1, .inl ()), (9, .iload_n 3, 1, .inl ()), (10, .invokestatic 96, 3, .inr (.inr (.inr 67))), (13, .iadd, 1, .inl ()), (14, .iload 4, 2, .inl ()), (16, .invokestatic 96, 3, .inr (.inr (.inr 67))), (19, .iadd, 1, .inl ()), (20, .iload 5, 2, .inl ()), (22, .invokestatic 96, 3, .inr (.inr (.inr 67))), (25, .iadd, 1, .inl ()), (26, .istore 6, 2, .inl ()), (28, .aload_n 0, 1, .inl ()), (29, .getfield 12, 3, .inr (.inl (11, 0))), (32, .getfield 100, 3, .inr (.inl (9, 1))), (35, .iload 6, 2, .inl ()), (37, .iadd, 1, .inl ()), (38, .sipush 160, 3, .inl ()), (41, .if_icmp .le 5, 3, .inr (.inr (.inr 46))), (44, .iconst (-1), 1, .inl ()), (45, .ireturn, 1, .inl ()), (46, .aload_n 0, 1, .inl ()), (47, .getfield 12, 3, .inr (.inl (11, 0))), (50, .iload_n 1, 1, .inl ()), (51, .invokevirtual 104, 3, .inr (.inr (.inr 68))), (54, .aload_n 0, 1, .inl ()), (55, .getfield 12, 3, .inr (.inl (11, 0))), (58, .iload_n 2, 1, .inl ()), (59, .invokevirtual 104, 3, .inr (.inr (.inr 68))), (62, .aload_n 0, 1, .inl ()), (63, .getfield 12, 3, .inr (.inl (11, 0))), (66, .iload_n 3, 1, .inl ()), (67, .invokevirtual 104, 3, .inr (.inr (.inr 68))), (70, .aload_n 0, 1, .inl ()), (71, .getfield 12, 3, .inr (.inl (11, 0))), (74, .iload 4, 2, .inl ()), (76, .invokevirtual 104, 3, .inr (.inr (.inr 68))), (79, .aload_n 0, 1, .inl ()), (80, .getfield 12, 3, .inr (.inl (11, 0))), (83, .iload 5, 2, .inl ()), (85, .invokevirtual 104, 3, .inr (.inr (.inr 68))), (88, .aload_n 0, 1, .inl ()), (89, .getfield 12, 3, .inr (.inl (11, 0))), (92, .getfield 100, 3, .inr (.inl (9, 1))), (95, .ireturn, 1, .inl ())]
theorem ok_X_feed : okM H_X_feed K_X_feed = true := by decide +kernel
def K_X_end : List CE := [(0, .iload_n 1, 1, .inl ()), (1, .ifCond .lt 14, 3, .inr (.inr (.inr 15))), (4, .iload_n 1, 1, .inl ()), (5, .aload_n 0, 1, .inl ()), (6, .getfield 12, 3, .inr (.inl (11, 0))), (9, .getfield 100, 3, .inr (.inl (9, 1))), (12, .if_icmp .le 5, 3, .inr (.inr (.inr 17))), (15, .iconst 0, 1, .inl ()), (16, .ireturn, 1, .inl ()), (17, .aload_n 0, 1, .inl ()), (18, .getfield 12, 3, .inr (.inl (11, 0))), (21, .iload_n 1, 1, .inl ()), (22, .putfield 100, 3, .inr (.inl (9, 1))), (25, .iconst 1, 1, .inl ()), (26, .ireturn, 1, .inl ())]
theorem ok_X_end : okM H_X_end K_X_end = true := by decide +kernel
def K_X_fault : List CE := [(0, .iload_n 1, 1, .inl ()), (1, .ifCond .ne 11, 3, .inr (.inr (.inr 12))), (4, .aload_n 0, 1, .inl ()), (5, .getfield 21, 3, .inr (.inl (11, 1))), (8, .invokevirtual 108, 3, .inr (.inr (.inr 32))), (11, .ireturn, 1, .inl ()), (12, .iload_n 1, 1, .inl ()), (13, .iconst 1, 1, .inl ()), (14, .if_icmp .ne 13, 3, .inr (.inr (.inr 27))), (17, .aload_n 0, 1, .inl ()), (18, .getfield 28, 3, .inr (.inl (11, 2))), (21, .invokevirtual 112, 3, .inr (.inr (.inr 38))), (24, .goto 5, 3, .inr (.inr (.inr 29))), (27, .bipush (-2), 2, .inl ()), (29, .ireturn, 1, .inl ())]
theorem ok_X_fault : okM H_X_fault K_X_fault = true := by decide +kernel
def K_X_text : List CE := [(0, .iload_n 1, 1, .inl ()), (1, .ifCond .ne 8, 3, .inr (.inr (.inr 9))), (4, .aload_n 0, 1, .inl ()), (5, .invokevirtual 113, 3, .inr (.inr (.inr 136))), (8, .ireturn, 1, .inl ()), (9, .iload_n 1, 1, .inl ()), (10, .iconst 1, 1, .inl ()), (11, .if_icmp .ne 10, 3, .inr (.inr (.inr 21))), (14, .aload_n 0, 1, .inl ()), (15, .invokevirtual 116, 3, .inr (.inr (.inr 137))), (18, .goto 4, 3, .inr (.inr (.inr 22))), (21, .iconst (-1), 1, .inl ()), (22, .ireturn, 1, .inl ())]
theorem ok_X_text : okM H_X_text K_X_text = true := by decide +kernel
def K_X_guard : List CE := [(0, .aload_n 0, 1, .inl ()), (1, .iload_n 1, 1, .inl ()), (2, .invokevirtual 142, 3, .inr (.inr (.inr 129))), (5, .ifCond .ne 5, 3, .inr (.inr (.inr 10))), (8, .iconst (-1), 1, .inl ()), (9, .ireturn, 1, .inl ()), (10, .iload_n 2, 1, .inl ()), (11, .tableswitch 55 0 2 #[25, 35, 45], 25, .inl ()), (36, .aload_n 0, 1, .inl ()), (37, .getfield 42, 3, .inr (.inl (11, 4))), (40, .getfield 145, 3, .inr (.inl (2, 8))), (43, .iload_n 1, 1, .inl ()), (44, .iaload, 1, .inl ()), (45, .ireturn, 1, .inl ()), (46, .aload_n 0, 1, .inl ()), (47, .getfield 42, 3, .inr (.inl (11, 4))), (50, .getfield 148, 3, .inr (.inl (2, 9))), (53, .iload_n 1, 1, .inl ()), (54, .iaload, 1, .inl ()), (55, .ireturn, 1, .inl ()), (56, .aload_n 0, 1, .inl ()), (57, .getfield 59, 3, .inr (.inl (11, 8))), (60, .getfield 151, 3, .inr (.inl (0, 0))), (63, .iload_n 1, 1, .inl ()), (64, .iaload, 1, .inl ()), (65, .ireturn, 1, .inl ()), (66, .iconst (-1), 1, .inl ()), (67, .ireturn, 1, .inl ())]
theorem ok_X_guard : okM H_X_guard K_X_guard = true := by decide +kernel
def K_X_hears : List CE := [(0, .aload_n 0, 1, .inl ()), (1, .iload_n 1, 1, .inl ()), (2, .invokevirtual 142, 3, .inr (.inr (.inr 129))), (5, .ifCond .eq 11, 3, .inr (.inr (.inr 16))), (8, .aload_n 0, 1, .inl ()), (9, .iload_n 2, 1, .inl ()), (10, .invokevirtual 119, 3, .inr (.inr (.inr 130))), (13, .ifCond .ne 5, 3, .inr (.inr (.inr 18))), (16, .iconst (-1), 1, .inl ()), (17, .ireturn, 1, .inl ()), (18, .aload_n 0, 1, .inl ()), (19, .getfield 42, 3, .inr (.inl (11, 4))), (22, .getfield 154, 3, .inr (.inl (2, 14))), (25, .iload_n 1, 1, .inl ()), (26, .iconst 5, 1, .inl ()), (27, .imul, 1, .inl ()), (28, .iload_n 2, 1, .inl ()), (29, .iadd, 1, .inl ()), (30, .iaload, 1, .inl ()), (31, .istore_n 3, 1, .inl ()), (32, .iload_n 3, 1, .inl ()), (33, .ldc 157, 2, .inr (.inr (.inl (2000000)))), (35, .if_icmp .ne 7, 3, .inr (.inr (.inr 42))), (38, .iconst (-1), 1, .inl ()), (39, .goto 4, 3, .inr (.inr (.inr 43))), (42, .iload_n 3, 1, .inl ()), (43, .ireturn, 1, .inl ())]
theorem ok_X_hears : okM H_X_hears K_X_hears = true := by decide +kernel
def K_X_plan : List CE := [(0, .aload_n 0, 1, .inl ()), (1, .iload_n 1, 1, .inl ()), (2, .invokevirtual 142, 3, .inr (.inr (.inr 129))), (5, .ifCond .eq 16, 3, .inr (.inr (.inr 21))), (8, .iload_n 2, 1, .inl ()), (9, .iconst (-1), 1, .inl ()), (10, .if_icmp .eq 13, 3, .inr (.inr (.inr 23))), (13, .aload_n 0, 1, .inl ()), (14, .iload_n 2, 1, .inl ()), (15, .invokevirtual 158, 3, .inr (.inr (.inr 131))), (18, .ifCond .ne 5, 3, .inr (.inr (.inr 23))), (21, .iconst 0, 1, .inl ()), (22, .ireturn, 1, .inl ()), (23, .aload_n 0, 1, .inl ()), (24, .getfield 59, 3, .inr (.inl (11, 8))), (27, .getfield 151, 3, .inr (.inl (0, 0))), (30, .iload_n 1, 1, .inl ()), (31, .iload_n 2, 1, .inl ()), (32, .iastore, 1, .inl ()), (33, .aload_n 0, 1, .inl ()), (34, .invokevirtual 161, 3, .inr (.inr (.inr 138))), (37, .iconst 1, 1, .inl ()), (38, .ireturn, 1, .inl ())]
theorem ok_X_plan : okM H_X_plan K_X_plan = true := by decide +kernel
def K_X_ways : List CE := [(0, .aload_n 0, 1, .inl ()), (1, .invokevirtual 164, 3, .inr (.inr (.inr 128))), (4, .ifCond .eq 11, 3, .inr (.inr (.inr 15))), (7, .iload_n 1, 1, .inl ()), (8, .iconst 1, 1, .inl ()), (9, .invokestatic 168, 3, .inr (.inr (.inr 134))), (12, .ifCond .ne 5, 3, .inr (.inr (.inr 17))), (15, .iconst (-1), 1, .inl ()), (16, .ireturn, 1, .inl ()), (17, .iload_n 1, 1, .inl ()), (18, .ifCond .ne 13, 3, .inr (.inr (.inr 31))), (21, .aload_n 0, 1, .inl ()), (22, .invokevirtual 172, 3, .inr (.inr (.inr 139))), (25, .getfield 176, 3, .inr (.inl (8, 2))), (28, .goto 10, 3, .inr (.inr (.inr 38))), (31, .aload_n 0, 1, .inl ()), (32, .getfield 42, 3, .inr (.inl (11, 4))), (35, .invokevirtual 179, 3, .inr (.inr (.inr 26))), (38, .ireturn, 1, .inl ())]
theorem ok_X_ways : okM H_X_ways K_X_ways = true := by decide +kernel
def K_X_odds : List CE := [(0, .aload_n 0, 1, .inl ()), (1, .invokevirtual 164, 3, .inr (.inr (.inr 128))), (4, .ifCond .eq 11, 3, .inr (.inr (.inr 15))), (7, .iload_n 1, 1, .inl ()), (8, .iconst 1, 1, .inl ()), (9, .invokestatic 168, 3, .inr (.inr (.inr 134))), (12, .ifCond .ne 5, 3, .inr (.inr (.inr 17))), (15, .iconst (-1), 1, .inl ()), (16, .ireturn, 1, .inl ()), (17, .aload_n 0, 1, .inl ()), (18, .invokevirtual 172, 3, .inr (.inr (.inr 139))), (21, .getfield 176, 3, .inr (.inl (8, 2))), (24, .aload_n 0, 1, .inl ()), (25, .getfield 42, 3, .inr (.inl (11, 4))), (28, .invokevirtual 179, 3, .inr (.inr (.inr 26))), (31, .iload_n 1, 1, .inl ()), (32, .invokestatic 182, 3, .inr (.inr (.inr 145))), (35, .ireturn, 1, .inl ())]
theorem ok_X_odds : okM H_X_odds K_X_odds = true := by decide +kernel
end
section
def K_X_turnsAt : List CE := [(0, .aload_n 0, 1, .inl ()), (1, .iload_n 2, 1, .inl ()), (2, .invokevirtual 142, 3, .inr (.inr (.inr 129))), (5, .ifCond .eq 11, 3, .inr (.inr (.inr 16))), (8, .aload_n 0, 1, .inl ()), (9, .iload_n 1, 1, .inl ()), (10, .invokevirtual 186, 3, .inr (.inr (.inr 141))), (13, .ifCond .ne 6, 3, .inr (.inr (.inr 19))), (16, .ldc 189, 2, .inr (.inr (.inl (-1000000)))), (18, .ireturn, 1, .inl ()), (19, .aload_n 0, 1, .inl ()), (20, .getfield 71, 3, .inr (.inl (11, 11))), (23, .aload_n 0, 1, .inl ()), (24, .getfield 42, 3, .inr (.inl (11, 4))), (27, .aload_n 0, 1, .inl ()), (28, .getfield 59, 3, .inr (.inl (11, 8))), (31, .getfield 151, 3, .inr (.inl (0, 0))), (34, .aload_n 0, 1, .inl ()), (35, .getfield 53, 3, .inr (.inl (11, 7))), (38, .invokevirtual 190, 3, .inr (.inr (.inr 75))), (41, .aload_n 0, 1, .inl ()), (42, .getfield 71, 3, .inr (.inl (11, 11))), (45, .getfield 194, 3, .inr (.inl (10, 8))), (48, .iload_n 2, 1, .inl ()), (49, .iaload, 1, .inl ()), (50, .invokestatic 197, 3, .inr (.inr (.inr 135))), (53, .ireturn, 1, .inl ())]
theorem ok_X_turnsAt : okM H_X_turnsAt K_X_turnsAt = true := by decide +kernel
def K_X_opens : List CE := [(0, .aload_n 0, 1, .inl ()), (1, .invokevirtual 164, 3, .inr (.inr (.inr 128))), (4, .ifCond .eq 11, 3, .inr (.inr (.inr 15))), (7, .aload_n 0, 1, .inl ()), (8, .iload_n 1, 1, .inl ()), (9, .invokevirtual 186, 3, .inr (.inr (.inr 141))), (12, .ifCond .ne 5, 3, .inr (.inr (.inr 17))), (15, .iconst (-1), 1, .inl ()), (16, .ireturn, 1, .inl ()), (17, .aload_n 0, 1, .inl ()), (18, .getfield 71, 3, .inr (.inl (11, 11))), (21, .aload_n 0, 1, .inl ()), (22, .getfield 42, 3, .inr (.inl (11, 4))), (25, .aload_n 0, 1, .inl ()), (26, .getfield 59, 3, .inr (.inl (11, 8))), (29, .getfield 151, 3, .inr (.inl (0, 0))), (32, .aload_n 0, 1, .inl ()), (33, .getfield 53, 3, .inr (.inl (11, 7))), (36, .invokevirtual 190, 3, .inr (.inr (.inr 75))), (39, .aload_n 0, 1, .inl ()), (40, .getfield 71, 3, .inr (.inl (11, 11))), (43, .invokevirtual 200, 3, .inr (.inr (.inr 78))), (46, .ifCond .eq 7, 3, .inr (.inr (.inr 53))), (49, .iconst 1, 1, .inl ()), (50, .goto 4, 3, .inr (.inr (.inr 54))), (53, .iconst 0, 1, .inl ()), (54, .ireturn, 1, .inl ())]
theorem ok_X_opens : okM H_X_opens K_X_opens = true := by decide +kernel
def K_X_when : List CE := [(0, .aload_n 0, 1, .inl ()), (1, .iload_n 1, 1, .inl ()), (2, .invokevirtual 142, 3, .inr (.inr (.inr 129))), (5, .ifCond .eq 11, 3, .inr (.inr (.inr 16))), (8, .iload_n 2, 1, .inl ()), (9, .iconst 2, 1, .inl ()), (10, .invokestatic 168, 3, .inr (.inr (.inr 134))), (13, .ifCond .ne 6, 3, .inr (.inr (.inr 19))), (16, .ldc 189, 2, .inr (.inr (.inl (-1000000)))), (18, .ireturn, 1, .inl ()), (19, .aload_n 0, 1, .inl ()), (20, .invokevirtual 172, 3, .inr (.inr (.inr 139))), (23, .astore_n 3, 1, .inl ()), (24, .iload_n 2, 1, .inl ()), (25, .iconst 2, 1, .inl ()), (26, .if_icmp .ne 10, 3, .inr (.inr (.inr 36))), (29, .aload_n 3, 1, .inl ()), (30, .getfield 203, 3, .inr (.inl (8, 5))), (33, .iload_n 1, 1, .inl ()), (34, .iaload, 1, .inl ()), (35, .ireturn, 1, .inl ()), (36, .iload_n 2, 1, .inl ()), (37, .ifCond .ne 12, 3, .inr (.inr (.inr 49))), (40, .aload_n 3, 1, .inl ()), (41, .getfield 206, 3, .inr (.inl (8, 3))), (44, .iload_n 1, 1, .inl ()), (45, .iaload, 1, .inl ()), (46, .goto 9, 3, .inr (.inr (.inr 55))), (49, .aload_n 3, 1, .inl ()), (50, .getfield 209, 3, .inr (.inl (8, 4))), (53, .iload_n 1, 1, .inl ()), (54, .iaload, 1, .inl ()), (55, .invokestatic 197, 3, .inr (.inr (.inr 135))), (58, .ireturn, 1, .inl ())]
theorem ok_X_when : okM H_X_when K_X_when = true := by decide +kernel
def K_X_near : List CE := [(0, .aload_n 0, 1, .inl ()), (1, .invokevirtual 164, 3, .inr (.inr (.inr 128))), (4, .ifCond .eq 11, 3, .inr (.inr (.inr 15))), (7, .iload_n 1, 1, .inl ()), (8, .iconst 1, 1, .inl ()), (9, .invokestatic 168, 3, .inr (.inr (.inr 134))), (12, .ifCond .ne 5, 3, .inr (.inr (.inr 17))), (15, .iconst (-1), 1, .inl ()), (16, .ireturn, 1, .inl ()), (17, .aload_n 0, 1, .inl ()), (18, .invokevirtual 172, 3, .inr (.inr (.inr 139))), (21, .astore_n 2, 1, .inl ()), (22, .aload_n 2, 1, .inl ()), (23, .getfield 212, 3, .inr (.inl (8, 7))), (26, .ldc 215, 2, .inr (.inr (.inl (1000000)))), (28, .if_icmp .lt 5, 3, .inr (.inr (.inr 33))), (31, .iconst (-1), 1, .inl ()), (32, .ireturn, 1, .inl ()), (33, .iload_n 1, 1, .inl ()), (34, .ifCond .ne 10, 3, .inr (.inr (.inr 44))), (37, .aload_n 2, 1, .inl ()), (38, .getfield 212, 3, .inr (.inl (8, 7))), (41, .goto 7, 3, .inr (.inr (.inr 48))), (44, .aload_n 2, 1, .inl ()), (45, .getfield 216, 3, .inr (.inl (8, 8))), (48, .ireturn, 1, .inl ())]
theorem ok_X_near : okM H_X_near K_X_near = true := by decide +kernel
def K_X_enough : List CE := [(0, .aload_n 0, 1, .inl ()), (1, .invokevirtual 164, 3, .inr (.inr (.inr 128))), (4, .ifCond .ne 5, 3, .inr (.inr (.inr 9))), (7, .iconst (-1), 1, .inl ()), (8, .ireturn, 1, .inl ()), (9, .aload_n 0, 1, .inl ()), (10, .invokevirtual 172, 3, .inr (.inr (.inr 139))), (13, .astore_n 1, 1, .inl ()), (14, .aload_n 1, 1, .inl ()), (15, .getfield 219, 3, .inr (.inl (8, 9))), (18, .ifCond .ne 12, 3, .inr (.inr (.inr 30))), (21, .aload_n 1, 1, .inl ()), (22, .getfield 216, 3, .inr (.inl (8, 8))), (25, .bipush 99, 2, .inl ()), (27, .if_icmp .le 7, 3, .inr (.inr (.inr 34))), (30, .iconst (-1), 1, .inl ()), (31, .goto 7, 3, .inr (.inr (.inr 38))), (34, .aload_n 1, 1, .inl ()), (35, .getfield 216, 3, .inr (.inl (8, 8))), (38, .ireturn, 1, .inl ())]
theorem ok_X_enough : okM H_X_enough K_X_enough = true := by decide +kernel
def K_X_best : List CE := [(0, .aload_n 0, 1, .inl ()), (1, .iload_n 1, 1, .inl ()), (2, .invokevirtual 142, 3, .inr (.inr (.inr 129))), (5, .ifCond .eq 11, 3, .inr (.inr (.inr 16))), (8, .iload_n 2, 1, .inl ()), (9, .iconst 1, 1, .inl ()), (10, .invokestatic 168, 3, .inr (.inr (.inr 134))), (13, .ifCond .ne 5, 3, .inr (.inr (.inr 18))), (16, .iconst (-1), 1, .inl ()), (17, .ireturn, 1, .inl ()), (18, .aload_n 0, 1, .inl ()), (19, .getfield 85, 3, .inr (.inl (11, 13))), (22, .aload_n 0, 1, .inl ()), (23, .getfield 71, 3, .inr (.inl (11, 11))), (26, .aload_n 0, 1, .inl ()), (27, .getfield 42, 3, .inr (.inl (11, 4))), (30, .aload_n 0, 1, .inl ()), (31, .getfield 59, 3, .inr (.inl (11, 8))), (34, .getfield 151, 3, .inr (.inl (0, 0))), (37, .iload_n 1, 1, .inl ()), (38, .iconst 0, 1, .inl ()), (39, .invokevirtual 223, 3, .inr (.inr (.inr 54))), (42, .aload_n 0, 1, .inl ()), (43, .getfield 85, 3, .inr (.inl (11, 13))), (46, .aload_n 0, 1, .inl ()), (47, .getfield 42, 3, .inr (.inl (11, 4))), (50, .getfield 227, 3, .inr (.inl (2, 1))), (53, .bipush 10, 2, .inl ()), (55, .imul, 1, .inl ()), (56, .iload_n 2, 1, .inl ()), (57, .invokevirtual 230, 3, .inr (.inr (.inr 56))), (60, .ireturn, 1, .inl ())]
theorem ok_X_best : okM H_X_best K_X_best = true := by decide +kernel
def K_X_pair : List CE := [(0, .aload_n 0, 1, .inl ()), (1, .iload_n 1, 1, .inl ()), (2, .iload_n 2, 1, .inl ()), (3, .invokevirtual 234, 3, .inr (.inr (.inr 133))), (6, .ifCond .eq 11, 3, .inr (.inr (.inr 17))), (9, .iload_n 3, 1, .inl ()), (10, .iconst 1, 1, .inl ()), (11, .invokestatic 168, 3, .inr (.inr (.inr 134))), (14, .ifCond .ne 5, 3, .inr (.inr (.inr 19))), (17, .iconst (-1), 1, .inl ()), (18, .ireturn, 1, .inl ()), (19, .aload_n 0, 1, .inl ()), (20, .iload_n 1, 1, .inl ()), (21, .iload_n 2, 1, .inl ()), (22, .invokevirtual 237, 3, .inr (.inr (.inr 140))), (25, .astore 4, 2, .inl ()), (27, .aload 4, 2, .inl ()), (29, .invokevirtual 241, 3, .inr (.inr (.inr 10))), (32, .istore 5, 2, .inl ()), (34, .iload_n 3, 1, .inl ()), (35, .ifCond .ne 13, 3, .inr (.inr (.inr 48))), (38, .aload 4, 2, .inl ()), (40, .iload 5, 2, .inl ()), (42, .invokevirtual 244, 3, .inr (.inr (.inr 11))), (45, .goto 11, 3, .inr (.inr (.inr 56))), (48, .aload 4, 2, .inl ()), (50, .getfield 247, 3, .inr (.inl (1, 3))), (53, .iload 5, 2, .inl ()), (55, .iaload, 1, .inl ()), (56, .ireturn, 1, .inl ())]
theorem ok_X_pair : okM H_X_pair K_X_pair = true := by decide +kernel
def K_X_sure : List CE := [(0, .aload_n 0, 1, .inl ()), (1, .iload_n 1, 1, .inl ()), (2, .iload_n 2, 1, .inl ()), (3, .invokevirtual 234, 3, .inr (.inr (.inr 133))), (6, .ifCond .ne 5, 3, .inr (.inr (.inr 11))), (9, .iconst (-1), 1, .inl ()), (10, .ireturn, 1, .inl ()), (11, .aload_n 0, 1, .inl ()), (12, .iload_n 1, 1, .inl ()), (13, .iload_n 2, 1, .inl ()), (14, .invokevirtual 237, 3, .inr (.inr (.inr 140))), (17, .aload_n 0, 1, .inl ()), (18, .getfield 42, 3, .inr (.inl (11, 4))), (21, .invokevirtual 179, 3, .inr (.inr (.inr 26))), (24, .invokevirtual 250, 3, .inr (.inr (.inr 12))), (27, .ireturn, 1, .inl ())]
theorem ok_X_sure : okM H_X_sure K_X_sure = true := by decide +kernel
def K_X_idle : List CE := [(0, .aload_n 0, 1, .inl ()), (1, .invokevirtual 164, 3, .inr (.inr (.inr 128))), (4, .ifCond .ne 5, 3, .inr (.inr (.inr 9))), (7, .iconst (-1), 1, .inl ()), (8, .ireturn, 1, .inl ()), (9, .aload_n 0, 1, .inl ()), (10, .invokevirtual 172, 3, .inr (.inr (.inr 139))), (13, .getfield 176, 3, .inr (.inl (8, 2))), (16, .istore_n 1, 1, .inl ()), (17, .iconst 0, 1, .inl ()), (18, .istore_n 2, 1, .inl ()), (19, .iconst 0, 1, .inl ()), (20, .istore_n 3, 1, .inl ()), (21, .iload_n 3, 1, .inl ()), (22, .aload_n 0, 1, .inl ()), (23, .getfield 42, 3, .inr (.inl (11, 4))), (26, .getfield 227, 3, .inr (.inl (2, 1))), (29, .if_icmp .ge 58, 3, .inr (.inr (.inr 87))), (32, .aload_n 0, 1, .inl ()), (33, .getfield 46, 3, .inr (.inl (11, 5))), (36, .aload_n 0, 1, .inl ()), (37, .getfield 42, 3, .inr (.inl (11, 4))), (40, .invokevirtual 253, 3, .inr (.inr (.inr 22))), (43, .aload_n 0, 1, .inl ()), (44, .getfield 46, 3, .inr (.inl (11, 5))), (47, .iconst 1, 1, .inl ()), (48, .iload_n 3, 1, .inl ()), (49, .ishl, 1, .inl ()), (50, .putfield 257, 3, .inr (.inl (2, 7))), (53, .aload_n 0, 1, .inl ()), (54, .getfield 71, 3, .inr (.inl (11, 11))), (57, .aload_n 0, 1, .inl ()), (58, .getfield 46, 3, .inr (.inl (11, 5))), (61, .aload_n 0, 1, .inl ()), (62, .getfield 59, 3, .inr (.inl (11, 8))), (65, .getfield 151, 3, .inr (.inl (0, 0))), (68, .invokevirtual 260, 3, .inr (.inr (.inr 80))), (71, .iload_n 1, 1, .inl ()), (72, .if_icmp .lt 9, 3, .inr (.inr (.inr 81))), (75, .iload_n 2, 1, .inl ()), (76, .iconst 1, 1, .inl ()), (77, .iload_n 3, 1, .inl ()), (78, .ishl, 1, .inl ()), (79, .ior, 1, .inl ()), (80, .istore_n 2, 1, .inl ()), (81, .iinc 3 1, 3, .inl ()), (84, .goto (-63), 3, .inr (.inr (.inr 21))), (87, .iload_n 2, 1, .inl ()), (88, .ireturn, 1, .inl ())]
theorem ok_X_idle : okM H_X_idle K_X_idle = true := by decide +kernel
def K_X_shift : List CE := [(0, .aload_n 0, 1, .inl ()), (1, .iload_n 1, 1, .inl ()), (2, .invokevirtual 119, 3, .inr (.inr (.inr 130))), (5, .ifCond .eq 15, 3, .inr (.inr (.inr 20))), (8, .iload_n 2, 1, .inl ()), (9, .bipush (-9), 2, .inl ()), (11, .if_icmp .lt 9, 3, .inr (.inr (.inr 20))), (14, .iload_n 2, 1, .inl ()), (15, .bipush 9, 2, .inl ()), (17, .if_icmp .le 5, 3, .inr (.inr (.inr 22))), (20, .iconst (-1), 1, .inl ()), (21, .ireturn, 1, .inl ()), (22, .aload_n 0, 1, .inl ()), (23, .getfield 46, 3, .inr (.inl (11, 5))), (26, .aload_n 0, 1, .inl ()), (27, .getfield 42, 3, .inr (.inl (11, 4))), (30, .invokevirtual 253, 3, .inr (.inr (.inr 22))), (33, .aload_n 0, 1, .inl ()), (34, .getfield 46, 3, .inr (.inl (11, 5))), (37, .getfield 130, 3, .inr (.inl (2, 10))), (40, .iload_n 1, 1, .inl ()), (41, .dup2, 1, .inl ()), (42, .iaload, 1, .inl ()), (43, .iload_n 2, 1, .inl ()), (44, .iadd, 1, .inl ()), (45, .iastore, 1, .inl ()), (46, .aload_n 0, 1, .inl ()), (47, .getfield 71, 3, .inr (.inl (11, 11))), (50, .aload_n 0, 1, .inl ()), (51, .getfield 46, 3, .inr (.inl (11, 5))), (54, .aload_n 0, 1, .inl ()), (55, .getfield 59, 3, .inr (.inl (11, 8))), (58, .getfield 151, 3, .inr (.inl (0, 0))), (61, .invokevirtual 260, 3, .inr (.inr (.inr 80))), (64, .ireturn, 1, .inl ())]
theorem ok_X_shift : okM H_X_shift K_X_shift = true := by decide +kernel
def K_X_waits : List CE := [(0, .aload_n 0, 1, .inl ()), (1, .iload_n 1, 1, .inl ()), (2, .invokevirtual 142, 3, .inr (.inr (.inr 129))), (5, .ifCond .eq 11, 3, .inr (.inr (.inr 16))), (8, .iload_n 2, 1, .inl ()), (9, .iconst 1, 1, .inl ()), (10, .invokestatic 168, 3, .inr (.inr (.inr 134))), (13, .ifCond .ne 5, 3, .inr (.inr (.inr 18))), (16, .iconst (-1), 1, .inl ()), (17, .ireturn, 1, .inl ()), (18, .aload_n 0, 1, .inl ()), (19, .getfield 85, 3, .inr (.inl (11, 13))), (22, .aload_n 0, 1, .inl ()), (23, .getfield 71, 3, .inr (.inl (11, 11))), (26, .aload_n 0, 1, .inl ()), (27, .getfield 42, 3, .inr (.inl (11, 4))), (30, .aload_n 0, 1, .inl ()), (31, .getfield 59, 3, .inr (.inl (11, 8))), (34, .getfield 151, 3, .inr (.inl (0, 0))), (37, .iload_n 1, 1, .inl ()), (38, .invokevirtual 264, 3, .inr (.inr (.inr 55))), (41, .aload_n 0, 1, .inl ()), (42, .getfield 85, 3, .inr (.inl (11, 13))), (45, .bipush 10, 2, .inl ()), (47, .iload_n 2, 1, .inl ()), (48, .invokevirtual 230, 3, .inr (.inr (.inr 56))), (51, .ireturn, 1, .inl ())]
theorem ok_X_waits : okM H_X_waits K_X_waits = true := by decide +kernel
def K_X_gain : List CE := [(0, .aload_n 0, 1, .inl ()), (1, .iload_n 1, 1, .inl ()), (2, .invokevirtual 142, 3, .inr (.inr (.inr 129))), (5, .ifCond .ne 5, 3, .inr (.inr (.inr 10))), (8, .iconst (-1), 1, .inl ()), (9, .ireturn, 1, .inl ()), (10, .aload_n 0, 1, .inl ()), (11, .invokevirtual 172, 3, .inr (.inr (.inr 139))), (14, .astore_n 2, 1, .inl ()), (15, .aload_n 0, 1, .inl ()), (16, .getfield 42, 3, .inr (.inl (11, 4))), (19, .iload_n 1, 1, .inl ()), (20, .aload_n 2, 1, .inl ()), (21, .getfield 176, 3, .inr (.inl (8, 2))), (24, .aload_n 2, 1, .inl ()), (25, .getfield 268, 3, .inr (.inl (8, 6))), (28, .iload_n 1, 1, .inl ()), (29, .iaload, 1, .inl ()), (30, .invokevirtual 271, 3, .inr (.inr (.inr 31))), (33, .ireturn, 1, .inl ())]
theorem ok_X_gain : okM H_X_gain K_X_gain = true := by decide +kernel
def K_X_rest : List CE := [(0, .aload_n 0, 1, .inl ()), (1, .iload_n 1, 1, .inl ()), (2, .iload_n 2, 1, .inl ()), (3, .invokevirtual 234, 3, .inr (.inr (.inr 133))), (6, .ifCond .eq 8, 3, .inr (.inr (.inr 14))), (9, .iload_n 3, 1, .inl ()), (10, .iconst (-1), 1, .inl ()), (11, .if_icmp .ge 5, 3, .inr (.inr (.inr 16))), (14, .iconst (-1), 1, .inl ()), (15, .ireturn, 1, .inl ()), (16, .aload_n 0, 1, .inl ()), (17, .iload_n 1, 1, .inl ()), (18, .iload_n 2, 1, .inl ()), (19, .invokevirtual 237, 3, .inr (.inr (.inr 140))), (22, .aload_n 0, 1, .inl ()), (23, .getfield 42, 3, .inr (.inl (11, 4))), (26, .iload_n 3, 1, .inl ()), (27, .invokevirtual 274, 3, .inr (.inr (.inr 13))), (30, .ireturn, 1, .inl ())]
theorem ok_X_rest : okM H_X_rest K_X_rest = true := by decide +kernel
def K_X_thief : List CE := [(0, .aload_n 0, 1, .inl ()), (1, .iload_n 1, 1, .inl ()), (2, .invokevirtual 142, 3, .inr (.inr (.inr 129))), (5, .ifCond .eq 11, 3, .inr (.inr (.inr 16))), (8, .iload_n 2, 1, .inl ()), (9, .iconst 1, 1, .inl ()), (10, .invokestatic 168, 3, .inr (.inr (.inr 134))), (13, .ifCond .ne 5, 3, .inr (.inr (.inr 18))), (16, .iconst (-1), 1, .inl ()), (17, .ireturn, 1, .inl ()), (18, .aload_n 0, 1, .inl ()), (19, .getfield 85, 3, .inr (.inl (11, 13))), (22, .aload_n 0, 1, .inl ()), (23, .getfield 71, 3, .inr (.inl (11, 11))), (26, .aload_n 0, 1, .inl ()), (27, .getfield 42, 3, .inr (.inl (11, 4))), (30, .aload_n 0, 1, .inl ()), (31, .getfield 59, 3, .inr (.inl (11, 8))), (34, .getfield 151, 3, .inr (.inl (0, 0))), (37, .iload_n 1, 1, .inl ()), (38, .iconst 1, 1, .inl ()), (39, .invokevirtual 223, 3, .inr (.inr (.inr 54))), (42, .aload_n 0, 1, .inl ()), (43, .getfield 85, 3, .inr (.inl (11, 13))), (46, .aload_n 0, 1, .inl ()), (47, .getfield 42, 3, .inr (.inl (11, 4))), (50, .getfield 227, 3, .inr (.inl (2, 1))), (53, .bipush 10, 2, .inl ()), (55, .imul, 1, .inl ()), (56, .iload_n 2, 1, .inl ()), (57, .invokevirtual 230, 3, .inr (.inr (.inr 56))), (60, .ireturn, 1, .inl ())]
theorem ok_X_thief : okM H_X_thief K_X_thief = true := by decide +kernel
def K_X_scratch : List CE := [(0, .aload_n 0, 1, .inl ()), (1, .iload_n 1, 1, .inl ()), (2, .invokevirtual 142, 3, .inr (.inr (.inr 129))), (5, .ifCond .eq 16, 3, .inr (.inr (.inr 21))), (8, .iload_n 2, 1, .inl ()), (9, .iconst (-1), 1, .inl ()), (10, .if_icmp .eq 13, 3, .inr (.inr (.inr 23))), (13, .aload_n 0, 1, .inl ()), (14, .iload_n 2, 1, .inl ()), (15, .invokevirtual 119, 3, .inr (.inr (.inr 130))), (18, .ifCond .ne 5, 3, .inr (.inr (.inr 23))), (21, .iconst (-1), 1, .inl ()), (22, .ireturn, 1, .inl ()), (23, .iload_n 3, 1, .inl ()), (24, .bipush (-99), 2, .inl ()), (26, .if_icmp .lt 22, 3, .inr (.inr (.inr 48))), (29, .iload_n 3, 1, .inl ()), (30, .sipush 199, 3, .inl ()), (33, .if_icmp .gt 15, 3, .inr (.inr (.inr 48))), (36, .aload_n 0, 1, .inl ()), (37, .getfield 59, 3, .inr (.inl (11, 8))), (40, .getfield 278, 3, .inr (.inl (0, 1))), (43, .bipush 10, 2, .inl ()), (45, .if_icmp .lt 5, 3, .inr (.inr (.inr 50))), (48, .iconst (-1), 1, .inl ()), (49, .ireturn, 1, .inl ()), (50, .aload_n 0, 1, .inl ()), (51, .getfield 59, 3, .inr (.inl (11, 8))), (54, .iload_n 1, 1, .inl ()), (55, .iload_n 2, 1, .inl ()), (56, .iload_n 3, 1, .inl ()), (57, .invokevirtual 281, 3, .inr (.inr (.inr 2))), (60, .aload_n 0, 1, .inl ()), (61, .getfield 59, 3, .inr (.inl (11, 8))), (64, .getfield 278, 3, .inr (.inl (0, 1))), (67, .ireturn, 1, .inl ())]
theorem ok_X_scratch : okM H_X_scratch K_X_scratch = true := by decide +kernel
def K_X_fits_0 : List CE := [(0, .aload_n 0, 1, .inl ()), (1, .invokevirtual 164, 3, .inr (.inr (.inr 128))), (4, .ifCond .eq 16, 3, .inr (.inr (.inr 20))), (7, .iload_n 1, 1, .inl ()), (8, .iconst (-1), 1, .inl ()), (9, .if_icmp .eq 13, 3, .inr (.inr (.inr 22))), (12, .aload_n 0, 1, .inl ()), (13, .iload_n 1, 1, .inl ()), (14, .invokevirtual 119, 3, .inr (.inr (.inr 130))), (17, .ifCond .ne 5, 3, .inr (.inr (.inr 22))), (20, .iconst (-1), 1, .inl ()), (21, .ireturn, 1, .inl ()), (22, .aload_n 0, 1, .inl ()), (23, .getfield 71, 3, .inr (.inl (11, 11))), (26, .aload_n 0, 1, .inl ()), (27, .getfield 42, 3, .inr (.inl (11, 4))), (30, .aload_n 0, 1, .inl ()), (31, .getfield 59, 3, .inr (.inl (11, 8))), (34, .getfield 151, 3, .inr (.inl (0, 0))), (37, .aload_n 0, 1, .inl ()), (38, .getfield 59, 3, .inr (.inl (11, 8))), (41, .invokevirtual 285, 3, .inr (.inr (.inr 3))), (44, .invokevirtual 288, 3, .inr (.inr (.inr 76))), (47, .istore_n 2, 1, .inl ()), (48, .iconst 0, 1, .inl ()), (49, .istore_n 3, 1, .inl ()), (50, .iconst 0, 1, .inl ()), (51, .istore 4, 2, .inl ()), (53, .iconst 0, 1, .inl ()), (54, .istore 5, 2, .inl ()), (56, .iload 5, 2, .inl ()), (58, .iload_n 2, 1, .inl ()), (59, .if_icmp .ge 62, 3, .inr (.inr (.inr 121))), (62, .aload_n 0, 1, .inl ()), (63, .getfield 59, 3, .inr (.inl (11, 8))), (66, .aload_n 0, 1, .inl ()), (67, .getfield 71, 3, .inr (.inl (11, 11))), (70, .invokevirtual 292, 3, .inr (.inr (.inr 4))), (73, .ifCond .ne 35, 3, .inr (.inr (.inr 108))), (76, .iload_n 3, 1, .inl ()), (77, .aload_n 0, 1, .inl ()), (78, .getfield 71, 3, .inr (.inl (11, 11))), (81, .getfield 296, 3, .inr (.inl (10, 2))), (84, .iadd, 1, .inl ()), (85, .istore_n 3, 1, .inl ()), (86, .iload 4, 2, .inl ()), (88, .iload_n 1, 1, .inl ()), (89, .iconst (-1), 1, .inl ()), (90, .if_icmp .ne 7, 3, .inr (.inr (.inr 97))), (93, .iconst 0, 1, .inl ())]
def K_X_fits_1 : List CE := [(94, .goto 11, 3, .inr (.inr (.inr 105))), (97, .aload_n 0, 1, .inl ()), (98, .getfield 71, 3, .inr (.inl (11, 11))), (101, .iload_n 1, 1, .inl ()), (102, .invokevirtual 299, 3, .inr (.inr (.inr 82))), (105, .ior, 1, .inl ()), (106, .istore 4, 2, .inl ()), (108, .aload_n 0, 1, .inl ()), (109, .getfield 71, 3, .inr (.inl (11, 11))), (112, .invokevirtual 302, 3, .inr (.inr (.inr 77))), (115, .iinc 5 1, 3, .inl ()), (118, .goto (-62), 3, .inr (.inr (.inr 56))), (121, .iload_n 1, 1, .inl ()), (122, .iconst (-1), 1, .inl ()), (123, .if_icmp .ne 7, 3, .inr (.inr (.inr 130))), (126, .iload_n 3, 1, .inl ()), (127, .goto 5, 3, .inr (.inr (.inr 132))), (130, .iload 4, 2, .inl ()), (132, .ireturn, 1, .inl ())]
def K_X_fits : List CE := K_X_fits_0 ++ (K_X_fits_1)
theorem ok_X_fits : okM H_X_fits K_X_fits = true := by decide +kernel
def K_X_lies : List CE := [(0, .aload_n 0, 1, .inl ()), (1, .invokevirtual 164, 3, .inr (.inr (.inr 128))), (4, .ifCond .ne 5, 3, .inr (.inr (.inr 9))), (7, .iconst (-1), 1, .inl ()), (8, .ireturn, 1, .inl ()), (9, .aload_n 0, 1, .inl ()), (10, .getfield 71, 3, .inr (.inl (11, 11))), (13, .aload_n 0, 1, .inl ()), (14, .getfield 42, 3, .inr (.inl (11, 4))), (17, .aload_n 0, 1, .inl ()), (18, .getfield 59, 3, .inr (.inl (11, 8))), (21, .getfield 151, 3, .inr (.inl (0, 0))), (24, .aload_n 0, 1, .inl ()), (25, .getfield 59, 3, .inr (.inl (11, 8))), (28, .invokevirtual 285, 3, .inr (.inr (.inr 3))), (31, .invokevirtual 288, 3, .inr (.inr (.inr 76))), (34, .istore_n 1, 1, .inl ()), (35, .iconst 1, 1, .inl ()), (36, .aload_n 0, 1, .inl ()), (37, .getfield 59, 3, .inr (.inl (11, 8))), (40, .getfield 278, 3, .inr (.inl (0, 1))), (43, .ishl, 1, .inl ()), (44, .iconst 1, 1, .inl ()), (45, .isub, 1, .inl ()), (46, .istore_n 2, 1, .inl ()), (47, .iconst 0, 1, .inl ()), (48, .istore_n 3, 1, .inl ()), (49, .iload_n 3, 1, .inl ()), (50, .iload_n 1, 1, .inl ()), (51, .if_icmp .ge 60, 3, .inr (.inr (.inr 111))), (54, .aload_n 0, 1, .inl ()), (55, .getfield 59, 3, .inr (.inl (11, 8))), (58, .aload_n 0, 1, .inl ()), (59, .getfield 71, 3, .inr (.inl (11, 11))), (62, .invokevirtual 292, 3, .inr (.inr (.inr 4))), (65, .istore 4, 2, .inl ()), (67, .iload 4, 2, .inl ()), (69, .invokestatic 305, 3, .inr (.inr (.inr 233))), (72, .iload_n 2, 1, .inl ()), (73, .invokestatic 305, 3, .inr (.inr (.inr 233))), (76, .isub, 1, .inl ()), (77, .istore 5, 2, .inl ()), (79, .iload 5, 2, .inl ()), (81, .ifCond .lt 14, 3, .inr (.inr (.inr 95))), (84, .iload 5, 2, .inl ()), (86, .ifCond .ne 12, 3, .inr (.inr (.inr 98))), (89, .iload 4, 2, .inl ()), (91, .iload_n 2, 1, .inl ()), (92, .if_icmp .ge 6, 3, .inr (.inr (.inr 98))), (95, .iload 4, 2, .inl ()), (97, .istore_n 2, 1, .inl ()), (98, .aload_n 0, 1, .inl ()), (99, .getfield 71, 3, .inr (.inl (11, 11))), (102, .invokevirtual 302, 3, .inr (.inr (.inr 77))), (105, .iinc 3 1, 3, .inl ()), (108, .goto (-59), 3, .inr (.inr (.inr 49))), (111, .iload_n 2, 1, .inl ()), (112, .ireturn, 1, .inl ())]
theorem ok_X_lies : okM H_X_lies K_X_lies = true := by decide +kernel
def K_X_sets : List CE := [(0, .aload_n 0, 1, .inl ()), (1, .invokevirtual 164, 3, .inr (.inr (.inr 128))), (4, .ifCond .eq 8, 3, .inr (.inr (.inr 12))), (7, .iload_n 1, 1, .inl ()), (8, .iconst (-1), 1, .inl ()), (9, .if_icmp .ge 5, 3, .inr (.inr (.inr 14))), (12, .iconst (-1), 1, .inl ()), (13, .ireturn, 1, .inl ()), (14, .aload_n 0, 1, .inl ()), (15, .invokevirtual 172, 3, .inr (.inr (.inr 139))), (18, .aload_n 0, 1, .inl ()), (19, .getfield 71, 3, .inr (.inl (11, 11))), (22, .aload_n 0, 1, .inl ()), (23, .getfield 42, 3, .inr (.inl (11, 4))), (26, .aload_n 0, 1, .inl ()), (27, .getfield 59, 3, .inr (.inl (11, 8))), (30, .getfield 151, 3, .inr (.inl (0, 0))), (33, .invokevirtual 310, 3, .inr (.inr (.inr 61))), (36, .istore_n 2, 1, .inl ()), (37, .iconst 0, 1, .inl ()), (38, .istore_n 3, 1, .inl ()), (39, .iconst 1, 1, .inl ()), (40, .istore 4, 2, .inl ()), (42, .iload 4, 2, .inl ()), (44, .iconst 1, 1, .inl ()), (45, .aload_n 0, 1, .inl ()), (46, .getfield 42, 3, .inr (.inl (11, 4))), (49, .getfield 314, 3, .inr (.inl (2, 0))), (52, .ishl, 1, .inl ()), (53, .if_icmp .ge 29, 3, .inr (.inr (.inr 82))), (56, .iload_n 2, 1, .inl ()), (57, .iload 4, 2, .inl ()), (59, .ishr, 1, .inl ()), (60, .iconst 1, 1, .inl ()), (61, .iand, 1, .inl ()), (62, .ifCond .eq 14, 3, .inr (.inr (.inr 76))), (65, .iload_n 3, 1, .inl ()), (66, .iload_n 1, 1, .inl ()), (67, .if_icmp .ne 6, 3, .inr (.inr (.inr 73))), (70, .iload 4, 2, .inl ()), (72, .ireturn, 1, .inl ()), (73, .iinc 3 1, 3, .inl ()), (76, .iinc 4 1, 3, .inl ()), (79, .goto (-37), 3, .inr (.inr (.inr 42))), (82, .iload_n 1, 1, .inl ()), (83, .iconst (-1), 1, .inl ()), (84, .if_icmp .ne 7, 3, .inr (.inr (.inr 91))), (87, .iload_n 3, 1, .inl ()), (88, .goto 4, 3, .inr (.inr (.inr 92))), (91, .iconst (-1), 1, .inl ()), (92, .ireturn, 1, .inl ())]
theorem ok_X_sets : okM H_X_sets K_X_sets = true := by decide +kernel
def K_X_moment : List CE := [(0, .aload_n 0, 1, .inl ()), (1, .invokevirtual 164, 3, .inr (.inr (.inr 128))), (4, .ifCond .eq 21, 3, .inr (.inr (.inr 25))), (7, .iload_n 1, 1, .inl ()), (8, .iconst 2, 1, .inl ()), (9, .invokestatic 168, 3, .inr (.inr (.inr 134))), (12, .ifCond .eq 13, 3, .inr (.inr (.inr 25))), (15, .aload_n 0, 1, .inl ()), (16, .invokevirtual 172, 3, .inr (.inr (.inr 139))), (19, .getfield 176, 3, .inr (.inl (8, 2))), (22, .ifCond .ne 6, 3, .inr (.inr (.inr 28))), (25, .ldc 189, 2, .inr (.inr (.inl (-1000000)))), (27, .ireturn, 1, .inl ()), (28, .iload_n 1, 1, .inl ()), (29, .lookupswitch 43 #[(0, 27), (1, 35)], 27, .inl ()), (56, .aload_n 0, 1, .inl ()), (57, .getfield 78, 3, .inr (.inl (11, 12))), (60, .getfield 317, 3, .inr (.inl (8, 10))), (63, .ireturn, 1, .inl ()), (64, .aload_n 0, 1, .inl ()), (65, .getfield 78, 3, .inr (.inl (11, 12))), (68, .getfield 320, 3, .inr (.inl (8, 11))), (71, .ireturn, 1, .inl ()), (72, .aload_n 0, 1, .inl ()), (73, .getfield 78, 3, .inr (.inl (11, 12))), (76, .getfield 323, 3, .inr (.inl (8, 12))), (79, .ireturn, 1, .inl ())]
theorem ok_X_moment : okM H_X_moment K_X_moment = true := by decide +kernel
def K_X_better : List CE := [(0, .aload_n 0, 1, .inl ()), (1, .iload_n 1, 1, .inl ()), (2, .invokevirtual 142, 3, .inr (.inr (.inr 129))), (5, .ifCond .eq 19, 3, .inr (.inr (.inr 24))), (8, .aload_n 0, 1, .inl ()), (9, .iload_n 2, 1, .inl ()), (10, .invokevirtual 158, 3, .inr (.inr (.inr 131))), (13, .ifCond .eq 11, 3, .inr (.inr (.inr 24))), (16, .aload_n 0, 1, .inl ()), (17, .iload_n 3, 1, .inl ()), (18, .invokevirtual 158, 3, .inr (.inr (.inr 131))), (21, .ifCond .ne 6, 3, .inr (.inr (.inr 27))), (24, .ldc 189, 2, .inr (.inr (.inl (-1000000)))), (26, .ireturn, 1, .inl ()), (27, .aload_n 0, 1, .inl ()), (28, .iload_n 1, 1, .inl ()), (29, .iload_n 2, 1, .inl ()), (30, .invokevirtual 326, 3, .inr (.inr (.inr 142))), (33, .aload_n 0, 1, .inl ()), (34, .iload_n 1, 1, .inl ()), (35, .iload_n 3, 1, .inl ()), (36, .invokevirtual 326, 3, .inr (.inr (.inr 142))), (39, .isub, 1, .inl ()), (40, .ireturn, 1, .inl ())]
theorem ok_X_better : okM H_X_better K_X_better = true := by decide +kernel
def K_X_exact_0 : List CE := [(0, .aload_n 0, 1, .inl ()), (1, .invokevirtual 164, 3, .inr (.inr (.inr 128))), (4, .ifCond .eq 11, 3, .inr (.inr (.inr 15))), (7, .iload_n 1, 1, .inl ()), (8, .iconst 2, 1, .inl ()), (9, .invokestatic 168, 3, .inr (.inr (.inr 134))), (12, .ifCond .ne 5, 3, .inr (.inr (.inr 17))), (15, .iconst (-1), 1, .inl ()), (16, .ireturn, 1, .inl ()), (17, .iconst (-1), 1, .inl ()), (18, .istore_n 2, 1, .inl ()), (19, .iconst 0, 1, .inl ()), (20, .istore_n 3, 1, .inl ()), (21, .iconst 1, 1, .inl ()), (22, .istore 4, 2, .inl ()), (24, .iconst 0, 1, .inl ()), (25, .istore 5, 2, .inl ()), (27, .iload 5, 2, .inl ()), (29, .aload_n 0, 1, .inl ()), (30, .getfield 42, 3, .inr (.inl (11, 4))), (33, .getfield 227, 3, .inr (.inl (2, 1))), (36, .if_icmp .ge 92, 3, .inr (.inr (.inr 128))), (39, .aload_n 0, 1, .inl ()), (40, .getfield 46, 3, .inr (.inl (11, 5))), (43, .aload_n 0, 1, .inl ()), (44, .getfield 42, 3, .inr (.inl (11, 4))), (47, .invokevirtual 253, 3, .inr (.inr (.inr 22))), (50, .aload_n 0, 1, .inl ()), (51, .getfield 46, 3, .inr (.inl (11, 5))), (54, .getfield 133, 3, .inr (.inl (2, 11))), (57, .iload 5, 2, .inl ()), (59, .iconst 0, 1, .inl ()), (60, .iastore, 1, .inl ()), (61, .aload_n 0, 1, .inl ()), (62, .getfield 71, 3, .inr (.inl (11, 11))), (65, .aload_n 0, 1, .inl ()), (66, .getfield 46, 3, .inr (.inl (11, 5))), (69, .aload_n 0, 1, .inl ()), (70, .getfield 59, 3, .inr (.inl (11, 8))), (73, .getfield 151, 3, .inr (.inl (0, 0))), (76, .invokevirtual 260, 3, .inr (.inr (.inr 80))), (79, .istore 6, 2, .inl ()), (81, .aload_n 0, 1, .inl ()), (82, .getfield 46, 3, .inr (.inl (11, 5))), (85, .invokevirtual 179, 3, .inr (.inr (.inr 26))), (88, .istore 7, 2, .inl ()), (90, .iload_n 2, 1, .inl ()), (91, .iconst (-1), 1, .inl ()), (92, .if_icmp .eq 20, 3, .inr (.inr (.inr 112))), (95, .iload 6, 2, .inl ())]
def K_X_exact_1 : List CE := [(97, .i2l, 1, .inl ()), (98, .iload 4, 2, .inl ()), (100, .i2l, 1, .inl ()), (101, .lmul, 1, .inl ()), (102, .iload_n 3, 1, .inl ()), (103, .i2l, 1, .inl ()), (104, .iload 7, 2, .inl ()), (106, .i2l, 1, .inl ()), (107, .lmul, 1, .inl ()), (108, .lcmp, 1, .inl ()), (109, .ifCond .le 13, 3, .inr (.inr (.inr 122))), (112, .iload 5, 2, .inl ()), (114, .istore_n 2, 1, .inl ()), (115, .iload 6, 2, .inl ()), (117, .istore_n 3, 1, .inl ()), (118, .iload 7, 2, .inl ()), (120, .istore 4, 2, .inl ()), (122, .iinc 5 1, 3, .inl ()), (125, .goto (-98), 3, .inr (.inr (.inr 27))), (128, .iload_n 1, 1, .inl ()), (129, .ifCond .ne 7, 3, .inr (.inr (.inr 136))), (132, .iload_n 2, 1, .inl ()), (133, .goto 12, 3, .inr (.inr (.inr 145))), (136, .iload_n 3, 1, .inl ()), (137, .iload 4, 2, .inl ()), (139, .iload_n 1, 1, .inl ()), (140, .iconst 1, 1, .inl ()), (141, .isub, 1, .inl ()), (142, .invokestatic 182, 3, .inr (.inr (.inr 145))), (145, .ireturn, 1, .inl ())]
def K_X_exact : List CE := K_X_exact_0 ++ (K_X_exact_1)
theorem ok_X_exact : okM H_X_exact K_X_exact = true := by decide +kernel
def K_X_lossy_0 : List CE := [(0, .aload_n 0, 1, .inl ()), (1, .invokevirtual 164, 3, .inr (.inr (.inr 128))), (4, .ifCond .eq 12, 3, .inr (.inr (.inr 16))), (7, .iload_n 1, 1, .inl ()), (8, .bipush 100, 2, .inl ()), (10, .invokestatic 168, 3, .inr (.inr (.inr 134))), (13, .ifCond .ne 5, 3, .inr (.inr (.inr 18))), (16, .iconst (-1), 1, .inl ()), (17, .ireturn, 1, .inl ()), (18, .aload_n 0, 1, .inl ()), (19, .getfield 42, 3, .inr (.inl (11, 4))), (22, .invokevirtual 179, 3, .inr (.inr (.inr 26))), (25, .iconst 1, 1, .inl ()), (26, .invokestatic 329, 3, .inr (.inl (0, 0))), (29, .i2l, 1, .inl ()), (30, .lstore_n 2, 1, .inl ()), (31, .lconst 0, 1, .inl ()), (32, .lstore 4, 2, .inl ()), (34, .iconst 0, 1, .inl ()), (35, .istore 6, 2, .inl ()), (37, .iload 6, 2, .inl ()), (39, .iconst 1, 1, .inl ()), (40, .aload_n 0, 1, .inl ()), (41, .getfield 42, 3, .inr (.inl (11, 4))), (44, .getfield 227, 3, .inr (.inl (2, 1))), (47, .ishl, 1, .inl ()), (48, .if_icmp .ge 74, 3, .inr (.inr (.inr 122))), (51, .aload_n 0, 1, .inl ()), (52, .iload 6, 2, .inl ()), (54, .iload_n 1, 1, .inl ()), (55, .invokevirtual 334, 3, .inr (.inr (.inr 144))), (58, .lstore 7, 2, .inl ()), (60, .lload 7, 2, .inl ()), (62, .lconst 0, 1, .inl ()), (63, .lcmp, 1, .inl ()), (64, .ifCond .le 52, 3, .inr (.inr (.inr 116))), (67, .aload_n 0, 1, .inl ()), (68, .getfield 46, 3, .inr (.inl (11, 5))), (71, .aload_n 0, 1, .inl ()), (72, .getfield 42, 3, .inr (.inl (11, 4))), (75, .invokevirtual 253, 3, .inr (.inr (.inr 22))), (78, .aload_n 0, 1, .inl ()), (79, .getfield 46, 3, .inr (.inl (11, 5))), (82, .iload 6, 2, .inl ()), (84, .putfield 257, 3, .inr (.inl (2, 7))), (87, .lload 4, 2, .inl ()), (89, .lload 7, 2, .inl ()), (91, .aload_n 0, 1, .inl ()), (92, .getfield 71, 3, .inr (.inl (11, 11))), (95, .aload_n 0, 1, .inl ())]
def K_X_lossy_1 : List CE := [(96, .getfield 46, 3, .inr (.inl (11, 5))), (99, .aload_n 0, 1, .inl ()), (100, .getfield 59, 3, .inr (.inl (11, 8))), (103, .getfield 151, 3, .inr (.inl (0, 0))), (106, .invokevirtual 260, 3, .inr (.inr (.inr 80))), (109, .i2l, 1, .inl ()), (110, .lmul, 1, .inl ()), (111, .lload_n 2, 1, .inl ()), (112, .ldiv, 1, .inl ()), (113, .ladd, 1, .inl ()), (114, .lstore 4, 2, .inl ()), (116, .iinc 6 1, 3, .inl ()), (119, .goto (-82), 3, .inr (.inr (.inr 37))), (122, .lload 4, 2, .inl ()), (124, .l2i, 1, .inl ()), (125, .ireturn, 1, .inl ())]
def K_X_lossy : List CE := K_X_lossy_0 ++ (K_X_lossy_1)
theorem ok_X_lossy : okM H_X_lossy K_X_lossy = true := by decide +kernel
def K_X_route : List CE := [(0, .aload_n 0, 1, .inl ()), (1, .iload_n 1, 1, .inl ()), (2, .invokevirtual 119, 3, .inr (.inr (.inr 130))), (5, .ifCond .eq 11, 3, .inr (.inr (.inr 16))), (8, .iload_n 2, 1, .inl ()), (9, .iconst 1, 1, .inl ()), (10, .invokestatic 168, 3, .inr (.inr (.inr 134))), (13, .ifCond .ne 5, 3, .inr (.inr (.inr 18))), (16, .iconst (-1), 1, .inl ()), (17, .ireturn, 1, .inl ()), (18, .iload_n 2, 1, .inl ()), (19, .ifCond .ne 12, 3, .inr (.inr (.inr 31))), (22, .aload_n 0, 1, .inl ()), (23, .getfield 42, 3, .inr (.inl (11, 4))), (26, .iload_n 1, 1, .inl ()), (27, .invokevirtual 338, 3, .inr (.inr (.inr 29))), (30, .ireturn, 1, .inl ()), (31, .iconst 0, 1, .inl ()), (32, .istore_n 3, 1, .inl ()), (33, .iload_n 3, 1, .inl ()), (34, .iconst 5, 1, .inl ()), (35, .if_icmp .ge 16, 3, .inr (.inr (.inr 51))), (38, .aload_n 0, 1, .inl ()), (39, .getfield 53, 3, .inr (.inl (11, 7))), (42, .iload_n 3, 1, .inl ()), (43, .iconst 0, 1, .inl ()), (44, .iastore, 1, .inl ()), (45, .iinc 3 1, 3, .inl ()), (48, .goto (-15), 3, .inr (.inr (.inr 33))), (51, .aload_n 0, 1, .inl ()), (52, .getfield 71, 3, .inr (.inl (11, 11))), (55, .aload_n 0, 1, .inl ()), (56, .getfield 42, 3, .inr (.inl (11, 4))), (59, .aload_n 0, 1, .inl ()), (60, .getfield 59, 3, .inr (.inl (11, 8))), (63, .getfield 151, 3, .inr (.inl (0, 0))), (66, .aload_n 0, 1, .inl ()), (67, .getfield 53, 3, .inr (.inl (11, 7))), (70, .invokevirtual 190, 3, .inr (.inr (.inr 75))), (73, .aload_n 0, 1, .inl ()), (74, .getfield 71, 3, .inr (.inl (11, 11))), (77, .getfield 341, 3, .inr (.inl (10, 7))), (80, .iload_n 1, 1, .inl ()), (81, .iaload, 1, .inl ()), (82, .invokestatic 197, 3, .inr (.inr (.inr 135))), (85, .ireturn, 1, .inl ())]
theorem ok_X_route : okM H_X_route K_X_route = true := by decide +kernel
def K_X_deaf : List CE := [(0, .aload_n 0, 1, .inl ()), (1, .invokevirtual 164, 3, .inr (.inr (.inr 128))), (4, .ifCond .ne 5, 3, .inr (.inr (.inr 9))), (7, .iconst (-1), 1, .inl ()), (8, .ireturn, 1, .inl ()), (9, .aload_n 0, 1, .inl ()), (10, .invokevirtual 172, 3, .inr (.inr (.inr 139))), (13, .getfield 176, 3, .inr (.inl (8, 2))), (16, .istore_n 1, 1, .inl ()), (17, .iconst 0, 1, .inl ()), (18, .istore_n 2, 1, .inl ()), (19, .iconst 0, 1, .inl ()), (20, .istore_n 3, 1, .inl ()), (21, .iload_n 3, 1, .inl ()), (22, .aload_n 0, 1, .inl ()), (23, .getfield 42, 3, .inr (.inl (11, 4))), (26, .getfield 314, 3, .inr (.inl (2, 0))), (29, .if_icmp .ge 56, 3, .inr (.inr (.inr 85))), (32, .aload_n 0, 1, .inl ()), (33, .getfield 46, 3, .inr (.inl (11, 5))), (36, .aload_n 0, 1, .inl ()), (37, .getfield 42, 3, .inr (.inl (11, 4))), (40, .invokevirtual 253, 3, .inr (.inr (.inr 22))), (43, .aload_n 0, 1, .inl ()), (44, .getfield 46, 3, .inr (.inl (11, 5))), (47, .iload_n 3, 1, .inl ()), (48, .invokevirtual 344, 3, .inr (.inr (.inr 28))), (51, .aload_n 0, 1, .inl ()), (52, .getfield 71, 3, .inr (.inl (11, 11))), (55, .aload_n 0, 1, .inl ()), (56, .getfield 46, 3, .inr (.inl (11, 5))), (59, .aload_n 0, 1, .inl ()), (60, .getfield 59, 3, .inr (.inl (11, 8))), (63, .getfield 151, 3, .inr (.inl (0, 0))), (66, .invokevirtual 260, 3, .inr (.inr (.inr 80))), (69, .iload_n 1, 1, .inl ()), (70, .if_icmp .ge 9, 3, .inr (.inr (.inr 79))), (73, .iload_n 2, 1, .inl ()), (74, .iconst 1, 1, .inl ()), (75, .iload_n 3, 1, .inl ()), (76, .ishl, 1, .inl ()), (77, .ior, 1, .inl ()), (78, .istore_n 2, 1, .inl ()), (79, .iinc 3 1, 3, .inl ()), (82, .goto (-61), 3, .inr (.inr (.inr 21))), (85, .iload_n 2, 1, .inl ()), (86, .ireturn, 1, .inl ())]
theorem ok_X_deaf : okM H_X_deaf K_X_deaf = true := by decide +kernel
def K_X_helper : List CE := [(0, .aload_n 0, 1, .inl ()), (1, .invokevirtual 164, 3, .inr (.inr (.inr 128))), (4, .ifCond .eq 11, 3, .inr (.inr (.inr 15))), (7, .iload_n 1, 1, .inl ()), (8, .iconst 1, 1, .inl ()), (9, .invokestatic 168, 3, .inr (.inr (.inr 134))), (12, .ifCond .ne 5, 3, .inr (.inr (.inr 17))), (15, .iconst (-1), 1, .inl ()), (16, .ireturn, 1, .inl ()), (17, .iconst (-1), 1, .inl ()), (18, .istore_n 2, 1, .inl ()), (19, .iconst (-1), 1, .inl ()), (20, .istore_n 3, 1, .inl ()), (21, .iconst 0, 1, .inl ()), (22, .istore 4, 2, .inl ()), (24, .iload 4, 2, .inl ()), (26, .aload_n 0, 1, .inl ()), (27, .getfield 42, 3, .inr (.inl (11, 4))), (30, .getfield 314, 3, .inr (.inl (2, 0))), (33, .if_icmp .ge 58, 3, .inr (.inr (.inr 91))), (36, .iconst 0, 1, .inl ()), (37, .istore 5, 2, .inl ()), (39, .iload 5, 2, .inl ()), (41, .aload_n 0, 1, .inl ()), (42, .getfield 42, 3, .inr (.inl (11, 4))), (45, .getfield 227, 3, .inr (.inl (2, 1))), (48, .if_icmp .ge 37, 3, .inr (.inr (.inr 85))), (51, .aload_n 0, 1, .inl ()), (52, .iload 4, 2, .inl ()), (54, .iload 5, 2, .inl ()), (56, .invokevirtual 347, 3, .inr (.inr (.inr 143))), (59, .istore 6, 2, .inl ()), (61, .iload 6, 2, .inl ()), (63, .iload_n 3, 1, .inl ()), (64, .if_icmp .le 15, 3, .inr (.inr (.inr 79))), (67, .iload 6, 2, .inl ()), (69, .istore_n 3, 1, .inl ()), (70, .bipush 10, 2, .inl ()), (72, .iload 4, 2, .inl ()), (74, .imul, 1, .inl ()), (75, .iload 5, 2, .inl ()), (77, .iadd, 1, .inl ()), (78, .istore_n 2, 1, .inl ()), (79, .iinc 5 1, 3, .inl ()), (82, .goto (-43), 3, .inr (.inr (.inr 39))), (85, .iinc 4 1, 3, .inl ()), (88, .goto (-64), 3, .inr (.inr (.inr 24))), (91, .iload_n 1, 1, .inl ()), (92, .ifCond .ne 7, 3, .inr (.inr (.inr 99))), (95, .iload_n 2, 1, .inl ()), (96, .goto 4, 3, .inr (.inr (.inr 100))), (99, .iload_n 3, 1, .inl ()), (100, .ireturn, 1, .inl ())]
theorem ok_X_helper : okM H_X_helper K_X_helper = true := by decide +kernel
def K_X_seed : List CE := [(0, .aload_n 0, 1, .inl ()), (1, .getfield 59, 3, .inr (.inl (11, 8))), (4, .lload_n 1, 1, .inl ()), (5, .putfield 350, 3, .inr (.inl (0, 9))), (8, .iconst 1, 1, .inl ()), (9, .ireturn, 1, .inl ())]
theorem ok_X_seed : okM H_X_seed K_X_seed = true := by decide +kernel
def K_X_night_0 : List CE := [(0, .aload_n 0, 1, .inl ()), (1, .invokevirtual 164, 3, .inr (.inr (.inr 128))), (4, .ifCond .eq 15, 3, .inr (.inr (.inr 19))), (7, .aload_n 0, 1, .inl ()), (8, .getfield 59, 3, .inr (.inl (11, 8))), (11, .getfield 354, 3, .inr (.inl (0, 5))), (14, .bipush 40, 2, .inl ()), (16, .if_icmp .lt 5, 3, .inr (.inr (.inr 21))), (19, .iconst (-1), 1, .inl ()), (20, .ireturn, 1, .inl ()), (21, .aload_n 0, 1, .inl ()), (22, .getfield 59, 3, .inr (.inl (11, 8))), (25, .getfield 350, 3, .inr (.inl (0, 9))), (28, .lstore_n 1, 1, .inl ()), (29, .iconst 0, 1, .inl ()), (30, .istore_n 3, 1, .inl ()), (31, .iload_n 3, 1, .inl ()), (32, .aload_n 0, 1, .inl ()), (33, .getfield 42, 3, .inr (.inl (11, 4))), (36, .getfield 227, 3, .inr (.inl (2, 1))), (39, .if_icmp .ge 45, 3, .inr (.inr (.inr 84))), (42, .aload_n 0, 1, .inl ()), (43, .getfield 53, 3, .inr (.inl (11, 7))), (46, .iload_n 3, 1, .inl ()), (47, .aload_n 0, 1, .inl ()), (48, .getfield 59, 3, .inr (.inl (11, 8))), (51, .iconst 2, 1, .inl ()), (52, .aload_n 0, 1, .inl ()), (53, .getfield 42, 3, .inr (.inl (11, 4))), (56, .getfield 133, 3, .inr (.inl (2, 11))), (59, .iload_n 3, 1, .inl ()), (60, .iaload, 1, .inl ()), (61, .imul, 1, .inl ()), (62, .iconst 1, 1, .inl ()), (63, .iadd, 1, .inl ()), (64, .invokevirtual 357, 3, .inr (.inr (.inr 5))), (67, .aload_n 0, 1, .inl ()), (68, .getfield 42, 3, .inr (.inl (11, 4))), (71, .getfield 133, 3, .inr (.inl (2, 11))), (74, .iload_n 3, 1, .inl ()), (75, .iaload, 1, .inl ()), (76, .isub, 1, .inl ()), (77, .iastore, 1, .inl ()), (78, .iinc 3 1, 3, .inl ()), (81, .goto (-50), 3, .inr (.inr (.inr 31))), (84, .aload_n 0, 1, .inl ()), (85, .getfield 71, 3, .inr (.inl (11, 11))), (88, .aload_n 0, 1, .inl ()), (89, .getfield 42, 3, .inr (.inl (11, 4))), (92, .aload_n 0, 1, .inl ())]
def K_X_night_1 : List CE := [(93, .getfield 59, 3, .inr (.inl (11, 8))), (96, .getfield 151, 3, .inr (.inl (0, 0))), (99, .aload_n 0, 1, .inl ()), (100, .getfield 53, 3, .inr (.inl (11, 7))), (103, .invokevirtual 190, 3, .inr (.inr (.inr 75))), (106, .aload_n 0, 1, .inl ()), (107, .getfield 59, 3, .inr (.inl (11, 8))), (110, .lload_n 1, 1, .inl ()), (111, .aload_n 0, 1, .inl ()), (112, .getfield 71, 3, .inr (.inl (11, 11))), (115, .getfield 194, 3, .inr (.inl (10, 8))), (118, .aload_n 0, 1, .inl ()), (119, .getfield 71, 3, .inr (.inl (11, 11))), (122, .invokevirtual 200, 3, .inr (.inr (.inr 78))), (125, .ifCond .eq 7, 3, .inr (.inr (.inr 132))), (128, .iconst 1, 1, .inl ()), (129, .goto 4, 3, .inr (.inr (.inr 133))), (132, .iconst 0, 1, .inl ()), (133, .invokevirtual 360, 3, .inr (.inr (.inr 6))), (136, .ireturn, 1, .inl ())]
def K_X_night : List CE := K_X_night_0 ++ (K_X_night_1)
theorem ok_X_night : okM H_X_night K_X_night = true := by decide +kernel
def K_X_turned : List CE := [(0, .aload_n 0, 1, .inl ()), (1, .iload_n 1, 1, .inl ()), (2, .invokevirtual 364, 3, .inr (.inr (.inr 132))), (5, .ifCond .eq 11, 3, .inr (.inr (.inr 16))), (8, .aload_n 0, 1, .inl ()), (9, .iload_n 2, 1, .inl ()), (10, .invokevirtual 142, 3, .inr (.inr (.inr 129))), (13, .ifCond .ne 6, 3, .inr (.inr (.inr 19))), (16, .ldc 189, 2, .inr (.inr (.inl (-1000000)))), (18, .ireturn, 1, .inl ()), (19, .aload_n 0, 1, .inl ()), (20, .getfield 59, 3, .inr (.inl (11, 8))), (23, .getfield 367, 3, .inr (.inl (0, 6))), (26, .iload_n 1, 1, .inl ()), (27, .iconst 4, 1, .inl ()), (28, .imul, 1, .inl ()), (29, .iload_n 2, 1, .inl ()), (30, .iadd, 1, .inl ()), (31, .iaload, 1, .inl ()), (32, .invokestatic 197, 3, .inr (.inr (.inr 135))), (35, .ireturn, 1, .inl ())]
theorem ok_X_turned : okM H_X_turned K_X_turned = true := by decide +kernel
def K_X_opened : List CE := [(0, .aload_n 0, 1, .inl ()), (1, .iload_n 1, 1, .inl ()), (2, .invokevirtual 364, 3, .inr (.inr (.inr 132))), (5, .ifCond .eq 15, 3, .inr (.inr (.inr 20))), (8, .aload_n 0, 1, .inl ()), (9, .getfield 59, 3, .inr (.inl (11, 8))), (12, .getfield 370, 3, .inr (.inl (0, 7))), (15, .iload_n 1, 1, .inl ()), (16, .iaload, 1, .inl ()), (17, .goto 4, 3, .inr (.inr (.inr 21))), (20, .iconst (-1), 1, .inl ()), (21, .ireturn, 1, .inl ())]
theorem ok_X_opened : okM H_X_opened K_X_opened = true := by decide +kernel
def K_X_undo : List CE := [(0, .aload_n 0, 1, .inl ()), (1, .getfield 59, 3, .inr (.inl (11, 8))), (4, .getfield 354, 3, .inr (.inl (0, 5))), (7, .ifCond .ne 7, 3, .inr (.inr (.inr 14))), (10, .iconst (-1), 1, .inl ()), (11, .goto 10, 3, .inr (.inr (.inr 21))), (14, .aload_n 0, 1, .inl ()), (15, .getfield 59, 3, .inr (.inl (11, 8))), (18, .invokevirtual 373, 3, .inr (.inr (.inr 7))), (21, .ireturn, 1, .inl ())]
theorem ok_X_undo : okM H_X_undo K_X_undo = true := by decide +kernel
def K_X_image : List CE := [(0, .aload_n 0, 1, .inl ()), (1, .invokevirtual 164, 3, .inr (.inr (.inr 128))), (4, .ifCond .ne 5, 3, .inr (.inr (.inr 9))), (7, .iconst (-1), 1, .inl ()), (8, .ireturn, 1, .inl ()), (9, .aload_n 0, 1, .inl ()), (10, .getfield 63, 3, .inr (.inl (11, 9))), (13, .aload_n 0, 1, .inl ()), (14, .getfield 59, 3, .inr (.inl (11, 8))), (17, .invokevirtual 376, 3, .inr (.inr (.inr 0))), (20, .aload_n 0, 1, .inl ()), (21, .iconst 1, 1, .inl ()), (22, .putfield 379, 3, .inr (.inl (11, 10))), (25, .aload_n 0, 1, .inl ()), (26, .getfield 59, 3, .inr (.inl (11, 8))), (29, .getfield 354, 3, .inr (.inl (0, 5))), (32, .ireturn, 1, .inl ())]
theorem ok_X_image : okM H_X_image K_X_image = true := by decide +kernel
def K_X_back : List CE := [(0, .aload_n 0, 1, .inl ()), (1, .getfield 379, 3, .inr (.inl (11, 10))), (4, .ifCond .ne 5, 3, .inr (.inr (.inr 9))), (7, .iconst (-1), 1, .inl ()), (8, .ireturn, 1, .inl ()), (9, .aload_n 0, 1, .inl ()), (10, .getfield 59, 3, .inr (.inl (11, 8))), (13, .aload_n 0, 1, .inl ()), (14, .getfield 63, 3, .inr (.inl (11, 9))), (17, .invokevirtual 376, 3, .inr (.inr (.inr 0))), (20, .aload_n 0, 1, .inl ()), (21, .invokevirtual 161, 3, .inr (.inr (.inr 138))), (24, .aload_n 0, 1, .inl ()), (25, .getfield 59, 3, .inr (.inl (11, 8))), (28, .getfield 354, 3, .inr (.inl (0, 5))), (31, .ireturn, 1, .inl ())]
theorem ok_X_back : okM H_X_back K_X_back = true := by decide +kernel
def K_X_count : List CE := [(0, .iload_n 1, 1, .inl ()), (1, .tableswitch 145 0 8 #[51, 59, 67, 75, 83, 102, 121, 129, 137], 51, .inl ()), (52, .aload_n 0, 1, .inl ()), (53, .getfield 42, 3, .inr (.inl (11, 4))), (56, .getfield 314, 3, .inr (.inl (2, 0))), (59, .ireturn, 1, .inl ()), (60, .aload_n 0, 1, .inl ()), (61, .getfield 42, 3, .inr (.inl (11, 4))), (64, .getfield 227, 3, .inr (.inl (2, 1))), (67, .ireturn, 1, .inl ()), (68, .aload_n 0, 1, .inl ()), (69, .getfield 35, 3, .inr (.inl (11, 3))), (72, .getfield 382, 3, .inr (.inl (5, 3))), (75, .ireturn, 1, .inl ()), (76, .aload_n 0, 1, .inl ()), (77, .getfield 12, 3, .inr (.inl (11, 0))), (80, .getfield 100, 3, .inr (.inl (9, 1))), (83, .ireturn, 1, .inl ()), (84, .aload_n 0, 1, .inl ()), (85, .invokevirtual 164, 3, .inr (.inr (.inr 128))), (88, .ifCond .eq 13, 3, .inr (.inr (.inr 101))), (91, .aload_n 0, 1, .inl ()), (92, .getfield 42, 3, .inr (.inl (11, 4))), (95, .getfield 385, 3, .inr (.inl (2, 4))), (98, .goto 4, 3, .inr (.inr (.inr 102))), (101, .iconst 0, 1, .inl ()), (102, .ireturn, 1, .inl ()), (103, .aload_n 0, 1, .inl ()), (104, .invokevirtual 164, 3, .inr (.inr (.inr 128))), (107, .ifCond .eq 13, 3, .inr (.inr (.inr 120))), (110, .aload_n 0, 1, .inl ()), (111, .getfield 42, 3, .inr (.inl (11, 4))), (114, .getfield 388, 3, .inr (.inl (2, 5))), (117, .goto 4, 3, .inr (.inr (.inr 121))), (120, .iconst 0, 1, .inl ()), (121, .ireturn, 1, .inl ()), (122, .aload_n 0, 1, .inl ()), (123, .getfield 59, 3, .inr (.inl (11, 8))), (126, .getfield 278, 3, .inr (.inl (0, 1))), (129, .ireturn, 1, .inl ()), (130, .aload_n 0, 1, .inl ()), (131, .getfield 59, 3, .inr (.inl (11, 8))), (134, .getfield 354, 3, .inr (.inl (0, 5))), (137, .ireturn, 1, .inl ()), (138, .aload_n 0, 1, .inl ()), (139, .getfield 59, 3, .inr (.inl (11, 8))), (142, .invokevirtual 391, 3, .inr (.inr (.inr 8))), (145, .ireturn, 1, .inl ()), (146, .ldc 189, 2, .inr (.inr (.inl (-1000000)))), (148, .ireturn, 1, .inl ())]
theorem ok_X_count : okM H_X_count K_X_count = true := by decide +kernel
def K_X_isTold : List CE := [(0, .aload_n 0, 1, .inl ()), (1, .getfield 42, 3, .inr (.inl (11, 4))), (4, .getfield 314, 3, .inr (.inl (2, 0))), (7, .ifCond .le 7, 3, .inr (.inr (.inr 14))), (10, .iconst 1, 1, .inl ()), (11, .goto 4, 3, .inr (.inr (.inr 15))), (14, .iconst 0, 1, .inl ()), (15, .ireturn, 1, .inl ())]
theorem ok_X_isTold : okM H_X_isTold K_X_isTold = true := by decide +kernel
def K_X_isGuard : List CE := [(0, .iload_n 1, 1, .inl ()), (1, .ifCond .lt 18, 3, .inr (.inr (.inr 19))), (4, .iload_n 1, 1, .inl ()), (5, .aload_n 0, 1, .inl ()), (6, .getfield 42, 3, .inr (.inl (11, 4))), (9, .getfield 314, 3, .inr (.inl (2, 0))), (12, .if_icmp .ge 7, 3, .inr (.inr (.inr 19))), (15, .iconst 1, 1, .inl ()), (16, .goto 4, 3, .inr (.inr (.inr 20))), (19, .iconst 0, 1, .inl ()), (20, .ireturn, 1, .inl ())]
theorem ok_X_isGuard : okM H_X_isGuard K_X_isGuard = true := by decide +kernel
def K_X_isSign : List CE := [(0, .iload_n 1, 1, .inl ()), (1, .ifCond .lt 18, 3, .inr (.inr (.inr 19))), (4, .iload_n 1, 1, .inl ()), (5, .aload_n 0, 1, .inl ()), (6, .getfield 42, 3, .inr (.inl (11, 4))), (9, .getfield 227, 3, .inr (.inl (2, 1))), (12, .if_icmp .ge 7, 3, .inr (.inr (.inr 19))), (15, .iconst 1, 1, .inl ()), (16, .goto 4, 3, .inr (.inr (.inr 20))), (19, .iconst 0, 1, .inl ()), (20, .ireturn, 1, .inl ())]
theorem ok_X_isSign : okM H_X_isSign K_X_isSign = true := by decide +kernel
def K_X_isPlan : List CE := [(0, .iload_n 1, 1, .inl ()), (1, .ifCond .lt 18, 3, .inr (.inr (.inr 19))), (4, .iload_n 1, 1, .inl ()), (5, .aload_n 0, 1, .inl ()), (6, .getfield 35, 3, .inr (.inl (11, 3))), (9, .getfield 382, 3, .inr (.inl (5, 3))), (12, .if_icmp .ge 7, 3, .inr (.inr (.inr 19))), (15, .iconst 1, 1, .inl ()), (16, .goto 4, 3, .inr (.inr (.inr 20))), (19, .iconst 0, 1, .inl ()), (20, .ireturn, 1, .inl ())]
theorem ok_X_isPlan : okM H_X_isPlan K_X_isPlan = true := by decide +kernel
def K_X_isNight : List CE := [(0, .iload_n 1, 1, .inl ()), (1, .ifCond .lt 18, 3, .inr (.inr (.inr 19))), (4, .iload_n 1, 1, .inl ()), (5, .aload_n 0, 1, .inl ()), (6, .getfield 59, 3, .inr (.inl (11, 8))), (9, .getfield 354, 3, .inr (.inl (0, 5))), (12, .if_icmp .ge 7, 3, .inr (.inr (.inr 19))), (15, .iconst 1, 1, .inl ()), (16, .goto 4, 3, .inr (.inr (.inr 20))), (19, .iconst 0, 1, .inl ()), (20, .ireturn, 1, .inl ())]
theorem ok_X_isNight : okM H_X_isNight K_X_isNight = true := by decide +kernel
def K_X_isPair : List CE := [(0, .aload_n 0, 1, .inl ()), (1, .iload_n 1, 1, .inl ()), (2, .invokevirtual 142, 3, .inr (.inr (.inr 129))), (5, .ifCond .eq 33, 3, .inr (.inr (.inr 38))), (8, .aload_n 0, 1, .inl ()), (9, .iload_n 2, 1, .inl ()), (10, .invokevirtual 142, 3, .inr (.inr (.inr 129))), (13, .ifCond .eq 25, 3, .inr (.inr (.inr 38))), (16, .iload_n 1, 1, .inl ()), (17, .iload_n 2, 1, .inl ()), (18, .if_icmp .eq 20, 3, .inr (.inr (.inr 38))), (21, .aload_n 0, 1, .inl ()), (22, .getfield 42, 3, .inr (.inl (11, 4))), (25, .invokevirtual 179, 3, .inr (.inr (.inr 26))), (28, .sipush 400, 3, .inl ()), (31, .if_icmp .gt 7, 3, .inr (.inr (.inr 38))), (34, .iconst 1, 1, .inl ()), (35, .goto 4, 3, .inr (.inr (.inr 39))), (38, .iconst 0, 1, .inl ()), (39, .ireturn, 1, .inl ())]
theorem ok_X_isPair : okM H_X_isPair K_X_isPair = true := by decide +kernel
def K_X_isWithin : List CE := [(0, .iload_n 0, 1, .inl ()), (1, .ifCond .lt 12, 3, .inr (.inr (.inr 13))), (4, .iload_n 0, 1, .inl ()), (5, .iload_n 1, 1, .inl ()), (6, .if_icmp .gt 7, 3, .inr (.inr (.inr 13))), (9, .iconst 1, 1, .inl ()), (10, .goto 4, 3, .inr (.inr (.inr 14))), (13, .iconst 0, 1, .inl ()), (14, .ireturn, 1, .inl ())]
theorem ok_X_isWithin : okM H_X_isWithin K_X_isWithin = true := by decide +kernel
def K_X_orHidden : List CE := [(0, .iload_n 0, 1, .inl ()), (1, .ldc 215, 2, .inr (.inr (.inl (1000000)))), (3, .if_icmp .lt 8, 3, .inr (.inr (.inr 11))), (6, .ldc 189, 2, .inr (.inr (.inl (-1000000)))), (8, .goto 4, 3, .inr (.inr (.inr 12))), (11, .iload_n 0, 1, .inl ()), (12, .ireturn, 1, .inl ())]
theorem ok_X_orHidden : okM H_X_orHidden K_X_orHidden = true := by decide +kernel
def K_X_takeLand : List CE := [(0, .aload_n 0, 1, .inl ()), (1, .getfield 21, 3, .inr (.inl (11, 1))), (4, .invokevirtual 108, 3, .inr (.inr (.inr 32))), (7, .iconst (-1), 1, .inl ()), (8, .if_icmp .eq 5, 3, .inr (.inr (.inr 13))), (11, .iconst (-1), 1, .inl ()), (12, .ireturn, 1, .inl ()), (13, .aload_n 0, 1, .inl ()), (14, .getfield 42, 3, .inr (.inl (11, 4))), (17, .aload_n 0, 1, .inl ()), (18, .getfield 21, 3, .inr (.inl (11, 1))), (21, .getfield 394, 3, .inr (.inl (3, 1))), (24, .invokevirtual 253, 3, .inr (.inr (.inr 22))), (27, .aload_n 0, 1, .inl ()), (28, .getfield 12, 3, .inr (.inl (11, 0))), (31, .iconst 0, 1, .inl ()), (32, .putfield 100, 3, .inr (.inl (9, 1))), (35, .aload_n 0, 1, .inl ()), (36, .getfield 59, 3, .inr (.inl (11, 8))), (39, .invokevirtual 397, 3, .inr (.inr (.inr 1))), (42, .aload_n 0, 1, .inl ()), (43, .iconst 0, 1, .inl ()), (44, .putfield 379, 3, .inr (.inl (11, 10))), (47, .aload_n 0, 1, .inl ()), (48, .invokevirtual 161, 3, .inr (.inr (.inr 138))), (51, .aload_n 0, 1, .inl ()), (52, .getfield 42, 3, .inr (.inl (11, 4))), (55, .getfield 314, 3, .inr (.inl (2, 0))), (58, .ireturn, 1, .inl ())]
theorem ok_X_takeLand : okM H_X_takeLand K_X_takeLand = true := by decide +kernel
def K_X_takePlan : List CE := [(0, .aload_n 0, 1, .inl ()), (1, .getfield 35, 3, .inr (.inl (11, 3))), (4, .getfield 382, 3, .inr (.inl (5, 3))), (7, .bipush 8, 2, .inl ()), (9, .if_icmp .ge 14, 3, .inr (.inr (.inr 23))), (12, .aload_n 0, 1, .inl ()), (13, .getfield 28, 3, .inr (.inl (11, 2))), (16, .invokevirtual 112, 3, .inr (.inr (.inr 38))), (19, .iconst (-1), 1, .inl ()), (20, .if_icmp .eq 5, 3, .inr (.inr (.inr 25))), (23, .iconst (-1), 1, .inl ()), (24, .ireturn, 1, .inl ()), (25, .aload_n 0, 1, .inl ()), (26, .getfield 35, 3, .inr (.inl (11, 3))), (29, .aload_n 0, 1, .inl ()), (30, .getfield 28, 3, .inr (.inl (11, 2))), (33, .invokevirtual 400, 3, .inr (.inr (.inr 43))), (36, .aload_n 0, 1, .inl ()), (37, .getfield 12, 3, .inr (.inl (11, 0))), (40, .iconst 0, 1, .inl ()), (41, .putfield 100, 3, .inr (.inl (9, 1))), (44, .aload_n 0, 1, .inl ()), (45, .getfield 35, 3, .inr (.inl (11, 3))), (48, .getfield 382, 3, .inr (.inl (5, 3))), (51, .iconst 1, 1, .inl ()), (52, .isub, 1, .inl ()), (53, .ireturn, 1, .inl ())]
theorem ok_X_takePlan : okM H_X_takePlan K_X_takePlan = true := by decide +kernel
def K_X_forgetAnswers : List CE := [(0, .aload_n 0, 1, .inl ()), (1, .getfield 78, 3, .inr (.inl (11, 12))), (4, .iconst 0, 1, .inl ()), (5, .putfield 403, 3, .inr (.inl (8, 0))), (8, .aload_n 0, 1, .inl ()), (9, .getfield 78, 3, .inr (.inl (11, 12))), (12, .iconst 0, 1, .inl ()), (13, .putfield 406, 3, .inr (.inl (8, 1))), (16, .aload_n 0, 1, .inl ()), (17, .getfield 92, 3, .inr (.inl (11, 14))), (20, .iconst 0, 1, .inl ()), (21, .putfield 409, 3, .inr (.inl (1, 0))), (24, .return_, 1, .inl ())]
theorem ok_X_forgetAnswers : okM H_X_forgetAnswers K_X_forgetAnswers = true := by decide +kernel
def K_X_surveyed : List CE := [(0, .aload_n 0, 1, .inl ()), (1, .getfield 78, 3, .inr (.inl (11, 12))), (4, .getfield 403, 3, .inr (.inl (8, 0))), (7, .ifCond .ne 25, 3, .inr (.inr (.inr 32))), (10, .aload_n 0, 1, .inl ()), (11, .getfield 78, 3, .inr (.inl (11, 12))), (14, .aload_n 0, 1, .inl ()), (15, .getfield 71, 3, .inr (.inl (11, 11))), (18, .aload_n 0, 1, .inl ()), (19, .getfield 42, 3, .inr (.inl (11, 4))), (22, .aload_n 0, 1, .inl ()), (23, .getfield 59, 3, .inr (.inl (11, 8))), (26, .getfield 151, 3, .inr (.inl (0, 0))), (29, .invokevirtual 410, 3, .inr (.inr (.inr 60))), (32, .aload_n 0, 1, .inl ()), (33, .getfield 78, 3, .inr (.inl (11, 12))), (36, .areturn, 1, .inl ())]
theorem ok_X_surveyed : okM H_X_surveyed K_X_surveyed = true := by decide +kernel
def K_X_dueled : List CE := [(0, .aload_n 0, 1, .inl ()), (1, .getfield 92, 3, .inr (.inl (11, 14))), (4, .getfield 409, 3, .inr (.inl (1, 0))), (7, .ifCond .eq 25, 3, .inr (.inr (.inr 32))), (10, .aload_n 0, 1, .inl ()), (11, .getfield 92, 3, .inr (.inl (11, 14))), (14, .getfield 414, 3, .inr (.inl (1, 1))), (17, .iload_n 1, 1, .inl ()), (18, .if_icmp .ne 14, 3, .inr (.inr (.inr 32))), (21, .aload_n 0, 1, .inl ()), (22, .getfield 92, 3, .inr (.inl (11, 14))), (25, .getfield 417, 3, .inr (.inl (1, 2))), (28, .iload_n 2, 1, .inl ()), (29, .if_icmp .eq 27, 3, .inr (.inr (.inr 56))), (32, .aload_n 0, 1, .inl ()), (33, .getfield 92, 3, .inr (.inl (11, 14))), (36, .aload_n 0, 1, .inl ()), (37, .getfield 71, 3, .inr (.inl (11, 11))), (40, .aload_n 0, 1, .inl ()), (41, .getfield 42, 3, .inr (.inl (11, 4))), (44, .aload_n 0, 1, .inl ()), (45, .getfield 59, 3, .inr (.inl (11, 8))), (48, .getfield 151, 3, .inr (.inl (0, 0))), (51, .iload_n 1, 1, .inl ()), (52, .iload_n 2, 1, .inl ()), (53, .invokevirtual 419, 3, .inr (.inr (.inr 9))), (56, .aload_n 0, 1, .inl ()), (57, .getfield 92, 3, .inr (.inl (11, 14))), (60, .areturn, 1, .inl ())]
theorem ok_X_dueled : okM H_X_dueled K_X_dueled = true := by decide +kernel
def K_X_readOffs : List CE := [(0, .iload_n 1, 1, .inl ()), (1, .istore_n 2, 1, .inl ()), (2, .aload_n 0, 1, .inl ()), (3, .getfield 42, 3, .inr (.inl (11, 4))), (6, .getfield 227, 3, .inr (.inl (2, 1))), (9, .iconst 1, 1, .inl ()), (10, .isub, 1, .inl ()), (11, .istore_n 3, 1, .inl ()), (12, .iload_n 3, 1, .inl ()), (13, .ifCond .lt 65, 3, .inr (.inr (.inr 78))), (16, .iload_n 2, 1, .inl ()), (17, .bipush 10, 2, .inl ()), (19, .irem, 1, .inl ()), (20, .iconst 3, 1, .inl ()), (21, .isub, 1, .inl ()), (22, .istore 4, 2, .inl ()), (24, .iload_n 2, 1, .inl ()), (25, .ifCond .lt 32, 3, .inr (.inr (.inr 57))), (28, .iload 4, 2, .inl ()), (30, .aload_n 0, 1, .inl ()), (31, .getfield 42, 3, .inr (.inl (11, 4))), (34, .getfield 133, 3, .inr (.inl (2, 11))), (37, .iload_n 3, 1, .inl ()), (38, .iaload, 1, .inl ()), (39, .ineg, 1, .inl ()), (40, .if_icmp .lt 17, 3, .inr (.inr (.inr 57))), (43, .iload 4, 2, .inl ()), (45, .aload_n 0, 1, .inl ()), (46, .getfield 42, 3, .inr (.inl (11, 4))), (49, .getfield 133, 3, .inr (.inl (2, 11))), (52, .iload_n 3, 1, .inl ()), (53, .iaload, 1, .inl ()), (54, .if_icmp .le 5, 3, .inr (.inr (.inr 59))), (57, .iconst 0, 1, .inl ()), (58, .ireturn, 1, .inl ()), (59, .aload_n 0, 1, .inl ()), (60, .getfield 53, 3, .inr (.inl (11, 7))), (63, .iload_n 3, 1, .inl ()), (64, .iload 4, 2, .inl ()), (66, .iastore, 1, .inl ()), (67, .iload_n 2, 1, .inl ()), (68, .bipush 10, 2, .inl ()), (70, .idiv, 1, .inl ()), (71, .istore_n 2, 1, .inl ()), (72, .iinc 3 (-1), 3, .inl ()), (75, .goto (-63), 3, .inr (.inr (.inr 12))), (78, .iload_n 2, 1, .inl ()), (79, .ifCond .ne 7, 3, .inr (.inr (.inr 86))), (82, .iconst 1, 1, .inl ()), (83, .goto 4, 3, .inr (.inr (.inr 87))), (86, .iconst 0, 1, .inl ()), (87, .ireturn, 1, .inl ())]
theorem ok_X_readOffs : okM H_X_readOffs K_X_readOffs = true := by decide +kernel
def K_X_tallyWithPlan : List CE := [(0, .iconst 0, 1, .inl ()), (1, .istore_n 3, 1, .inl ()), (2, .iload_n 3, 1, .inl ()), (3, .iconst 4, 1, .inl ()), (4, .if_icmp .ge 33, 3, .inr (.inr (.inr 37))), (7, .aload_n 0, 1, .inl ()), (8, .getfield 49, 3, .inr (.inl (11, 6))), (11, .iload_n 3, 1, .inl ()), (12, .iload_n 3, 1, .inl ()), (13, .iload_n 1, 1, .inl ()), (14, .if_icmp .ne 7, 3, .inr (.inr (.inr 21))), (17, .iload_n 2, 1, .inl ()), (18, .goto 12, 3, .inr (.inr (.inr 30))), (21, .aload_n 0, 1, .inl ()), (22, .getfield 59, 3, .inr (.inl (11, 8))), (25, .getfield 151, 3, .inr (.inl (0, 0))), (28, .iload_n 3, 1, .inl ()), (29, .iaload, 1, .inl ()), (30, .iastore, 1, .inl ()), (31, .iinc 3 1, 3, .inl ()), (34, .goto (-32), 3, .inr (.inr (.inr 2))), (37, .aload_n 0, 1, .inl ()), (38, .getfield 71, 3, .inr (.inl (11, 11))), (41, .aload_n 0, 1, .inl ()), (42, .getfield 42, 3, .inr (.inl (11, 4))), (45, .aload_n 0, 1, .inl ()), (46, .getfield 49, 3, .inr (.inl (11, 6))), (49, .invokevirtual 260, 3, .inr (.inr (.inr 80))), (52, .ireturn, 1, .inl ())]
theorem ok_X_tallyWithPlan : okM H_X_tallyWithPlan K_X_tallyWithPlan = true := by decide +kernel
def K_X_tallyWithHearing : List CE := [(0, .iload_n 1, 1, .inl ()), (1, .iconst 5, 1, .inl ()), (2, .imul, 1, .inl ()), (3, .iload_n 2, 1, .inl ()), (4, .iadd, 1, .inl ()), (5, .istore_n 3, 1, .inl ()), (6, .aload_n 0, 1, .inl ()), (7, .getfield 42, 3, .inr (.inl (11, 4))), (10, .getfield 154, 3, .inr (.inl (2, 14))), (13, .iload_n 3, 1, .inl ()), (14, .iaload, 1, .inl ()), (15, .ldc 157, 2, .inr (.inr (.inl (2000000)))), (17, .if_icmp .eq 5, 3, .inr (.inr (.inr 22))), (20, .iconst (-1), 1, .inl ()), (21, .ireturn, 1, .inl ()), (22, .aload_n 0, 1, .inl ()), (23, .getfield 46, 3, .inr (.inl (11, 5))), (26, .aload_n 0, 1, .inl ()), (27, .getfield 42, 3, .inr (.inl (11, 4))), (30, .invokevirtual 253, 3, .inr (.inr (.inr 22))), (33, .aload_n 0, 1, .inl ()), (34, .getfield 46, 3, .inr (.inl (11, 5))), (37, .getfield 154, 3, .inr (.inl (2, 14))), (40, .iload_n 3, 1, .inl ()), (41, .iconst 0, 1, .inl ()), (42, .iastore, 1, .inl ()), (43, .aload_n 0, 1, .inl ()), (44, .getfield 71, 3, .inr (.inl (11, 11))), (47, .aload_n 0, 1, .inl ()), (48, .getfield 46, 3, .inr (.inl (11, 5))), (51, .aload_n 0, 1, .inl ()), (52, .getfield 59, 3, .inr (.inl (11, 8))), (55, .getfield 151, 3, .inr (.inl (0, 0))), (58, .invokevirtual 260, 3, .inr (.inr (.inr 80))), (61, .ireturn, 1, .inl ())]
theorem ok_X_tallyWithHearing : okM H_X_tallyWithHearing K_X_tallyWithHearing = true := by decide +kernel
def K_X_partsOfSet : List CE := [(0, .ldc2_w 423, 3, .inr (.inr (.inl (1000000000)))), (3, .lstore_n 3, 1, .inl ()), (4, .iconst 0, 1, .inl ()), (5, .istore 5, 2, .inl ()), (7, .iload 5, 2, .inl ()), (9, .aload_n 0, 1, .inl ()), (10, .getfield 42, 3, .inr (.inl (11, 4))), (13, .getfield 227, 3, .inr (.inl (2, 1))), (16, .if_icmp .ge 38, 3, .inr (.inr (.inr 54))), (19, .lload_n 3, 1, .inl ()), (20, .iload_n 2, 1, .inl ()), (21, .i2l, 1, .inl ()), (22, .lmul, 1, .inl ()), (23, .ldc2_w 425, 3, .inr (.inr (.inl (100)))), (26, .ldiv, 1, .inl ()), (27, .lstore 6, 2, .inl ()), (29, .iload_n 1, 1, .inl ()), (30, .iload 5, 2, .inl ()), (32, .ishr, 1, .inl ()), (33, .iconst 1, 1, .inl ()), (34, .iand, 1, .inl ()), (35, .ifCond .eq 8, 3, .inr (.inr (.inr 43))), (38, .lload 6, 2, .inl ()), (40, .goto 7, 3, .inr (.inr (.inr 47))), (43, .lload_n 3, 1, .inl ()), (44, .lload 6, 2, .inl ()), (46, .lsub, 1, .inl ()), (47, .lstore_n 3, 1, .inl ()), (48, .iinc 5 1, 3, .inl ()), (51, .goto (-44), 3, .inr (.inr (.inr 7))), (54, .lload_n 3, 1, .inl ()), (55, .lreturn, 1, .inl ())]
theorem ok_X_partsOfSet : okM H_X_partsOfSet K_X_partsOfSet = true := by decide +kernel
def K_X_partOfFraction : List CE := [(0, .iload_n 1, 1, .inl ()), (1, .iload_n 0, 1, .inl ()), (2, .invokestatic 427, 3, .inr (.inr (.inr 146))), (5, .istore_n 3, 1, .inl ()), (6, .iload_n 3, 1, .inl ()), (7, .ifCond .ne 5, 3, .inr (.inr (.inr 12))), (10, .iconst (-1), 1, .inl ()), (11, .ireturn, 1, .inl ()), (12, .iload_n 2, 1, .inl ()), (13, .ifCond .ne 9, 3, .inr (.inr (.inr 22))), (16, .iload_n 0, 1, .inl ()), (17, .iload_n 3, 1, .inl ()), (18, .idiv, 1, .inl ()), (19, .goto 6, 3, .inr (.inr (.inr 25))), (22, .iload_n 1, 1, .inl ()), (23, .iload_n 3, 1, .inl ()), (24, .idiv, 1, .inl ()), (25, .ireturn, 1, .inl ())]
theorem ok_X_partOfFraction : okM H_X_partOfFraction K_X_partOfFraction = true := by decide +kernel
def K_X_commonDivisor : List CE := [(0, .iload_n 0, 1, .inl ()), (1, .istore_n 2, 1, .inl ()), (2, .iload_n 1, 1, .inl ()), (3, .istore_n 3, 1, .inl ()), (4, .iconst 0, 1, .inl ()), (5, .istore 4, 2, .inl ()), (7, .iload 4, 2, .inl ()), (9, .bipush 64, 2, .inl ()), (11, .if_icmp .ge 23, 3, .inr (.inr (.inr 34))), (14, .iload_n 3, 1, .inl ()), (15, .ifCond .eq 19, 3, .inr (.inr (.inr 34))), (18, .iload_n 2, 1, .inl ()), (19, .iload_n 3, 1, .inl ()), (20, .irem, 1, .inl ()), (21, .istore 5, 2, .inl ()), (23, .iload_n 3, 1, .inl ()), (24, .istore_n 2, 1, .inl ()), (25, .iload 5, 2, .inl ()), (27, .istore_n 3, 1, .inl ()), (28, .iinc 4 1, 3, .inl ()), (31, .goto (-24), 3, .inr (.inr (.inr 7))), (34, .iload_n 2, 1, .inl ()), (35, .ireturn, 1, .inl ())]
theorem ok_X_commonDivisor : okM H_X_commonDivisor K_X_commonDivisor = true := by decide +kernel
def K_M_thrown : List CE := [(0, .aload_n 0, 1, .inl ()), (1, .getfield 1, 3, .inr (.inl (12, 0))), (4, .ireturn, 1, .inl ())]
theorem ok_M_thrown : okM H_M_thrown K_M_thrown = true := by decide +kernel
def K_M_feed : List CE := [(0, .aload_n 0, 1, .inl ()), (1, .iconst 0, 1, .inl ()), (2, .putfield 1, 3, .inr (.inl (12, 0))), (5, .aload_n 0, 1, .inl ()), (6, .getfield 136, 3, .inr (.inl (12, 2))), (9, .iload_n 1, 1, .inl ()), (10, .invokestatic 139, 3, .inr (.inr (.inr 149))), (13, .iadd, 1, .inl ()), (14, .iload_n 2, 1, .inl ()), (15, .invokestatic 139, 3, .inr (.inr (.inr 149))), (18, .iadd, 1, .inl ()), (19, .iload_n 3, 1, .inl ()), (20, .invokestatic 139, 3, .inr (.inr (.inr 149))), (23, .iadd, 1, .inl ()), (24, .iload 4, 2, .inl ()), (26, .invokestatic 139, 3, .inr (.inr (.inr 149))), (29, .iadd, 1, .inl ()), (30, .iload 5, 2, .inl ()), (32, .invokestatic 139, 3, .inr (.inr (.inr 149))), (35, .iadd, 1, .inl ()), (36, .sipush 160, 3, .inl ()), (39, .if_icmp .le 5, 3, .inr (.inr (.inr 44))), (42, .iconst (-1), 1, .inl ()), (43, .ireturn, 1, .inl ()), (44, .aload_n 0, 1, .inl ()), (45, .iload_n 1, 1, .inl ()), (46, .invokevirtual 143, 3, .inr (.inr (.inr 150))), (49, .aload_n 0, 1, .inl ()), (50, .iload_n 2, 1, .inl ()), (51, .invokevirtual 143, 3, .inr (.inr (.inr 150))), (54, .aload_n 0, 1, .inl ()), (55, .iload_n 3, 1, .inl ()), (56, .invokevirtual 143, 3, .inr (.inr (.inr 150))), (59, .aload_n 0, 1, .inl ()), (60, .iload 4, 2, .inl ()), (62, .invokevirtual 143, 3, .inr (.inr (.inr 150))), (65, .aload_n 0, 1, .inl ()), (66, .iload 5, 2, .inl ()), (68, .invokevirtual 143, 3, .inr (.inr (.inr 150))), (71, .aload_n 0, 1, .inl ()), (72, .getfield 136, 3, .inr (.inl (12, 2))), (75, .ireturn, 1, .inl ())]
theorem ok_M_feed : okM H_M_feed K_M_feed = true := by decide +kernel
def K_M_lives : List CE := [(0, .iconst 0, 1, .inl ()), (1, .istore_n 1, 1, .inl ()), (2, .iconst 0, 1, .inl ()), (3, .istore_n 2, 1, .inl ()), (4, .iload_n 2, 1, .inl ()), (5, .bipush 32, 2, .inl ()), (7, .if_icmp .ge 22, 3, .inr (.inr (.inr 29))), (10, .iload_n 0, 1, .inl ()), (11, .iload_n 2, 1, .inl ()), (12, .ishr, 1, .inl ()), (13, .sipush 255, 3, .inl ()), (16, .iand, 1, .inl ()), (17, .ifCond .eq 6, 3, .inr (.inr (.inr 23))), (20, .iinc 1 1, 3, .inl ()), (23, .iinc 2 8, 3, .inl ()), (26, .goto (-22), 3, .inr (.inr (.inr 4))), (29, .iload_n 1, 1, .inl ()), (30, .ireturn, 1, .inl ())]
theorem ok_M_lives : okM H_M_lives K_M_lives = true := by decide +kernel
def K_M_comes : List CE := [(0, .bipush 24, 2, .inl ()), (2, .istore_n 2, 1, .inl ()), (3, .iload_n 2, 1, .inl ()), (4, .ifCond .lt 41, 3, .inr (.inr (.inr 45))), (7, .iload_n 1, 1, .inl ()), (8, .iload_n 2, 1, .inl ()), (9, .ishr, 1, .inl ()), (10, .sipush 255, 3, .inl ()), (13, .iand, 1, .inl ()), (14, .istore_n 3, 1, .inl ()), (15, .iload_n 3, 1, .inl ()), (16, .ifCond .eq 23, 3, .inr (.inr (.inr 39))), (19, .aload_n 0, 1, .inl ()), (20, .getfield 13, 3, .inr (.inl (12, 1))), (23, .aload_n 0, 1, .inl ()), (24, .getfield 136, 3, .inr (.inl (12, 2))), (27, .iload_n 3, 1, .inl ()), (28, .iastore, 1, .inl ()), (29, .aload_n 0, 1, .inl ()), (30, .dup, 1, .inl ()), (31, .getfield 136, 3, .inr (.inl (12, 2))), (34, .iconst 1, 1, .inl ()), (35, .iadd, 1, .inl ()), (36, .putfield 136, 3, .inr (.inl (12, 2))), (39, .iinc 2 (-8), 3, .inl ()), (42, .goto (-39), 3, .inr (.inr (.inr 3))), (45, .return_, 1, .inl ())]
theorem ok_M_comes : okM H_M_comes K_M_comes = true := by decide +kernel
def K_M_end : List CE := [(0, .aload_n 0, 1, .inl ()), (1, .iconst 0, 1, .inl ()), (2, .putfield 1, 3, .inr (.inl (12, 0))), (5, .iload_n 1, 1, .inl ()), (6, .ifCond .lt 11, 3, .inr (.inr (.inr 17))), (9, .iload_n 1, 1, .inl ()), (10, .aload_n 0, 1, .inl ()), (11, .getfield 136, 3, .inr (.inl (12, 2))), (14, .if_icmp .le 5, 3, .inr (.inr (.inr 19))), (17, .iconst 0, 1, .inl ()), (18, .ireturn, 1, .inl ()), (19, .aload_n 0, 1, .inl ()), (20, .iload_n 1, 1, .inl ()), (21, .putfield 136, 3, .inr (.inl (12, 2))), (24, .iconst 1, 1, .inl ()), (25, .ireturn, 1, .inl ())]
theorem ok_M_end : okM H_M_end K_M_end = true := by decide +kernel
def K_M_sees : List CE := [(0, .aload_n 0, 1, .inl ()), (1, .getfield 147, 3, .inr (.inl (12, 3))), (4, .aload_n 0, 1, .inl ()), (5, .getfield 136, 3, .inr (.inl (12, 2))), (8, .if_icmp .ge 30, 3, .inr (.inr (.inr 38))), (11, .aload_n 0, 1, .inl ()), (12, .getfield 13, 3, .inr (.inl (12, 1))), (15, .aload_n 0, 1, .inl ()), (16, .getfield 147, 3, .inr (.inl (12, 3))), (19, .iaload, 1, .inl ()), (20, .bipush 32, 2, .inl ()), (22, .if_icmp .ne 16, 3, .inr (.inr (.inr 38))), (25, .aload_n 0, 1, .inl ()), (26, .dup, 1, .inl ()), (27, .getfield 147, 3, .inr (.inl (12, 3))), (30, .iconst 1, 1, .inl ()), (31, .iadd, 1, .inl ()), (32, .putfield 147, 3, .inr (.inl (12, 3))), (35, .goto (-35), 3, .inr (.inr (.inr 0))), (38, .aload_n 0, 1, .inl ()), (39, .getfield 147, 3, .inr (.inl (12, 3))), (42, .aload_n 0, 1, .inl ()), (43, .getfield 136, 3, .inr (.inl (12, 2))), (46, .if_icmp .ge 15, 3, .inr (.inr (.inr 61))), (49, .aload_n 0, 1, .inl ()), (50, .getfield 13, 3, .inr (.inl (12, 1))), (53, .aload_n 0, 1, .inl ()), (54, .getfield 147, 3, .inr (.inl (12, 3))), (57, .iaload, 1, .inl ()), (58, .goto 4, 3, .inr (.inr (.inr 62))), (61, .iconst (-1), 1, .inl ()), (62, .ireturn, 1, .inl ())]
theorem ok_M_sees : okM H_M_sees K_M_sees = true := by decide +kernel
def K_M_isDigit : List CE := [(0, .iload_n 0, 1, .inl ()), (1, .bipush 48, 2, .inl ()), (3, .if_icmp .lt 13, 3, .inr (.inr (.inr 16))), (6, .iload_n 0, 1, .inl ()), (7, .bipush 57, 2, .inl ()), (9, .if_icmp .gt 7, 3, .inr (.inr (.inr 16))), (12, .iconst 1, 1, .inl ()), (13, .goto 4, 3, .inr (.inr (.inr 17))), (16, .iconst 0, 1, .inl ()), (17, .ireturn, 1, .inl ())]
theorem ok_M_isDigit : okM H_M_isDigit K_M_isDigit = true := by decide +kernel
def K_M_reads_0 : List CE := [(0, .aload_n 0, 1, .inl ()), (1, .invokevirtual 150, 3, .inr (.inr (.inr 152))), (4, .invokestatic 154, 3, .inr (.inr (.inr 153))), (7, .ifCond .ne 13, 3, .inr (.inr (.inr 20))), (10, .aload_n 0, 1, .inl ()), (11, .aload_n 0, 1, .inl ()), (12, .getfield 147, 3, .inr (.inl (12, 3))), (15, .putfield 158, 3, .inr (.inl (12, 4))), (18, .iload_n 1, 1, .inl ()), (19, .ireturn, 1, .inl ()), (20, .iconst 0, 1, .inl ()), (21, .istore_n 3, 1, .inl ()), (22, .iconst 0, 1, .inl ()), (23, .istore 4, 2, .inl ()), (25, .aload_n 0, 1, .inl ()), (26, .getfield 147, 3, .inr (.inl (12, 3))), (29, .aload_n 0, 1, .inl ()), (30, .getfield 136, 3, .inr (.inl (12, 2))), (33, .if_icmp .ge 68, 3, .inr (.inr (.inr 101))), (36, .aload_n 0, 1, .inl ()), (37, .getfield 13, 3, .inr (.inl (12, 1))), (40, .aload_n 0, 1, .inl ()), (41, .getfield 147, 3, .inr (.inl (12, 3))), (44, .iaload, 1, .inl ()), (45, .invokestatic 154, 3, .inr (.inr (.inr 153))), (48, .ifCond .eq 53, 3, .inr (.inr (.inr 101))), (51, .iload 4, 2, .inl ()), (53, .iconst 2, 1, .inl ()), (54, .if_icmp .ne 13, 3, .inr (.inr (.inr 67))), (57, .aload_n 0, 1, .inl ()), (58, .aload_n 0, 1, .inl ()), (59, .getfield 147, 3, .inr (.inl (12, 3))), (62, .putfield 158, 3, .inr (.inl (12, 4))), (65, .iload_n 1, 1, .inl ()), (66, .ireturn, 1, .inl ()), (67, .bipush 10, 2, .inl ()), (69, .iload_n 3, 1, .inl ()), (70, .imul, 1, .inl ()), (71, .aload_n 0, 1, .inl ()), (72, .getfield 13, 3, .inr (.inl (12, 1))), (75, .aload_n 0, 1, .inl ()), (76, .getfield 147, 3, .inr (.inl (12, 3))), (79, .iaload, 1, .inl ()), (80, .iadd, 1, .inl ()), (81, .bipush 48, 2, .inl ()), (83, .isub, 1, .inl ()), (84, .istore_n 3, 1, .inl ()), (85, .aload_n 0, 1, .inl ()), (86, .dup, 1, .inl ()), (87, .getfield 147, 3, .inr (.inl (12, 3)))]
def K_M_reads_1 : List CE := [(90, .iconst 1, 1, .inl ()), (91, .iadd, 1, .inl ()), (92, .putfield 147, 3, .inr (.inl (12, 3))), (95, .iinc 4 1, 3, .inl ()), (98, .goto (-73), 3, .inr (.inr (.inr 25))), (101, .iload_n 3, 1, .inl ()), (102, .iload_n 1, 1, .inl ()), (103, .if_icmp .lt 8, 3, .inr (.inr (.inr 111))), (106, .iload_n 3, 1, .inl ()), (107, .iload_n 2, 1, .inl ()), (108, .if_icmp .le 13, 3, .inr (.inr (.inr 121))), (111, .aload_n 0, 1, .inl ()), (112, .aload_n 0, 1, .inl ()), (113, .getfield 147, 3, .inr (.inl (12, 3))), (116, .iconst 1, 1, .inl ()), (117, .isub, 1, .inl ()), (118, .putfield 158, 3, .inr (.inl (12, 4))), (121, .iload_n 3, 1, .inl ()), (122, .ireturn, 1, .inl ())]
def K_M_reads : List CE := K_M_reads_0 ++ (K_M_reads_1)
theorem ok_M_reads : okM H_M_reads K_M_reads = true := by decide +kernel
def K_M_wrongLand_0 : List CE := [(0, .aload_n 0, 1, .inl ()), (1, .iconst 0, 1, .inl ()), (2, .putfield 147, 3, .inr (.inl (12, 3))), (5, .aload_n 0, 1, .inl ()), (6, .iconst (-1), 1, .inl ()), (7, .putfield 158, 3, .inr (.inl (12, 4))), (10, .aload_n 0, 1, .inl ()), (11, .iconst 0, 1, .inl ()), (12, .putfield 161, 3, .inr (.inl (12, 5))), (15, .aload_n 0, 1, .inl ()), (16, .iconst 0, 1, .inl ()), (17, .putfield 164, 3, .inr (.inl (12, 6))), (20, .aload_n 0, 1, .inl ()), (21, .iconst 0, 1, .inl ()), (22, .putfield 167, 3, .inr (.inl (12, 7))), (25, .aload_n 0, 1, .inl ()), (26, .iconst 0, 1, .inl ()), (27, .putfield 170, 3, .inr (.inl (12, 8))), (30, .aload_n 0, 1, .inl ()), (31, .iconst 2, 1, .inl ()), (32, .putfield 173, 3, .inr (.inl (12, 12))), (35, .aload_n 0, 1, .inl ()), (36, .iconst 1, 1, .inl ()), (37, .putfield 176, 3, .inr (.inl (12, 13))), (40, .iconst 1, 1, .inl ()), (41, .istore_n 1, 1, .inl ()), (42, .iload_n 1, 1, .inl ()), (43, .ifCond .eq 80, 3, .inr (.inr (.inr 123))), (46, .aload_n 0, 1, .inl ()), (47, .getfield 158, 3, .inr (.inl (12, 4))), (50, .ifCond .ge 73, 3, .inr (.inr (.inr 123))), (53, .aload_n 0, 1, .inl ()), (54, .invokevirtual 179, 3, .inr (.inr (.inr 157))), (57, .aload_n 0, 1, .inl ()), (58, .getfield 158, 3, .inr (.inl (12, 4))), (61, .ifCond .lt 8, 3, .inr (.inr (.inr 69))), (64, .aload_n 0, 1, .inl ()), (65, .getfield 158, 3, .inr (.inl (12, 4))), (68, .ireturn, 1, .inl ()), (69, .aload_n 0, 1, .inl ()), (70, .invokevirtual 150, 3, .inr (.inr (.inr 152))), (73, .bipush 59, 2, .inl ()), (75, .if_icmp .ne 7, 3, .inr (.inr (.inr 82))), (78, .iconst 1, 1, .inl ()), (79, .goto 4, 3, .inr (.inr (.inr 83))), (82, .iconst 0, 1, .inl ()), (83, .istore_n 1, 1, .inl ()), (84, .iload_n 1, 1, .inl ()), (85, .ifCond .eq 16, 3, .inr (.inr (.inr 101))), (88, .aload_n 0, 1, .inl ())]
def K_M_wrongLand_1 : List CE := [(89, .dup, 1, .inl ()), (90, .getfield 147, 3, .inr (.inl (12, 3))), (93, .iconst 1, 1, .inl ()), (94, .iadd, 1, .inl ()), (95, .putfield 147, 3, .inr (.inl (12, 3))), (98, .goto (-56), 3, .inr (.inr (.inr 42))), (101, .aload_n 0, 1, .inl ()), (102, .getfield 147, 3, .inr (.inl (12, 3))), (105, .aload_n 0, 1, .inl ()), (106, .getfield 136, 3, .inr (.inl (12, 2))), (109, .if_icmp .ge (-67), 3, .inr (.inr (.inr 42))), (112, .aload_n 0, 1, .inl ()), (113, .aload_n 0, 1, .inl ()), (114, .getfield 147, 3, .inr (.inl (12, 3))), (117, .putfield 158, 3, .inr (.inl (12, 4))), (120, .goto (-78), 3, .inr (.inr (.inr 42))), (123, .aload_n 0, 1, .inl ()), (124, .getfield 158, 3, .inr (.inl (12, 4))), (127, .ifCond .lt 8, 3, .inr (.inr (.inr 135))), (130, .aload_n 0, 1, .inl ()), (131, .getfield 158, 3, .inr (.inl (12, 4))), (134, .ireturn, 1, .inl ()), (135, .aload_n 0, 1, .inl ()), (136, .invokevirtual 182, 3, .inr (.inr (.inr 156))), (139, .ifCond .eq 7, 3, .inr (.inr (.inr 146))), (142, .iconst (-1), 1, .inl ()), (143, .goto 7, 3, .inr (.inr (.inr 150))), (146, .aload_n 0, 1, .inl ()), (147, .getfield 136, 3, .inr (.inl (12, 2))), (150, .ireturn, 1, .inl ())]
def K_M_wrongLand : List CE := K_M_wrongLand_0 ++ (K_M_wrongLand_1)
theorem ok_M_wrongLand : okM H_M_wrongLand K_M_wrongLand = true := by decide +kernel
def K_M_isWhole_0 : List CE := [(0, .aload_n 0, 1, .inl ()), (1, .getfield 161, 3, .inr (.inl (12, 5))), (4, .iconst 2, 1, .inl ()), (5, .if_icmp .lt 10, 3, .inr (.inr (.inr 15))), (8, .aload_n 0, 1, .inl ()), (9, .getfield 164, 3, .inr (.inl (12, 6))), (12, .ifCond .ne 5, 3, .inr (.inr (.inr 17))), (15, .iconst 0, 1, .inl ()), (16, .ireturn, 1, .inl ()), (17, .iconst 0, 1, .inl ()), (18, .istore_n 1, 1, .inl ()), (19, .iload_n 1, 1, .inl ()), (20, .aload_n 0, 1, .inl ()), (21, .getfield 164, 3, .inr (.inl (12, 6))), (24, .if_icmp .ge 41, 3, .inr (.inr (.inr 65))), (27, .aload_n 0, 1, .inl ()), (28, .getfield 20, 3, .inr (.inl (12, 10))), (31, .iconst 4, 1, .inl ()), (32, .iload_n 1, 1, .inl ()), (33, .imul, 1, .inl ()), (34, .iconst 2, 1, .inl ()), (35, .iadd, 1, .inl ()), (36, .iaload, 1, .inl ()), (37, .ifCond .lt 22, 3, .inr (.inr (.inr 59))), (40, .aload_n 0, 1, .inl ()), (41, .getfield 20, 3, .inr (.inl (12, 10))), (44, .iconst 4, 1, .inl ()), (45, .iload_n 1, 1, .inl ()), (46, .imul, 1, .inl ()), (47, .iconst 3, 1, .inl ()), (48, .iadd, 1, .inl ()), (49, .iaload, 1, .inl ()), (50, .aload_n 0, 1, .inl ()), (51, .getfield 161, 3, .inr (.inl (12, 5))), (54, .if_icmp .lt 5, 3, .inr (.inr (.inr 59))), (57, .iconst 0, 1, .inl ()), (58, .ireturn, 1, .inl ()), (59, .iinc 1 1, 3, .inl ()), (62, .goto (-43), 3, .inr (.inr (.inr 19))), (65, .iconst 0, 1, .inl ()), (66, .istore_n 1, 1, .inl ()), (67, .iload_n 1, 1, .inl ()), (68, .aload_n 0, 1, .inl ()), (69, .getfield 167, 3, .inr (.inl (12, 7))), (72, .if_icmp .ge 100, 3, .inr (.inr (.inr 172))), (75, .aload_n 0, 1, .inl ()), (76, .getfield 23, 3, .inr (.inl (12, 11))), (79, .iconst 3, 1, .inl ()), (80, .iload_n 1, 1, .inl ()), (81, .imul, 1, .inl ())]
def K_M_isWhole_1 : List CE := [(82, .iaload, 1, .inl ()), (83, .aload_n 0, 1, .inl ()), (84, .getfield 164, 3, .inr (.inl (12, 6))), (87, .if_icmp .ge 20, 3, .inr (.inr (.inr 107))), (90, .aload_n 0, 1, .inl ()), (91, .getfield 23, 3, .inr (.inl (12, 11))), (94, .iconst 3, 1, .inl ()), (95, .iload_n 1, 1, .inl ()), (96, .imul, 1, .inl ()), (97, .iconst 1, 1, .inl ()), (98, .iadd, 1, .inl ()), (99, .iaload, 1, .inl ()), (100, .aload_n 0, 1, .inl ()), (101, .getfield 161, 3, .inr (.inl (12, 5))), (104, .if_icmp .lt 5, 3, .inr (.inr (.inr 109))), (107, .iconst 0, 1, .inl ()), (108, .ireturn, 1, .inl ()), (109, .iconst 0, 1, .inl ()), (110, .istore_n 2, 1, .inl ()), (111, .iload_n 2, 1, .inl ()), (112, .iload_n 1, 1, .inl ()), (113, .if_icmp .ge 53, 3, .inr (.inr (.inr 166))), (116, .aload_n 0, 1, .inl ()), (117, .getfield 23, 3, .inr (.inl (12, 11))), (120, .iconst 3, 1, .inl ()), (121, .iload_n 2, 1, .inl ()), (122, .imul, 1, .inl ()), (123, .iaload, 1, .inl ()), (124, .aload_n 0, 1, .inl ()), (125, .getfield 23, 3, .inr (.inl (12, 11))), (128, .iconst 3, 1, .inl ()), (129, .iload_n 1, 1, .inl ()), (130, .imul, 1, .inl ()), (131, .iaload, 1, .inl ()), (132, .if_icmp .ne 28, 3, .inr (.inr (.inr 160))), (135, .aload_n 0, 1, .inl ()), (136, .getfield 23, 3, .inr (.inl (12, 11))), (139, .iconst 3, 1, .inl ()), (140, .iload_n 2, 1, .inl ()), (141, .imul, 1, .inl ()), (142, .iconst 1, 1, .inl ()), (143, .iadd, 1, .inl ()), (144, .iaload, 1, .inl ()), (145, .aload_n 0, 1, .inl ()), (146, .getfield 23, 3, .inr (.inl (12, 11))), (149, .iconst 3, 1, .inl ()), (150, .iload_n 1, 1, .inl ()), (151, .imul, 1, .inl ()), (152, .iconst 1, 1, .inl ()), (153, .iadd, 1, .inl ())]
def K_M_isWhole_2 : List CE := [(154, .iaload, 1, .inl ()), (155, .if_icmp .ne 5, 3, .inr (.inr (.inr 160))), (158, .iconst 0, 1, .inl ()), (159, .ireturn, 1, .inl ()), (160, .iinc 2 1, 3, .inl ()), (163, .goto (-52), 3, .inr (.inr (.inr 111))), (166, .iinc 1 1, 3, .inl ()), (169, .goto (-102), 3, .inr (.inr (.inr 67))), (172, .iconst 1, 1, .inl ()), (173, .ireturn, 1, .inl ())]
def K_M_isWhole : List CE := K_M_isWhole_0 ++ (K_M_isWhole_1 ++ (K_M_isWhole_2))
theorem ok_M_isWhole : okM H_M_isWhole K_M_isWhole = true := by decide +kernel
def K_M_readsClause_0 : List CE := [(0, .aload_n 0, 1, .inl ()), (1, .invokevirtual 150, 3, .inr (.inr (.inr 152))), (4, .istore_n 1, 1, .inl ()), (5, .iload_n 1, 1, .inl ()), (6, .bipush 103, 2, .inl ()), (8, .if_icmp .ne 11, 3, .inr (.inr (.inr 19))), (11, .aload_n 0, 1, .inl ()), (12, .getfield 161, 3, .inr (.inl (12, 5))), (15, .iconst 4, 1, .inl ()), (16, .if_icmp .lt 45, 3, .inr (.inr (.inr 61))), (19, .iload_n 1, 1, .inl ()), (20, .bipush 115, 2, .inl ()), (22, .if_icmp .ne 11, 3, .inr (.inr (.inr 33))), (25, .aload_n 0, 1, .inl ()), (26, .getfield 164, 3, .inr (.inl (12, 6))), (29, .iconst 5, 1, .inl ()), (30, .if_icmp .lt 31, 3, .inr (.inr (.inr 61))), (33, .iload_n 1, 1, .inl ()), (34, .bipush 104, 2, .inl ()), (36, .if_icmp .ne 12, 3, .inr (.inr (.inr 48))), (39, .aload_n 0, 1, .inl ()), (40, .getfield 167, 3, .inr (.inl (12, 7))), (43, .bipush 12, 2, .inl ()), (45, .if_icmp .lt 16, 3, .inr (.inr (.inr 61))), (48, .iload_n 1, 1, .inl ()), (49, .bipush 98, 2, .inl ()), (51, .if_icmp .ne 14, 3, .inr (.inr (.inr 65))), (54, .aload_n 0, 1, .inl ()), (55, .getfield 170, 3, .inr (.inl (12, 8))), (58, .ifCond .ne 7, 3, .inr (.inr (.inr 65))), (61, .iconst 1, 1, .inl ()), (62, .goto 4, 3, .inr (.inr (.inr 66))), (65, .iconst 0, 1, .inl ()), (66, .istore_n 2, 1, .inl ()), (67, .iload_n 2, 1, .inl ()), (68, .ifCond .ne 12, 3, .inr (.inr (.inr 80))), (71, .aload_n 0, 1, .inl ()), (72, .aload_n 0, 1, .inl ()), (73, .getfield 147, 3, .inr (.inl (12, 3))), (76, .putfield 158, 3, .inr (.inl (12, 4))), (79, .return_, 1, .inl ()), (80, .aload_n 0, 1, .inl ()), (81, .dup, 1, .inl ()), (82, .getfield 147, 3, .inr (.inl (12, 3))), (85, .iconst 1, 1, .inl ()), (86, .iadd, 1, .inl ()), (87, .putfield 147, 3, .inr (.inl (12, 3))), (90, .iload_n 1, 1, .inl ()), (91, .bipush 103, 2, .inl ()), (93, .if_icmp .ne 33, 3, .inr (.inr (.inr 126)))]
def K_M_readsClause_1 : List CE := [(96, .aload_n 0, 1, .inl ()), (97, .getfield 17, 3, .inr (.inl (12, 9))), (100, .iconst 2, 1, .inl ()), (101, .aload_n 0, 1, .inl ()), (102, .getfield 161, 3, .inr (.inl (12, 5))), (105, .imul, 1, .inl ()), (106, .bipush 10, 2, .inl ()), (108, .iastore, 1, .inl ()), (109, .aload_n 0, 1, .inl ()), (110, .getfield 17, 3, .inr (.inl (12, 9))), (113, .iconst 2, 1, .inl ()), (114, .aload_n 0, 1, .inl ()), (115, .getfield 161, 3, .inr (.inl (12, 5))), (118, .imul, 1, .inl ()), (119, .iconst 1, 1, .inl ()), (120, .iadd, 1, .inl ()), (121, .iconst 0, 1, .inl ()), (122, .iastore, 1, .inl ()), (123, .goto 112, 3, .inr (.inr (.inr 235))), (126, .iload_n 1, 1, .inl ()), (127, .bipush 115, 2, .inl ()), (129, .if_icmp .ne 60, 3, .inr (.inr (.inr 189))), (132, .aload_n 0, 1, .inl ()), (133, .getfield 20, 3, .inr (.inl (12, 10))), (136, .iconst 4, 1, .inl ()), (137, .aload_n 0, 1, .inl ()), (138, .getfield 164, 3, .inr (.inl (12, 6))), (141, .imul, 1, .inl ()), (142, .iconst 0, 1, .inl ()), (143, .iastore, 1, .inl ()), (144, .aload_n 0, 1, .inl ()), (145, .getfield 20, 3, .inr (.inl (12, 10))), (148, .iconst 4, 1, .inl ()), (149, .aload_n 0, 1, .inl ()), (150, .getfield 164, 3, .inr (.inl (12, 6))), (153, .imul, 1, .inl ()), (154, .iconst 1, 1, .inl ()), (155, .iadd, 1, .inl ()), (156, .iconst 0, 1, .inl ()), (157, .iastore, 1, .inl ()), (158, .aload_n 0, 1, .inl ()), (159, .getfield 20, 3, .inr (.inl (12, 10))), (162, .iconst 4, 1, .inl ()), (163, .aload_n 0, 1, .inl ()), (164, .getfield 164, 3, .inr (.inl (12, 6))), (167, .imul, 1, .inl ()), (168, .iconst 2, 1, .inl ()), (169, .iadd, 1, .inl ()), (170, .iconst (-1), 1, .inl ()), (171, .iastore, 1, .inl ())]
def K_M_readsClause_2 : List CE := [(172, .aload_n 0, 1, .inl ()), (173, .getfield 20, 3, .inr (.inl (12, 10))), (176, .iconst 4, 1, .inl ()), (177, .aload_n 0, 1, .inl ()), (178, .getfield 164, 3, .inr (.inl (12, 6))), (181, .imul, 1, .inl ()), (182, .iconst 3, 1, .inl ()), (183, .iadd, 1, .inl ()), (184, .iconst 0, 1, .inl ()), (185, .iastore, 1, .inl ()), (186, .goto 49, 3, .inr (.inr (.inr 235))), (189, .iload_n 1, 1, .inl ()), (190, .bipush 104, 2, .inl ()), (192, .if_icmp .ne 43, 3, .inr (.inr (.inr 235))), (195, .aload_n 0, 1, .inl ()), (196, .getfield 23, 3, .inr (.inl (12, 11))), (199, .iconst 3, 1, .inl ()), (200, .aload_n 0, 1, .inl ()), (201, .getfield 167, 3, .inr (.inl (12, 7))), (204, .imul, 1, .inl ()), (205, .iconst 0, 1, .inl ()), (206, .iastore, 1, .inl ()), (207, .aload_n 0, 1, .inl ()), (208, .getfield 23, 3, .inr (.inl (12, 11))), (211, .iconst 3, 1, .inl ()), (212, .aload_n 0, 1, .inl ()), (213, .getfield 167, 3, .inr (.inl (12, 7))), (216, .imul, 1, .inl ()), (217, .iconst 1, 1, .inl ()), (218, .iadd, 1, .inl ()), (219, .iconst 0, 1, .inl ()), (220, .iastore, 1, .inl ()), (221, .aload_n 0, 1, .inl ()), (222, .getfield 23, 3, .inr (.inl (12, 11))), (225, .iconst 3, 1, .inl ()), (226, .aload_n 0, 1, .inl ()), (227, .getfield 167, 3, .inr (.inl (12, 7))), (230, .imul, 1, .inl ()), (231, .iconst 2, 1, .inl ()), (232, .iadd, 1, .inl ()), (233, .iconst 0, 1, .inl ()), (234, .iastore, 1, .inl ()), (235, .iconst 0, 1, .inl ()), (236, .istore_n 3, 1, .inl ()), (237, .aload_n 0, 1, .inl ()), (238, .getfield 158, 3, .inr (.inl (12, 4))), (241, .ifCond .ge 96, 3, .inr (.inr (.inr 337))), (244, .aload_n 0, 1, .inl ()), (245, .invokevirtual 150, 3, .inr (.inr (.inr 152))), (248, .bipush 97, 2, .inl ())]
def K_M_readsClause_3 : List CE := [(250, .if_icmp .lt 87, 3, .inr (.inr (.inr 337))), (253, .aload_n 0, 1, .inl ()), (254, .getfield 13, 3, .inr (.inl (12, 1))), (257, .aload_n 0, 1, .inl ()), (258, .getfield 147, 3, .inr (.inl (12, 3))), (261, .iaload, 1, .inl ()), (262, .bipush 122, 2, .inl ()), (264, .if_icmp .gt 73, 3, .inr (.inr (.inr 337))), (267, .aload_n 0, 1, .inl ()), (268, .getfield 13, 3, .inr (.inl (12, 1))), (271, .aload_n 0, 1, .inl ()), (272, .getfield 147, 3, .inr (.inl (12, 3))), (275, .iaload, 1, .inl ()), (276, .istore 4, 2, .inl ()), (278, .iconst 1, 1, .inl ()), (279, .iload 4, 2, .inl ()), (281, .bipush 97, 2, .inl ()), (283, .isub, 1, .inl ()), (284, .ishl, 1, .inl ()), (285, .istore 5, 2, .inl ()), (287, .iload_n 3, 1, .inl ()), (288, .iload 5, 2, .inl ()), (290, .iand, 1, .inl ()), (291, .ifCond .ne 12, 3, .inr (.inr (.inr 303))), (294, .iload_n 1, 1, .inl ()), (295, .iload 4, 2, .inl ()), (297, .invokestatic 186, 3, .inr (.inr (.inr 158))), (300, .ifCond .ne 12, 3, .inr (.inr (.inr 312))), (303, .aload_n 0, 1, .inl ()), (304, .aload_n 0, 1, .inl ()), (305, .getfield 147, 3, .inr (.inl (12, 3))), (308, .putfield 158, 3, .inr (.inl (12, 4))), (311, .return_, 1, .inl ()), (312, .iload_n 3, 1, .inl ()), (313, .iload 5, 2, .inl ()), (315, .ior, 1, .inl ()), (316, .istore_n 3, 1, .inl ()), (317, .aload_n 0, 1, .inl ()), (318, .dup, 1, .inl ()), (319, .getfield 147, 3, .inr (.inl (12, 3))), (322, .iconst 1, 1, .inl ()), (323, .iadd, 1, .inl ()), (324, .putfield 147, 3, .inr (.inl (12, 3))), (327, .aload_n 0, 1, .inl ()), (328, .iload_n 1, 1, .inl ()), (329, .iload 4, 2, .inl ()), (331, .invokevirtual 190, 3, .inr (.inr (.inr 159))), (334, .goto (-97), 3, .inr (.inr (.inr 237))), (337, .iload_n 1, 1, .inl ()), (338, .bipush 103, 2, .inl ())]
def K_M_readsClause_4 : List CE := [(340, .if_icmp .ne 16, 3, .inr (.inr (.inr 356))), (343, .aload_n 0, 1, .inl ()), (344, .dup, 1, .inl ()), (345, .getfield 161, 3, .inr (.inl (12, 5))), (348, .iconst 1, 1, .inl ()), (349, .iadd, 1, .inl ()), (350, .putfield 161, 3, .inr (.inl (12, 5))), (353, .goto 51, 3, .inr (.inr (.inr 404))), (356, .iload_n 1, 1, .inl ()), (357, .bipush 115, 2, .inl ()), (359, .if_icmp .ne 16, 3, .inr (.inr (.inr 375))), (362, .aload_n 0, 1, .inl ()), (363, .dup, 1, .inl ()), (364, .getfield 164, 3, .inr (.inl (12, 6))), (367, .iconst 1, 1, .inl ()), (368, .iadd, 1, .inl ()), (369, .putfield 164, 3, .inr (.inl (12, 6))), (372, .goto 32, 3, .inr (.inr (.inr 404))), (375, .iload_n 1, 1, .inl ()), (376, .bipush 104, 2, .inl ()), (378, .if_icmp .ne 16, 3, .inr (.inr (.inr 394))), (381, .aload_n 0, 1, .inl ()), (382, .dup, 1, .inl ()), (383, .getfield 167, 3, .inr (.inl (12, 7))), (386, .iconst 1, 1, .inl ()), (387, .iadd, 1, .inl ()), (388, .putfield 167, 3, .inr (.inl (12, 7))), (391, .goto 13, 3, .inr (.inr (.inr 404))), (394, .aload_n 0, 1, .inl ()), (395, .dup, 1, .inl ()), (396, .getfield 170, 3, .inr (.inl (12, 8))), (399, .iconst 1, 1, .inl ()), (400, .iadd, 1, .inl ()), (401, .putfield 170, 3, .inr (.inl (12, 8))), (404, .return_, 1, .inl ())]
def K_M_readsClause : List CE := K_M_readsClause_0 ++ (K_M_readsClause_1 ++ (K_M_readsClause_2 ++ (K_M_readsClause_3 ++ (K_M_readsClause_4))))
theorem ok_M_readsClause : okM H_M_readsClause K_M_readsClause = true := by decide +kernel
def K_M_isItem : List CE := [(0, .iload_n 0, 1, .inl ()), (1, .lookupswitch 107 #[(103, 35), (104, 83), (115, 53)], 35, .inl ()), (36, .iload_n 1, 1, .inl ()), (37, .bipush 112, 2, .inl ()), (39, .if_icmp .eq 9, 3, .inr (.inr (.inr 48))), (42, .iload_n 1, 1, .inl ()), (43, .bipush 116, 2, .inl ()), (45, .if_icmp .ne 7, 3, .inr (.inr (.inr 52))), (48, .iconst 1, 1, .inl ()), (49, .goto 4, 3, .inr (.inr (.inr 53))), (52, .iconst 0, 1, .inl ()), (53, .ireturn, 1, .inl ()), (54, .iload_n 1, 1, .inl ()), (55, .bipush 116, 2, .inl ()), (57, .if_icmp .eq 21, 3, .inr (.inr (.inr 78))), (60, .iload_n 1, 1, .inl ()), (61, .bipush 101, 2, .inl ()), (63, .if_icmp .eq 15, 3, .inr (.inr (.inr 78))), (66, .iload_n 1, 1, .inl ()), (67, .bipush 111, 2, .inl ()), (69, .if_icmp .eq 9, 3, .inr (.inr (.inr 78))), (72, .iload_n 1, 1, .inl ()), (73, .bipush 118, 2, .inl ()), (75, .if_icmp .ne 7, 3, .inr (.inr (.inr 82))), (78, .iconst 1, 1, .inl ()), (79, .goto 4, 3, .inr (.inr (.inr 83))), (82, .iconst 0, 1, .inl ()), (83, .ireturn, 1, .inl ()), (84, .iload_n 1, 1, .inl ()), (85, .bipush 115, 2, .inl ()), (87, .if_icmp .eq 15, 3, .inr (.inr (.inr 102))), (90, .iload_n 1, 1, .inl ()), (91, .bipush 103, 2, .inl ()), (93, .if_icmp .eq 9, 3, .inr (.inr (.inr 102))), (96, .iload_n 1, 1, .inl ()), (97, .bipush 100, 2, .inl ()), (99, .if_icmp .ne 7, 3, .inr (.inr (.inr 106))), (102, .iconst 1, 1, .inl ()), (103, .goto 4, 3, .inr (.inr (.inr 107))), (106, .iconst 0, 1, .inl ()), (107, .ireturn, 1, .inl ()), (108, .iload_n 1, 1, .inl ()), (109, .bipush 110, 2, .inl ()), (111, .if_icmp .eq 9, 3, .inr (.inr (.inr 120))), (114, .iload_n 1, 1, .inl ()), (115, .bipush 119, 2, .inl ()), (117, .if_icmp .ne 7, 3, .inr (.inr (.inr 124))), (120, .iconst 1, 1, .inl ()), (121, .goto 4, 3, .inr (.inr (.inr 125))), (124, .iconst 0, 1, .inl ()), (125, .ireturn, 1, .inl ())]
theorem ok_M_isItem : okM H_M_isItem K_M_isItem = true := by decide +kernel
def K_M_readsItem_0 : List CE := [(0, .iload_n 1, 1, .inl ()), (1, .bipush 103, 2, .inl ()), (3, .if_icmp .ne 36, 3, .inr (.inr (.inr 39))), (6, .aload_n 0, 1, .inl ()), (7, .getfield 17, 3, .inr (.inl (12, 9))), (10, .iconst 2, 1, .inl ()), (11, .aload_n 0, 1, .inl ()), (12, .getfield 161, 3, .inr (.inl (12, 5))), (15, .imul, 1, .inl ()), (16, .iload_n 2, 1, .inl ()), (17, .bipush 112, 2, .inl ()), (19, .if_icmp .ne 7, 3, .inr (.inr (.inr 26))), (22, .iconst 0, 1, .inl ()), (23, .goto 4, 3, .inr (.inr (.inr 27))), (26, .iconst 1, 1, .inl ()), (27, .iadd, 1, .inl ()), (28, .aload_n 0, 1, .inl ()), (29, .iconst 0, 1, .inl ()), (30, .bipush 99, 2, .inl ()), (32, .invokevirtual 194, 3, .inr (.inr (.inr 154))), (35, .iastore, 1, .inl ()), (36, .goto 211, 3, .inr (.inr (.inr 247))), (39, .iload_n 1, 1, .inl ()), (40, .bipush 115, 2, .inl ()), (42, .if_icmp .ne 100, 3, .inr (.inr (.inr 142))), (45, .iconst 4, 1, .inl ()), (46, .aload_n 0, 1, .inl ()), (47, .getfield 164, 3, .inr (.inl (12, 6))), (50, .imul, 1, .inl ()), (51, .istore_n 3, 1, .inl ()), (52, .iload_n 2, 1, .inl ()), (53, .bipush 116, 2, .inl ()), (55, .if_icmp .ne 19, 3, .inr (.inr (.inr 74))), (58, .aload_n 0, 1, .inl ()), (59, .getfield 20, 3, .inr (.inl (12, 10))), (62, .iload_n 3, 1, .inl ()), (63, .aload_n 0, 1, .inl ()), (64, .iconst 0, 1, .inl ()), (65, .bipush 59, 2, .inl ()), (67, .invokevirtual 194, 3, .inr (.inr (.inr 154))), (70, .iastore, 1, .inl ()), (71, .goto 68, 3, .inr (.inr (.inr 139))), (74, .iload_n 2, 1, .inl ()), (75, .bipush 101, 2, .inl ()), (77, .if_icmp .ne 20, 3, .inr (.inr (.inr 97))), (80, .aload_n 0, 1, .inl ()), (81, .getfield 20, 3, .inr (.inl (12, 10))), (84, .iload_n 3, 1, .inl ()), (85, .iconst 1, 1, .inl ()), (86, .iadd, 1, .inl ())]
def K_M_readsItem_1 : List CE := [(87, .aload_n 0, 1, .inl ()), (88, .iconst 0, 1, .inl ()), (89, .iconst 3, 1, .inl ()), (90, .invokevirtual 194, 3, .inr (.inr (.inr 154))), (93, .iastore, 1, .inl ()), (94, .goto 45, 3, .inr (.inr (.inr 139))), (97, .iload_n 2, 1, .inl ()), (98, .bipush 111, 2, .inl ()), (100, .if_icmp .ne 25, 3, .inr (.inr (.inr 125))), (103, .aload_n 0, 1, .inl ()), (104, .getfield 20, 3, .inr (.inl (12, 10))), (107, .iload_n 3, 1, .inl ()), (108, .iconst 2, 1, .inl ()), (109, .iadd, 1, .inl ()), (110, .aload_n 0, 1, .inl ()), (111, .iconst 0, 1, .inl ()), (112, .aload_n 0, 1, .inl ()), (113, .getfield 164, 3, .inr (.inl (12, 6))), (116, .iconst 1, 1, .inl ()), (117, .isub, 1, .inl ()), (118, .invokevirtual 194, 3, .inr (.inr (.inr 154))), (121, .iastore, 1, .inl ()), (122, .goto 17, 3, .inr (.inr (.inr 139))), (125, .aload_n 0, 1, .inl ()), (126, .getfield 20, 3, .inr (.inl (12, 10))), (129, .iload_n 3, 1, .inl ()), (130, .iconst 3, 1, .inl ()), (131, .iadd, 1, .inl ()), (132, .aload_n 0, 1, .inl ()), (133, .iconst 0, 1, .inl ()), (134, .iconst 3, 1, .inl ()), (135, .invokevirtual 194, 3, .inr (.inr (.inr 154))), (138, .iastore, 1, .inl ()), (139, .goto 108, 3, .inr (.inr (.inr 247))), (142, .iload_n 1, 1, .inl ()), (143, .bipush 104, 2, .inl ()), (145, .if_icmp .ne 72, 3, .inr (.inr (.inr 217))), (148, .iconst 3, 1, .inl ()), (149, .aload_n 0, 1, .inl ()), (150, .getfield 167, 3, .inr (.inl (12, 7))), (153, .imul, 1, .inl ()), (154, .istore_n 3, 1, .inl ()), (155, .iload_n 2, 1, .inl ()), (156, .bipush 115, 2, .inl ()), (158, .if_icmp .ne 18, 3, .inr (.inr (.inr 176))), (161, .aload_n 0, 1, .inl ()), (162, .getfield 23, 3, .inr (.inl (12, 11))), (165, .iload_n 3, 1, .inl ()), (166, .aload_n 0, 1, .inl ()), (167, .iconst 0, 1, .inl ())]
def K_M_readsItem_2 : List CE := [(168, .iconst 4, 1, .inl ()), (169, .invokevirtual 194, 3, .inr (.inr (.inr 154))), (172, .iastore, 1, .inl ()), (173, .goto 41, 3, .inr (.inr (.inr 214))), (176, .iload_n 2, 1, .inl ()), (177, .bipush 103, 2, .inl ()), (179, .if_icmp .ne 20, 3, .inr (.inr (.inr 199))), (182, .aload_n 0, 1, .inl ()), (183, .getfield 23, 3, .inr (.inl (12, 11))), (186, .iload_n 3, 1, .inl ()), (187, .iconst 1, 1, .inl ()), (188, .iadd, 1, .inl ()), (189, .aload_n 0, 1, .inl ()), (190, .iconst 0, 1, .inl ()), (191, .iconst 3, 1, .inl ()), (192, .invokevirtual 194, 3, .inr (.inr (.inr 154))), (195, .iastore, 1, .inl ()), (196, .goto 18, 3, .inr (.inr (.inr 214))), (199, .aload_n 0, 1, .inl ()), (200, .getfield 23, 3, .inr (.inl (12, 11))), (203, .iload_n 3, 1, .inl ()), (204, .iconst 2, 1, .inl ()), (205, .iadd, 1, .inl ()), (206, .aload_n 0, 1, .inl ()), (207, .iconst 0, 1, .inl ()), (208, .bipush 9, 2, .inl ()), (210, .invokevirtual 194, 3, .inr (.inr (.inr 154))), (213, .iastore, 1, .inl ()), (214, .goto 33, 3, .inr (.inr (.inr 247))), (217, .iload_n 2, 1, .inl ()), (218, .bipush 110, 2, .inl ()), (220, .if_icmp .ne 16, 3, .inr (.inr (.inr 236))), (223, .aload_n 0, 1, .inl ()), (224, .aload_n 0, 1, .inl ()), (225, .iconst 2, 1, .inl ()), (226, .iconst 4, 1, .inl ()), (227, .invokevirtual 194, 3, .inr (.inr (.inr 154))), (230, .putfield 173, 3, .inr (.inl (12, 12))), (233, .goto 14, 3, .inr (.inr (.inr 247))), (236, .aload_n 0, 1, .inl ()), (237, .aload_n 0, 1, .inl ()), (238, .iconst 0, 1, .inl ()), (239, .bipush 9, 2, .inl ()), (241, .invokevirtual 194, 3, .inr (.inr (.inr 154))), (244, .putfield 176, 3, .inr (.inl (12, 13))), (247, .return_, 1, .inl ())]
def K_M_readsItem : List CE := K_M_readsItem_0 ++ (K_M_readsItem_1 ++ (K_M_readsItem_2))
theorem ok_M_readsItem : okM H_M_readsItem K_M_readsItem = true := by decide +kernel
def K_M_comesOut : List CE := [(0, .aload_n 0, 1, .inl ()), (1, .getfield 198, 3, .inr (.inl (12, 17))), (4, .ifCond .le 59, 3, .inr (.inr (.inr 63))), (7, .aload_n 0, 1, .inl ()), (8, .getfield 29, 3, .inr (.inl (12, 16))), (11, .aload_n 0, 1, .inl ()), (12, .getfield 198, 3, .inr (.inl (12, 17))), (15, .iconst 1, 1, .inl ()), (16, .isub, 1, .inl ()), (17, .iaload, 1, .inl ()), (18, .iload_n 1, 1, .inl ()), (19, .if_icmp .lt 44, 3, .inr (.inr (.inr 63))), (22, .aload_n 0, 1, .inl ()), (23, .dup, 1, .inl ()), (24, .getfield 198, 3, .inr (.inl (12, 17))), (27, .iconst 1, 1, .inl ()), (28, .isub, 1, .inl ()), (29, .putfield 198, 3, .inr (.inl (12, 17))), (32, .aload_n 0, 1, .inl ()), (33, .getfield 26, 3, .inr (.inl (12, 14))), (36, .aload_n 0, 1, .inl ()), (37, .getfield 201, 3, .inr (.inl (12, 15))), (40, .aload_n 0, 1, .inl ()), (41, .getfield 29, 3, .inr (.inl (12, 16))), (44, .aload_n 0, 1, .inl ()), (45, .getfield 198, 3, .inr (.inl (12, 17))), (48, .iaload, 1, .inl ()), (49, .iastore, 1, .inl ()), (50, .aload_n 0, 1, .inl ()), (51, .dup, 1, .inl ()), (52, .getfield 201, 3, .inr (.inl (12, 15))), (55, .iconst 1, 1, .inl ()), (56, .iadd, 1, .inl ()), (57, .putfield 201, 3, .inr (.inl (12, 15))), (60, .goto (-60), 3, .inr (.inr (.inr 0))), (63, .return_, 1, .inl ())]
theorem ok_M_comesOut : okM H_M_comesOut K_M_comesOut = true := by decide +kernel
def K_M_wrongPlan_0 : List CE := [(0, .aload_n 0, 1, .inl ()), (1, .iconst 0, 1, .inl ()), (2, .putfield 147, 3, .inr (.inl (12, 3))), (5, .aload_n 0, 1, .inl ()), (6, .iconst (-1), 1, .inl ()), (7, .putfield 158, 3, .inr (.inl (12, 4))), (10, .aload_n 0, 1, .inl ()), (11, .iconst 0, 1, .inl ()), (12, .putfield 201, 3, .inr (.inl (12, 15))), (15, .aload_n 0, 1, .inl ()), (16, .iconst 0, 1, .inl ()), (17, .putfield 198, 3, .inr (.inl (12, 17))), (20, .iconst 0, 1, .inl ()), (21, .istore_n 1, 1, .inl ()), (22, .aload_n 0, 1, .inl ()), (23, .invokevirtual 150, 3, .inr (.inr (.inr 152))), (26, .istore_n 2, 1, .inl ()), (27, .iload_n 2, 1, .inl ()), (28, .bipush 40, 2, .inl ()), (30, .if_icmp .ne 51, 3, .inr (.inr (.inr 81))), (33, .iload_n 1, 1, .inl ()), (34, .bipush 6, 2, .inl ()), (36, .if_icmp .ge 45, 3, .inr (.inr (.inr 81))), (39, .iinc 1 1, 3, .inl ()), (42, .aload_n 0, 1, .inl ()), (43, .getfield 29, 3, .inr (.inl (12, 16))), (46, .aload_n 0, 1, .inl ()), (47, .getfield 198, 3, .inr (.inl (12, 17))), (50, .bipush (-3), 2, .inl ()), (52, .iastore, 1, .inl ()), (53, .aload_n 0, 1, .inl ()), (54, .dup, 1, .inl ()), (55, .getfield 198, 3, .inr (.inl (12, 17))), (58, .iconst 1, 1, .inl ()), (59, .iadd, 1, .inl ()), (60, .putfield 198, 3, .inr (.inl (12, 17))), (63, .aload_n 0, 1, .inl ()), (64, .dup, 1, .inl ()), (65, .getfield 147, 3, .inr (.inl (12, 3))), (68, .iconst 1, 1, .inl ()), (69, .iadd, 1, .inl ()), (70, .putfield 147, 3, .inr (.inl (12, 3))), (73, .aload_n 0, 1, .inl ()), (74, .invokevirtual 150, 3, .inr (.inr (.inr 152))), (77, .istore_n 2, 1, .inl ()), (78, .goto (-51), 3, .inr (.inr (.inr 27))), (81, .iload_n 2, 1, .inl ()), (82, .bipush 97, 2, .inl ()), (84, .if_icmp .lt 9, 3, .inr (.inr (.inr 93))), (87, .iload_n 2, 1, .inl ())]
def K_M_wrongPlan_1 : List CE := [(88, .bipush 101, 2, .inl ()), (90, .if_icmp .le 8, 3, .inr (.inr (.inr 98))), (93, .aload_n 0, 1, .inl ()), (94, .getfield 147, 3, .inr (.inl (12, 3))), (97, .ireturn, 1, .inl ()), (98, .aload_n 0, 1, .inl ()), (99, .dup, 1, .inl ()), (100, .getfield 147, 3, .inr (.inl (12, 3))), (103, .iconst 1, 1, .inl ()), (104, .iadd, 1, .inl ()), (105, .putfield 147, 3, .inr (.inl (12, 3))), (108, .bipush 100, 2, .inl ()), (110, .iload_n 2, 1, .inl ()), (111, .bipush 97, 2, .inl ()), (113, .isub, 1, .inl ()), (114, .imul, 1, .inl ()), (115, .istore_n 3, 1, .inl ()), (116, .aload_n 0, 1, .inl ()), (117, .invokevirtual 150, 3, .inr (.inr (.inr 152))), (120, .bipush 43, 2, .inl ()), (122, .if_icmp .ne 35, 3, .inr (.inr (.inr 157))), (125, .aload_n 0, 1, .inl ()), (126, .dup, 1, .inl ()), (127, .getfield 147, 3, .inr (.inl (12, 3))), (130, .iconst 1, 1, .inl ()), (131, .iadd, 1, .inl ()), (132, .putfield 147, 3, .inr (.inl (12, 3))), (135, .iload_n 3, 1, .inl ()), (136, .aload_n 0, 1, .inl ()), (137, .iconst 0, 1, .inl ()), (138, .bipush 99, 2, .inl ()), (140, .invokevirtual 194, 3, .inr (.inr (.inr 154))), (143, .iadd, 1, .inl ()), (144, .istore_n 3, 1, .inl ()), (145, .aload_n 0, 1, .inl ()), (146, .getfield 158, 3, .inr (.inl (12, 4))), (149, .ifCond .lt 8, 3, .inr (.inr (.inr 157))), (152, .aload_n 0, 1, .inl ()), (153, .getfield 158, 3, .inr (.inl (12, 4))), (156, .ireturn, 1, .inl ()), (157, .aload_n 0, 1, .inl ()), (158, .getfield 26, 3, .inr (.inl (12, 14))), (161, .aload_n 0, 1, .inl ()), (162, .getfield 201, 3, .inr (.inl (12, 15))), (165, .iload_n 3, 1, .inl ()), (166, .iastore, 1, .inl ()), (167, .aload_n 0, 1, .inl ()), (168, .dup, 1, .inl ()), (169, .getfield 201, 3, .inr (.inl (12, 15))), (172, .iconst 1, 1, .inl ())]
def K_M_wrongPlan_2 : List CE := [(173, .iadd, 1, .inl ()), (174, .putfield 201, 3, .inr (.inl (12, 15))), (177, .aload_n 0, 1, .inl ()), (178, .invokevirtual 150, 3, .inr (.inr (.inr 152))), (181, .istore_n 2, 1, .inl ()), (182, .iload_n 2, 1, .inl ()), (183, .bipush 41, 2, .inl ()), (185, .if_icmp .ne 44, 3, .inr (.inr (.inr 229))), (188, .iload_n 1, 1, .inl ()), (189, .ifCond .le 40, 3, .inr (.inr (.inr 229))), (192, .aload_n 0, 1, .inl ()), (193, .bipush (-2), 2, .inl ()), (195, .invokevirtual 204, 3, .inr (.inr (.inr 160))), (198, .aload_n 0, 1, .inl ()), (199, .dup, 1, .inl ()), (200, .getfield 198, 3, .inr (.inl (12, 17))), (203, .iconst 1, 1, .inl ()), (204, .isub, 1, .inl ()), (205, .putfield 198, 3, .inr (.inl (12, 17))), (208, .iinc 1 (-1), 3, .inl ()), (211, .aload_n 0, 1, .inl ()), (212, .dup, 1, .inl ()), (213, .getfield 147, 3, .inr (.inl (12, 3))), (216, .iconst 1, 1, .inl ()), (217, .iadd, 1, .inl ()), (218, .putfield 147, 3, .inr (.inl (12, 3))), (221, .aload_n 0, 1, .inl ()), (222, .invokevirtual 150, 3, .inr (.inr (.inr 152))), (225, .istore_n 2, 1, .inl ()), (226, .goto (-44), 3, .inr (.inr (.inr 182))), (229, .iload_n 2, 1, .inl ()), (230, .iconst (-1), 1, .inl ()), (231, .if_icmp .ne 6, 3, .inr (.inr (.inr 237))), (234, .goto 80, 3, .inr (.inr (.inr 314))), (237, .iload_n 2, 1, .inl ()), (238, .bipush 38, 2, .inl ()), (240, .if_icmp .eq 14, 3, .inr (.inr (.inr 254))), (243, .iload_n 2, 1, .inl ()), (244, .bipush 124, 2, .inl ()), (246, .if_icmp .eq 8, 3, .inr (.inr (.inr 254))), (249, .aload_n 0, 1, .inl ()), (250, .getfield 147, 3, .inr (.inl (12, 3))), (253, .ireturn, 1, .inl ()), (254, .aload_n 0, 1, .inl ()), (255, .iload_n 2, 1, .inl ()), (256, .bipush 38, 2, .inl ()), (258, .if_icmp .ne 7, 3, .inr (.inr (.inr 265))), (261, .iconst (-1), 1, .inl ()), (262, .goto 5, 3, .inr (.inr (.inr 267))), (265, .bipush (-2), 2, .inl ())]
def K_M_wrongPlan_3 : List CE := [(267, .invokevirtual 204, 3, .inr (.inr (.inr 160))), (270, .aload_n 0, 1, .inl ()), (271, .getfield 29, 3, .inr (.inl (12, 16))), (274, .aload_n 0, 1, .inl ()), (275, .getfield 198, 3, .inr (.inl (12, 17))), (278, .iload_n 2, 1, .inl ()), (279, .bipush 38, 2, .inl ()), (281, .if_icmp .ne 7, 3, .inr (.inr (.inr 288))), (284, .iconst (-1), 1, .inl ()), (285, .goto 5, 3, .inr (.inr (.inr 290))), (288, .bipush (-2), 2, .inl ()), (290, .iastore, 1, .inl ()), (291, .aload_n 0, 1, .inl ()), (292, .dup, 1, .inl ()), (293, .getfield 198, 3, .inr (.inl (12, 17))), (296, .iconst 1, 1, .inl ()), (297, .iadd, 1, .inl ()), (298, .putfield 198, 3, .inr (.inl (12, 17))), (301, .aload_n 0, 1, .inl ()), (302, .dup, 1, .inl ()), (303, .getfield 147, 3, .inr (.inl (12, 3))), (306, .iconst 1, 1, .inl ()), (307, .iadd, 1, .inl ()), (308, .putfield 147, 3, .inr (.inl (12, 3))), (311, .goto (-289), 3, .inr (.inr (.inr 22))), (314, .iload_n 1, 1, .inl ()), (315, .ifCond .le 8, 3, .inr (.inr (.inr 323))), (318, .aload_n 0, 1, .inl ()), (319, .getfield 136, 3, .inr (.inl (12, 2))), (322, .ireturn, 1, .inl ()), (323, .aload_n 0, 1, .inl ()), (324, .bipush (-2), 2, .inl ()), (326, .invokevirtual 204, 3, .inr (.inr (.inr 160))), (329, .iconst (-1), 1, .inl ()), (330, .ireturn, 1, .inl ())]
def K_M_wrongPlan : List CE := K_M_wrongPlan_0 ++ (K_M_wrongPlan_1 ++ (K_M_wrongPlan_2 ++ (K_M_wrongPlan_3)))
theorem ok_M_wrongPlan : okM H_M_wrongPlan K_M_wrongPlan = true := by decide +kernel
def K_M_fault : List CE := [(0, .aload_n 0, 1, .inl ()), (1, .iconst 0, 1, .inl ()), (2, .putfield 1, 3, .inr (.inl (12, 0))), (5, .iload_n 1, 1, .inl ()), (6, .ifCond .ne 10, 3, .inr (.inr (.inr 16))), (9, .aload_n 0, 1, .inl ()), (10, .invokevirtual 207, 3, .inr (.inr (.inr 155))), (13, .goto 17, 3, .inr (.inr (.inr 30))), (16, .iload_n 1, 1, .inl ()), (17, .iconst 1, 1, .inl ()), (18, .if_icmp .ne 10, 3, .inr (.inr (.inr 28))), (21, .aload_n 0, 1, .inl ()), (22, .invokevirtual 210, 3, .inr (.inr (.inr 161))), (25, .goto 5, 3, .inr (.inr (.inr 30))), (28, .bipush (-2), 2, .inl ()), (30, .ireturn, 1, .inl ())]
theorem ok_M_fault : okM H_M_fault K_M_fault = true := by decide +kernel
def K_M_wipes : List CE := [(0, .aload_n 0, 1, .inl ()), (1, .iconst 0, 1, .inl ()), (2, .putfield 213, 3, .inr (.inl (12, 18))), (5, .iconst 0, 1, .inl ()), (6, .istore_n 1, 1, .inl ()), (7, .iload_n 1, 1, .inl ()), (8, .iconst 4, 1, .inl ()), (9, .if_icmp .ge 16, 3, .inr (.inr (.inr 25))), (12, .aload_n 0, 1, .inl ()), (13, .getfield 38, 3, .inr (.inl (12, 25))), (16, .iload_n 1, 1, .inl ()), (17, .iconst (-1), 1, .inl ()), (18, .iastore, 1, .inl ()), (19, .iinc 1 1, 3, .inl ()), (22, .goto (-15), 3, .inr (.inr (.inr 7))), (25, .iconst 0, 1, .inl ()), (26, .istore_n 1, 1, .inl ()), (27, .iload_n 1, 1, .inl ()), (28, .bipush 20, 2, .inl ()), (30, .if_icmp .ge 16, 3, .inr (.inr (.inr 46))), (33, .aload_n 0, 1, .inl ()), (34, .getfield 53, 3, .inr (.inl (12, 30))), (37, .iload_n 1, 1, .inl ()), (38, .iconst (-1), 1, .inl ()), (39, .iastore, 1, .inl ()), (40, .iinc 1 1, 3, .inl ()), (43, .goto (-16), 3, .inr (.inr (.inr 27))), (46, .return_, 1, .inl ())]
theorem ok_M_wipes : okM H_M_wipes K_M_wipes = true := by decide +kernel
def K_M_text_0 : List CE := [(0, .aload_n 0, 1, .inl ()), (1, .iconst 0, 1, .inl ()), (2, .putfield 1, 3, .inr (.inl (12, 0))), (5, .iload_n 1, 1, .inl ()), (6, .ifCond .ne 20, 3, .inr (.inr (.inr 26))), (9, .aload_n 0, 1, .inl ()), (10, .invokevirtual 207, 3, .inr (.inr (.inr 155))), (13, .iconst (-1), 1, .inl ()), (14, .if_icmp .ne 12, 3, .inr (.inr (.inr 26))), (17, .aload_n 0, 1, .inl ()), (18, .invokevirtual 217, 3, .inr (.inr (.inr 165))), (21, .aload_n 0, 1, .inl ()), (22, .getfield 220, 3, .inr (.inl (12, 19))), (25, .ireturn, 1, .inl ()), (26, .iload_n 1, 1, .inl ()), (27, .iconst 1, 1, .inl ()), (28, .if_icmp .ne 20, 3, .inr (.inr (.inr 48))), (31, .aload_n 0, 1, .inl ()), (32, .getfield 223, 3, .inr (.inl (12, 31))), (35, .bipush 8, 2, .inl ()), (37, .if_icmp .eq 11, 3, .inr (.inr (.inr 48))), (40, .aload_n 0, 1, .inl ()), (41, .invokevirtual 210, 3, .inr (.inr (.inr 161))), (44, .iconst (-1), 1, .inl ()), (45, .if_icmp .eq 5, 3, .inr (.inr (.inr 50))), (48, .iconst (-1), 1, .inl ()), (49, .ireturn, 1, .inl ()), (50, .iconst 0, 1, .inl ()), (51, .istore_n 2, 1, .inl ()), (52, .iload_n 2, 1, .inl ()), (53, .aload_n 0, 1, .inl ()), (54, .getfield 201, 3, .inr (.inl (12, 15))), (57, .if_icmp .ge 30, 3, .inr (.inr (.inr 87))), (60, .aload_n 0, 1, .inl ()), (61, .getfield 56, 3, .inr (.inl (12, 32))), (64, .sipush 160, 3, .inl ()), (67, .aload_n 0, 1, .inl ()), (68, .getfield 223, 3, .inr (.inl (12, 31))), (71, .imul, 1, .inl ()), (72, .iload_n 2, 1, .inl ()), (73, .iadd, 1, .inl ()), (74, .aload_n 0, 1, .inl ()), (75, .getfield 26, 3, .inr (.inl (12, 14))), (78, .iload_n 2, 1, .inl ()), (79, .iaload, 1, .inl ()), (80, .iastore, 1, .inl ()), (81, .iinc 2 1, 3, .inl ()), (84, .goto (-32), 3, .inr (.inr (.inr 52))), (87, .aload_n 0, 1, .inl ()), (88, .getfield 59, 3, .inr (.inl (12, 33)))]
def K_M_text_1 : List CE := [(91, .aload_n 0, 1, .inl ()), (92, .getfield 223, 3, .inr (.inl (12, 31))), (95, .aload_n 0, 1, .inl ()), (96, .getfield 201, 3, .inr (.inl (12, 15))), (99, .iastore, 1, .inl ()), (100, .aload_n 0, 1, .inl ()), (101, .dup, 1, .inl ()), (102, .getfield 223, 3, .inr (.inl (12, 31))), (105, .iconst 1, 1, .inl ()), (106, .iadd, 1, .inl ()), (107, .putfield 223, 3, .inr (.inl (12, 31))), (110, .aload_n 0, 1, .inl ()), (111, .iconst 0, 1, .inl ()), (112, .putfield 136, 3, .inr (.inl (12, 2))), (115, .aload_n 0, 1, .inl ()), (116, .getfield 223, 3, .inr (.inl (12, 31))), (119, .iconst 1, 1, .inl ()), (120, .isub, 1, .inl ()), (121, .ireturn, 1, .inl ())]
def K_M_text : List CE := K_M_text_0 ++ (K_M_text_1)
theorem ok_M_text : okM H_M_text K_M_text = true := by decide +kernel
def K_M_laysLand_0 : List CE := [(0, .aload_n 0, 1, .inl ()), (1, .invokevirtual 133, 3, .inr (.inr (.inr 163))), (4, .aload_n 0, 1, .inl ()), (5, .iconst 1, 1, .inl ()), (6, .putfield 213, 3, .inr (.inl (12, 18))), (9, .aload_n 0, 1, .inl ()), (10, .iconst 0, 1, .inl ()), (11, .putfield 136, 3, .inr (.inl (12, 2))), (14, .aload_n 0, 1, .inl ()), (15, .aload_n 0, 1, .inl ()), (16, .getfield 161, 3, .inr (.inl (12, 5))), (19, .putfield 220, 3, .inr (.inl (12, 19))), (22, .aload_n 0, 1, .inl ()), (23, .aload_n 0, 1, .inl ()), (24, .getfield 164, 3, .inr (.inl (12, 6))), (27, .putfield 226, 3, .inr (.inl (12, 20))), (30, .aload_n 0, 1, .inl ()), (31, .aload_n 0, 1, .inl ()), (32, .getfield 173, 3, .inr (.inl (12, 12))), (35, .putfield 229, 3, .inr (.inl (12, 21))), (38, .aload_n 0, 1, .inl ()), (39, .aload_n 0, 1, .inl ()), (40, .getfield 176, 3, .inr (.inl (12, 13))), (43, .putfield 232, 3, .inr (.inl (12, 22))), (46, .iconst 0, 1, .inl ()), (47, .istore_n 1, 1, .inl ()), (48, .iload_n 1, 1, .inl ()), (49, .aload_n 0, 1, .inl ()), (50, .getfield 220, 3, .inr (.inl (12, 19))), (53, .if_icmp .ge 39, 3, .inr (.inr (.inr 92))), (56, .aload_n 0, 1, .inl ()), (57, .getfield 32, 3, .inr (.inl (12, 23))), (60, .iload_n 1, 1, .inl ()), (61, .aload_n 0, 1, .inl ()), (62, .getfield 17, 3, .inr (.inl (12, 9))), (65, .iconst 2, 1, .inl ()), (66, .iload_n 1, 1, .inl ()), (67, .imul, 1, .inl ()), (68, .iaload, 1, .inl ()), (69, .iastore, 1, .inl ()), (70, .aload_n 0, 1, .inl ()), (71, .getfield 35, 3, .inr (.inl (12, 24))), (74, .iload_n 1, 1, .inl ()), (75, .aload_n 0, 1, .inl ()), (76, .getfield 17, 3, .inr (.inl (12, 9))), (79, .iconst 2, 1, .inl ()), (80, .iload_n 1, 1, .inl ()), (81, .imul, 1, .inl ()), (82, .iconst 1, 1, .inl ()), (83, .iadd, 1, .inl ())]
def K_M_laysLand_1 : List CE := [(84, .iaload, 1, .inl ()), (85, .iastore, 1, .inl ()), (86, .iinc 1 1, 3, .inl ()), (89, .goto (-41), 3, .inr (.inr (.inr 48))), (92, .iconst 0, 1, .inl ()), (93, .istore_n 1, 1, .inl ()), (94, .iload_n 1, 1, .inl ()), (95, .aload_n 0, 1, .inl ()), (96, .getfield 226, 3, .inr (.inl (12, 20))), (99, .if_icmp .ge 71, 3, .inr (.inr (.inr 170))), (102, .aload_n 0, 1, .inl ()), (103, .getfield 41, 3, .inr (.inl (12, 26))), (106, .iload_n 1, 1, .inl ()), (107, .aload_n 0, 1, .inl ()), (108, .getfield 20, 3, .inr (.inl (12, 10))), (111, .iconst 4, 1, .inl ()), (112, .iload_n 1, 1, .inl ()), (113, .imul, 1, .inl ()), (114, .iaload, 1, .inl ()), (115, .iastore, 1, .inl ()), (116, .aload_n 0, 1, .inl ()), (117, .getfield 44, 3, .inr (.inl (12, 27))), (120, .iload_n 1, 1, .inl ()), (121, .aload_n 0, 1, .inl ()), (122, .getfield 20, 3, .inr (.inl (12, 10))), (125, .iconst 4, 1, .inl ()), (126, .iload_n 1, 1, .inl ()), (127, .imul, 1, .inl ()), (128, .iconst 1, 1, .inl ()), (129, .iadd, 1, .inl ()), (130, .iaload, 1, .inl ()), (131, .iastore, 1, .inl ()), (132, .aload_n 0, 1, .inl ()), (133, .getfield 47, 3, .inr (.inl (12, 28))), (136, .iload_n 1, 1, .inl ()), (137, .aload_n 0, 1, .inl ()), (138, .getfield 20, 3, .inr (.inl (12, 10))), (141, .iconst 4, 1, .inl ()), (142, .iload_n 1, 1, .inl ()), (143, .imul, 1, .inl ()), (144, .iconst 2, 1, .inl ()), (145, .iadd, 1, .inl ()), (146, .iaload, 1, .inl ()), (147, .iastore, 1, .inl ()), (148, .aload_n 0, 1, .inl ()), (149, .getfield 50, 3, .inr (.inl (12, 29))), (152, .iload_n 1, 1, .inl ()), (153, .aload_n 0, 1, .inl ()), (154, .getfield 20, 3, .inr (.inl (12, 10))), (157, .iconst 4, 1, .inl ())]
def K_M_laysLand_2 : List CE := [(158, .iload_n 1, 1, .inl ()), (159, .imul, 1, .inl ()), (160, .iconst 3, 1, .inl ()), (161, .iadd, 1, .inl ()), (162, .iaload, 1, .inl ()), (163, .iastore, 1, .inl ()), (164, .iinc 1 1, 3, .inl ()), (167, .goto (-73), 3, .inr (.inr (.inr 94))), (170, .iconst 0, 1, .inl ()), (171, .istore_n 1, 1, .inl ()), (172, .iload_n 1, 1, .inl ()), (173, .aload_n 0, 1, .inl ()), (174, .getfield 167, 3, .inr (.inl (12, 7))), (177, .if_icmp .ge 45, 3, .inr (.inr (.inr 222))), (180, .aload_n 0, 1, .inl ()), (181, .getfield 53, 3, .inr (.inl (12, 30))), (184, .iconst 5, 1, .inl ()), (185, .aload_n 0, 1, .inl ()), (186, .getfield 23, 3, .inr (.inl (12, 11))), (189, .iconst 3, 1, .inl ()), (190, .iload_n 1, 1, .inl ()), (191, .imul, 1, .inl ()), (192, .iconst 1, 1, .inl ()), (193, .iadd, 1, .inl ()), (194, .iaload, 1, .inl ()), (195, .imul, 1, .inl ()), (196, .aload_n 0, 1, .inl ()), (197, .getfield 23, 3, .inr (.inl (12, 11))), (200, .iconst 3, 1, .inl ()), (201, .iload_n 1, 1, .inl ()), (202, .imul, 1, .inl ()), (203, .iaload, 1, .inl ()), (204, .iadd, 1, .inl ()), (205, .aload_n 0, 1, .inl ()), (206, .getfield 23, 3, .inr (.inl (12, 11))), (209, .iconst 3, 1, .inl ()), (210, .iload_n 1, 1, .inl ()), (211, .imul, 1, .inl ()), (212, .iconst 2, 1, .inl ()), (213, .iadd, 1, .inl ()), (214, .iaload, 1, .inl ()), (215, .iastore, 1, .inl ()), (216, .iinc 1 1, 3, .inl ()), (219, .goto (-47), 3, .inr (.inr (.inr 172))), (222, .aload_n 0, 1, .inl ()), (223, .iconst 0, 1, .inl ()), (224, .putfield 235, 3, .inr (.inl (12, 49))), (227, .aload_n 0, 1, .inl ()), (228, .iconst 0, 1, .inl ()), (229, .putfield 238, 3, .inr (.inl (12, 52)))]
def K_M_laysLand_3 : List CE := [(232, .aload_n 0, 1, .inl ()), (233, .iconst 0, 1, .inl ()), (234, .putfield 241, 3, .inr (.inl (12, 56))), (237, .return_, 1, .inl ())]
def K_M_laysLand : List CE := K_M_laysLand_0 ++ (K_M_laysLand_1 ++ (K_M_laysLand_2 ++ (K_M_laysLand_3)))
theorem ok_M_laysLand : okM H_M_laysLand K_M_laysLand = true := by decide +kernel
def K_M_isGuard : List CE := [(0, .aload_n 0, 1, .inl ()), (1, .getfield 213, 3, .inr (.inl (12, 18))), (4, .ifCond .eq 19, 3, .inr (.inr (.inr 23))), (7, .iload_n 1, 1, .inl ()), (8, .ifCond .lt 15, 3, .inr (.inr (.inr 23))), (11, .iload_n 1, 1, .inl ()), (12, .aload_n 0, 1, .inl ()), (13, .getfield 220, 3, .inr (.inl (12, 19))), (16, .if_icmp .ge 7, 3, .inr (.inr (.inr 23))), (19, .iconst 1, 1, .inl ()), (20, .goto 4, 3, .inr (.inr (.inr 24))), (23, .iconst 0, 1, .inl ()), (24, .ireturn, 1, .inl ())]
theorem ok_M_isGuard : okM H_M_isGuard K_M_isGuard = true := by decide +kernel
def K_M_isSign : List CE := [(0, .aload_n 0, 1, .inl ()), (1, .getfield 213, 3, .inr (.inl (12, 18))), (4, .ifCond .eq 19, 3, .inr (.inr (.inr 23))), (7, .iload_n 1, 1, .inl ()), (8, .ifCond .lt 15, 3, .inr (.inr (.inr 23))), (11, .iload_n 1, 1, .inl ()), (12, .aload_n 0, 1, .inl ()), (13, .getfield 226, 3, .inr (.inl (12, 20))), (16, .if_icmp .ge 7, 3, .inr (.inr (.inr 23))), (19, .iconst 1, 1, .inl ()), (20, .goto 4, 3, .inr (.inr (.inr 24))), (23, .iconst 0, 1, .inl ()), (24, .ireturn, 1, .inl ())]
theorem ok_M_isSign : okM H_M_isSign K_M_isSign = true := by decide +kernel
def K_M_isPart : List CE := [(0, .iload_n 0, 1, .inl ()), (1, .ifCond .lt 12, 3, .inr (.inr (.inr 13))), (4, .iload_n 0, 1, .inl ()), (5, .iload_n 1, 1, .inl ()), (6, .if_icmp .gt 7, 3, .inr (.inr (.inr 13))), (9, .iconst 1, 1, .inl ()), (10, .goto 4, 3, .inr (.inr (.inr 14))), (13, .iconst 0, 1, .inl ()), (14, .ireturn, 1, .inl ())]
theorem ok_M_isPart : okM H_M_isPart K_M_isPart = true := by decide +kernel
def K_M_sign : List CE := [(0, .aload_n 0, 1, .inl ()), (1, .iconst 0, 1, .inl ()), (2, .putfield 1, 3, .inr (.inl (12, 0))), (5, .aload_n 0, 1, .inl ()), (6, .iload_n 1, 1, .inl ()), (7, .invokevirtual 244, 3, .inr (.inr (.inr 167))), (10, .ifCond .eq 11, 3, .inr (.inr (.inr 21))), (13, .iload_n 2, 1, .inl ()), (14, .iconst 3, 1, .inl ()), (15, .invokestatic 247, 3, .inr (.inr (.inr 168))), (18, .ifCond .ne 10, 3, .inr (.inr (.inr 28))), (21, .aload_n 0, 1, .inl ()), (22, .iconst 1, 1, .inl ()), (23, .putfield 1, 3, .inr (.inl (12, 0))), (26, .iconst 0, 1, .inl ()), (27, .ireturn, 1, .inl ()), (28, .iload_n 2, 1, .inl ()), (29, .ifCond .ne 12, 3, .inr (.inr (.inr 41))), (32, .aload_n 0, 1, .inl ()), (33, .getfield 41, 3, .inr (.inl (12, 26))), (36, .iload_n 1, 1, .inl ()), (37, .iaload, 1, .inl ()), (38, .goto 37, 3, .inr (.inr (.inr 75))), (41, .iload_n 2, 1, .inl ()), (42, .iconst 1, 1, .inl ()), (43, .if_icmp .ne 12, 3, .inr (.inr (.inr 55))), (46, .aload_n 0, 1, .inl ()), (47, .getfield 44, 3, .inr (.inl (12, 27))), (50, .iload_n 1, 1, .inl ()), (51, .iaload, 1, .inl ()), (52, .goto 23, 3, .inr (.inr (.inr 75))), (55, .iload_n 2, 1, .inl ()), (56, .iconst 2, 1, .inl ()), (57, .if_icmp .ne 12, 3, .inr (.inr (.inr 69))), (60, .aload_n 0, 1, .inl ()), (61, .getfield 47, 3, .inr (.inl (12, 28))), (64, .iload_n 1, 1, .inl ()), (65, .iaload, 1, .inl ()), (66, .goto 9, 3, .inr (.inr (.inr 75))), (69, .aload_n 0, 1, .inl ()), (70, .getfield 50, 3, .inr (.inl (12, 29))), (73, .iload_n 1, 1, .inl ()), (74, .iaload, 1, .inl ()), (75, .ireturn, 1, .inl ())]
theorem ok_M_sign : okM H_M_sign K_M_sign = true := by decide +kernel
def K_M_guard : List CE := [(0, .aload_n 0, 1, .inl ()), (1, .iconst 0, 1, .inl ()), (2, .putfield 1, 3, .inr (.inl (12, 0))), (5, .aload_n 0, 1, .inl ()), (6, .iload_n 1, 1, .inl ()), (7, .invokevirtual 250, 3, .inr (.inr (.inr 166))), (10, .ifCond .eq 11, 3, .inr (.inr (.inr 21))), (13, .iload_n 2, 1, .inl ()), (14, .iconst 2, 1, .inl ()), (15, .invokestatic 247, 3, .inr (.inr (.inr 168))), (18, .ifCond .ne 5, 3, .inr (.inr (.inr 23))), (21, .iconst (-1), 1, .inl ()), (22, .ireturn, 1, .inl ()), (23, .iload_n 2, 1, .inl ()), (24, .ifCond .ne 12, 3, .inr (.inr (.inr 36))), (27, .aload_n 0, 1, .inl ()), (28, .getfield 32, 3, .inr (.inl (12, 23))), (31, .iload_n 1, 1, .inl ()), (32, .iaload, 1, .inl ()), (33, .goto 23, 3, .inr (.inr (.inr 56))), (36, .iload_n 2, 1, .inl ()), (37, .iconst 1, 1, .inl ()), (38, .if_icmp .ne 12, 3, .inr (.inr (.inr 50))), (41, .aload_n 0, 1, .inl ()), (42, .getfield 35, 3, .inr (.inl (12, 24))), (45, .iload_n 1, 1, .inl ()), (46, .iaload, 1, .inl ()), (47, .goto 9, 3, .inr (.inr (.inr 56))), (50, .aload_n 0, 1, .inl ()), (51, .getfield 38, 3, .inr (.inl (12, 25))), (54, .iload_n 1, 1, .inl ()), (55, .iaload, 1, .inl ()), (56, .ireturn, 1, .inl ())]
theorem ok_M_guard : okM H_M_guard K_M_guard = true := by decide +kernel
def K_M_hears : List CE := [(0, .aload_n 0, 1, .inl ()), (1, .iconst 0, 1, .inl ()), (2, .putfield 1, 3, .inr (.inl (12, 0))), (5, .aload_n 0, 1, .inl ()), (6, .iload_n 1, 1, .inl ()), (7, .invokevirtual 250, 3, .inr (.inr (.inr 166))), (10, .ifCond .eq 24, 3, .inr (.inr (.inr 34))), (13, .aload_n 0, 1, .inl ()), (14, .iload_n 2, 1, .inl ()), (15, .invokevirtual 244, 3, .inr (.inr (.inr 167))), (18, .ifCond .eq 16, 3, .inr (.inr (.inr 34))), (21, .aload_n 0, 1, .inl ()), (22, .getfield 53, 3, .inr (.inl (12, 30))), (25, .iconst 5, 1, .inl ()), (26, .iload_n 1, 1, .inl ()), (27, .imul, 1, .inl ()), (28, .iload_n 2, 1, .inl ()), (29, .iadd, 1, .inl ()), (30, .iaload, 1, .inl ()), (31, .goto 4, 3, .inr (.inr (.inr 35))), (34, .iconst (-1), 1, .inl ()), (35, .ireturn, 1, .inl ())]
theorem ok_M_hears : okM H_M_hears K_M_hears = true := by decide +kernel
def K_M_plan : List CE := [(0, .aload_n 0, 1, .inl ()), (1, .iconst 0, 1, .inl ()), (2, .putfield 1, 3, .inr (.inl (12, 0))), (5, .aload_n 0, 1, .inl ()), (6, .iload_n 1, 1, .inl ()), (7, .invokevirtual 250, 3, .inr (.inr (.inr 166))), (10, .ifCond .eq 16, 3, .inr (.inr (.inr 26))), (13, .iload_n 2, 1, .inl ()), (14, .iconst (-1), 1, .inl ()), (15, .if_icmp .lt 11, 3, .inr (.inr (.inr 26))), (18, .iload_n 2, 1, .inl ()), (19, .aload_n 0, 1, .inl ()), (20, .getfield 223, 3, .inr (.inl (12, 31))), (23, .if_icmp .lt 5, 3, .inr (.inr (.inr 28))), (26, .iconst 0, 1, .inl ()), (27, .ireturn, 1, .inl ()), (28, .aload_n 0, 1, .inl ()), (29, .getfield 38, 3, .inr (.inl (12, 25))), (32, .iload_n 1, 1, .inl ()), (33, .iload_n 2, 1, .inl ()), (34, .iastore, 1, .inl ()), (35, .iconst 1, 1, .inl ()), (36, .ireturn, 1, .inl ())]
theorem ok_M_plan : okM H_M_plan K_M_plan = true := by decide +kernel
def K_M_asTold_0 : List CE := [(0, .iconst 0, 1, .inl ()), (1, .istore_n 1, 1, .inl ()), (2, .iload_n 1, 1, .inl ()), (3, .aload_n 0, 1, .inl ()), (4, .getfield 226, 3, .inr (.inl (12, 20))), (7, .if_icmp .ge 33, 3, .inr (.inr (.inr 40))), (10, .aload_n 0, 1, .inl ()), (11, .getfield 62, 3, .inr (.inl (12, 34))), (14, .iload_n 1, 1, .inl ()), (15, .aload_n 0, 1, .inl ()), (16, .getfield 41, 3, .inr (.inl (12, 26))), (19, .iload_n 1, 1, .inl ()), (20, .iaload, 1, .inl ()), (21, .iastore, 1, .inl ()), (22, .aload_n 0, 1, .inl ()), (23, .getfield 65, 3, .inr (.inl (12, 35))), (26, .iload_n 1, 1, .inl ()), (27, .aload_n 0, 1, .inl ()), (28, .getfield 44, 3, .inr (.inl (12, 27))), (31, .iload_n 1, 1, .inl ()), (32, .iaload, 1, .inl ()), (33, .iastore, 1, .inl ()), (34, .iinc 1 1, 3, .inl ()), (37, .goto (-35), 3, .inr (.inr (.inr 2))), (40, .iconst 0, 1, .inl ()), (41, .istore_n 1, 1, .inl ()), (42, .iload_n 1, 1, .inl ()), (43, .bipush 20, 2, .inl ()), (45, .if_icmp .ge 21, 3, .inr (.inr (.inr 66))), (48, .aload_n 0, 1, .inl ()), (49, .getfield 68, 3, .inr (.inl (12, 36))), (52, .iload_n 1, 1, .inl ()), (53, .aload_n 0, 1, .inl ()), (54, .getfield 53, 3, .inr (.inl (12, 30))), (57, .iload_n 1, 1, .inl ()), (58, .iaload, 1, .inl ()), (59, .iastore, 1, .inl ()), (60, .iinc 1 1, 3, .inl ()), (63, .goto (-21), 3, .inr (.inr (.inr 42))), (66, .iconst 0, 1, .inl ()), (67, .istore_n 1, 1, .inl ()), (68, .iload_n 1, 1, .inl ()), (69, .iconst 4, 1, .inl ()), (70, .if_icmp .ge 33, 3, .inr (.inr (.inr 103))), (73, .aload_n 0, 1, .inl ()), (74, .getfield 71, 3, .inr (.inl (12, 37))), (77, .iload_n 1, 1, .inl ()), (78, .iload_n 1, 1, .inl ()), (79, .aload_n 0, 1, .inl ()), (80, .getfield 220, 3, .inr (.inl (12, 19)))]
def K_M_asTold_1 : List CE := [(83, .if_icmp .ge 12, 3, .inr (.inr (.inr 95))), (86, .aload_n 0, 1, .inl ()), (87, .getfield 38, 3, .inr (.inl (12, 25))), (90, .iload_n 1, 1, .inl ()), (91, .iaload, 1, .inl ()), (92, .goto 4, 3, .inr (.inr (.inr 96))), (95, .iconst (-1), 1, .inl ()), (96, .iastore, 1, .inl ()), (97, .iinc 1 1, 3, .inl ()), (100, .goto (-32), 3, .inr (.inr (.inr 68))), (103, .aload_n 0, 1, .inl ()), (104, .iconst 0, 1, .inl ()), (105, .putfield 253, 3, .inr (.inl (12, 38))), (108, .return_, 1, .inl ())]
def K_M_asTold : List CE := K_M_asTold_0 ++ (K_M_asTold_1)
theorem ok_M_asTold : okM H_M_asTold K_M_asTold = true := by decide +kernel
def K_M_allWays : List CE := [(0, .iconst 1, 1, .inl ()), (1, .istore_n 1, 1, .inl ()), (2, .iconst 0, 1, .inl ()), (3, .istore_n 2, 1, .inl ()), (4, .iload_n 2, 1, .inl ()), (5, .aload_n 0, 1, .inl ()), (6, .getfield 226, 3, .inr (.inl (12, 20))), (9, .if_icmp .ge 22, 3, .inr (.inr (.inr 31))), (12, .iload_n 1, 1, .inl ()), (13, .iconst 2, 1, .inl ()), (14, .aload_n 0, 1, .inl ()), (15, .getfield 65, 3, .inr (.inl (12, 35))), (18, .iload_n 2, 1, .inl ()), (19, .iaload, 1, .inl ()), (20, .imul, 1, .inl ()), (21, .iconst 1, 1, .inl ()), (22, .iadd, 1, .inl ()), (23, .imul, 1, .inl ()), (24, .istore_n 1, 1, .inl ()), (25, .iinc 2 1, 3, .inl ()), (28, .goto (-24), 3, .inr (.inr (.inr 4))), (31, .iload_n 1, 1, .inl ()), (32, .ireturn, 1, .inl ())]
theorem ok_M_allWays : okM H_M_allWays K_M_allWays = true := by decide +kernel
def K_M_firstWay : List CE := [(0, .iconst 0, 1, .inl ()), (1, .istore_n 1, 1, .inl ()), (2, .iload_n 1, 1, .inl ()), (3, .aload_n 0, 1, .inl ()), (4, .getfield 226, 3, .inr (.inl (12, 20))), (7, .if_icmp .ge 22, 3, .inr (.inr (.inr 29))), (10, .aload_n 0, 1, .inl ()), (11, .getfield 74, 3, .inr (.inl (12, 39))), (14, .iload_n 1, 1, .inl ()), (15, .aload_n 0, 1, .inl ()), (16, .getfield 65, 3, .inr (.inl (12, 35))), (19, .iload_n 1, 1, .inl ()), (20, .iaload, 1, .inl ()), (21, .ineg, 1, .inl ()), (22, .iastore, 1, .inl ()), (23, .iinc 1 1, 3, .inl ()), (26, .goto (-24), 3, .inr (.inr (.inr 2))), (29, .aload_n 0, 1, .inl ()), (30, .invokevirtual 256, 3, .inr (.inr (.inr 178))), (33, .return_, 1, .inl ())]
theorem ok_M_firstWay : okM H_M_firstWay K_M_firstWay = true := by decide +kernel
def K_M_nextWay : List CE := [(0, .aload_n 0, 1, .inl ()), (1, .getfield 226, 3, .inr (.inl (12, 20))), (4, .iconst 1, 1, .inl ()), (5, .isub, 1, .inl ()), (6, .istore_n 1, 1, .inl ()), (7, .iload_n 1, 1, .inl ()), (8, .ifCond .lt 37, 3, .inr (.inr (.inr 45))), (11, .aload_n 0, 1, .inl ()), (12, .getfield 74, 3, .inr (.inl (12, 39))), (15, .iload_n 1, 1, .inl ()), (16, .iaload, 1, .inl ()), (17, .aload_n 0, 1, .inl ()), (18, .getfield 65, 3, .inr (.inl (12, 35))), (21, .iload_n 1, 1, .inl ()), (22, .iaload, 1, .inl ()), (23, .if_icmp .ne 22, 3, .inr (.inr (.inr 45))), (26, .aload_n 0, 1, .inl ()), (27, .getfield 74, 3, .inr (.inl (12, 39))), (30, .iload_n 1, 1, .inl ()), (31, .aload_n 0, 1, .inl ()), (32, .getfield 65, 3, .inr (.inl (12, 35))), (35, .iload_n 1, 1, .inl ()), (36, .iaload, 1, .inl ()), (37, .ineg, 1, .inl ()), (38, .iastore, 1, .inl ()), (39, .iinc 1 (-1), 3, .inl ()), (42, .goto (-35), 3, .inr (.inr (.inr 7))), (45, .iload_n 1, 1, .inl ()), (46, .ifCond .ge 5, 3, .inr (.inr (.inr 51))), (49, .iconst 0, 1, .inl ()), (50, .ireturn, 1, .inl ()), (51, .aload_n 0, 1, .inl ()), (52, .getfield 74, 3, .inr (.inl (12, 39))), (55, .iload_n 1, 1, .inl ()), (56, .dup2, 1, .inl ()), (57, .iaload, 1, .inl ()), (58, .iconst 1, 1, .inl ()), (59, .iadd, 1, .inl ()), (60, .iastore, 1, .inl ()), (61, .aload_n 0, 1, .inl ()), (62, .invokevirtual 256, 3, .inr (.inr (.inr 178))), (65, .iconst 1, 1, .inl ()), (66, .ireturn, 1, .inl ())]
theorem ok_M_nextWay : okM H_M_nextWay K_M_nextWay = true := by decide +kernel
def K_M_heardAt : List CE := [(0, .aload_n 0, 1, .inl ()), (1, .getfield 68, 3, .inr (.inl (12, 36))), (4, .iconst 5, 1, .inl ()), (5, .iload_n 1, 1, .inl ()), (6, .imul, 1, .inl ()), (7, .iload_n 2, 1, .inl ()), (8, .iadd, 1, .inl ()), (9, .iaload, 1, .inl ()), (10, .istore_n 3, 1, .inl ()), (11, .iload_n 3, 1, .inl ()), (12, .ifCond .lt 15, 3, .inr (.inr (.inr 27))), (15, .aload_n 0, 1, .inl ()), (16, .getfield 77, 3, .inr (.inl (12, 40))), (19, .iload_n 2, 1, .inl ()), (20, .iaload, 1, .inl ()), (21, .ldc_w 259, 3, .inr (.inr (.inl (1000000)))), (24, .if_icmp .ne 9, 3, .inr (.inr (.inr 33))), (27, .ldc_w 259, 3, .inr (.inr (.inl (1000000)))), (30, .goto 11, 3, .inr (.inr (.inr 41))), (33, .aload_n 0, 1, .inl ()), (34, .getfield 77, 3, .inr (.inl (12, 40))), (37, .iload_n 2, 1, .inl ()), (38, .iaload, 1, .inl ()), (39, .iload_n 3, 1, .inl ()), (40, .iadd, 1, .inl ()), (41, .ireturn, 1, .inl ())]
theorem ok_M_heardAt : okM H_M_heardAt K_M_heardAt = true := by decide +kernel
def K_M_goes_0 : List CE := [(0, .iconst 0, 1, .inl ()), (1, .istore_n 1, 1, .inl ()), (2, .iload_n 1, 1, .inl ()), (3, .aload_n 0, 1, .inl ()), (4, .getfield 226, 3, .inr (.inl (12, 20))), (7, .if_icmp .ge 85, 3, .inr (.inr (.inr 92))), (10, .aload_n 0, 1, .inl ()), (11, .getfield 47, 3, .inr (.inl (12, 28))), (14, .iload_n 1, 1, .inl ()), (15, .iaload, 1, .inl ()), (16, .ifCond .ge 7, 3, .inr (.inr (.inr 23))), (19, .iconst 0, 1, .inl ()), (20, .goto 19, 3, .inr (.inr (.inr 39))), (23, .aload_n 0, 1, .inl ()), (24, .aload_n 0, 1, .inl ()), (25, .getfield 50, 3, .inr (.inl (12, 29))), (28, .iload_n 1, 1, .inl ()), (29, .iaload, 1, .inl ()), (30, .aload_n 0, 1, .inl ()), (31, .getfield 47, 3, .inr (.inl (12, 28))), (34, .iload_n 1, 1, .inl ()), (35, .iaload, 1, .inl ()), (36, .invokevirtual 260, 3, .inr (.inr (.inr 177))), (39, .istore_n 2, 1, .inl ()), (40, .aload_n 0, 1, .inl ()), (41, .getfield 77, 3, .inr (.inl (12, 40))), (44, .iload_n 1, 1, .inl ()), (45, .iload_n 2, 1, .inl ()), (46, .ldc_w 259, 3, .inr (.inr (.inl (1000000)))), (49, .if_icmp .eq 15, 3, .inr (.inr (.inr 64))), (52, .aload_n 0, 1, .inl ()), (53, .getfield 253, 3, .inr (.inl (12, 38))), (56, .iload_n 1, 1, .inl ()), (57, .ishr, 1, .inl ()), (58, .iconst 1, 1, .inl ()), (59, .iand, 1, .inl ()), (60, .iconst 1, 1, .inl ()), (61, .if_icmp .ne 9, 3, .inr (.inr (.inr 70))), (64, .ldc_w 259, 3, .inr (.inr (.inl (1000000)))), (67, .goto 18, 3, .inr (.inr (.inr 85))), (70, .iload_n 2, 1, .inl ()), (71, .aload_n 0, 1, .inl ()), (72, .getfield 62, 3, .inr (.inl (12, 34))), (75, .iload_n 1, 1, .inl ()), (76, .iaload, 1, .inl ()), (77, .iadd, 1, .inl ()), (78, .aload_n 0, 1, .inl ()), (79, .getfield 74, 3, .inr (.inl (12, 39))), (82, .iload_n 1, 1, .inl ()), (83, .iaload, 1, .inl ())]
def K_M_goes_1 : List CE := [(84, .iadd, 1, .inl ()), (85, .iastore, 1, .inl ()), (86, .iinc 1 1, 3, .inl ()), (89, .goto (-87), 3, .inr (.inr (.inr 2))), (92, .iconst 0, 1, .inl ()), (93, .istore_n 1, 1, .inl ()), (94, .iload_n 1, 1, .inl ()), (95, .aload_n 0, 1, .inl ()), (96, .getfield 220, 3, .inr (.inl (12, 19))), (99, .if_icmp .ge 41, 3, .inr (.inr (.inr 140))), (102, .aload_n 0, 1, .inl ()), (103, .getfield 80, 3, .inr (.inl (12, 41))), (106, .iload_n 1, 1, .inl ()), (107, .aload_n 0, 1, .inl ()), (108, .getfield 71, 3, .inr (.inl (12, 37))), (111, .iload_n 1, 1, .inl ()), (112, .iaload, 1, .inl ()), (113, .ifCond .ge 9, 3, .inr (.inr (.inr 122))), (116, .ldc_w 259, 3, .inr (.inr (.inl (1000000)))), (119, .goto 14, 3, .inr (.inr (.inr 133))), (122, .aload_n 0, 1, .inl ()), (123, .iload_n 1, 1, .inl ()), (124, .aload_n 0, 1, .inl ()), (125, .getfield 71, 3, .inr (.inl (12, 37))), (128, .iload_n 1, 1, .inl ()), (129, .iaload, 1, .inl ()), (130, .invokevirtual 263, 3, .inr (.inr (.inr 179))), (133, .iastore, 1, .inl ()), (134, .iinc 1 1, 3, .inl ()), (137, .goto (-43), 3, .inr (.inr (.inr 94))), (140, .return_, 1, .inl ())]
def K_M_goes : List CE := K_M_goes_0 ++ (K_M_goes_1)
theorem ok_M_goes : okM H_M_goes K_M_goes = true := by decide +kernel
def K_M_byPlan_0 : List CE := [(0, .iconst 0, 1, .inl ()), (1, .istore_n 3, 1, .inl ()), (2, .sipush 160, 3, .inl ()), (5, .iload_n 2, 1, .inl ()), (6, .imul, 1, .inl ()), (7, .istore 4, 2, .inl ()), (9, .iload 4, 2, .inl ()), (11, .sipush 160, 3, .inl ()), (14, .iload_n 2, 1, .inl ()), (15, .imul, 1, .inl ()), (16, .aload_n 0, 1, .inl ()), (17, .getfield 59, 3, .inr (.inl (12, 33))), (20, .iload_n 2, 1, .inl ()), (21, .iaload, 1, .inl ()), (22, .iadd, 1, .inl ()), (23, .if_icmp .ge 164, 3, .inr (.inr (.inr 187))), (26, .aload_n 0, 1, .inl ()), (27, .getfield 56, 3, .inr (.inl (12, 32))), (30, .iload 4, 2, .inl ()), (32, .iaload, 1, .inl ()), (33, .istore 5, 2, .inl ()), (35, .iload 5, 2, .inl ()), (37, .ifCond .lt 68, 3, .inr (.inr (.inr 105))), (40, .iload 5, 2, .inl ()), (42, .bipush 100, 2, .inl ()), (44, .idiv, 1, .inl ()), (45, .istore 6, 2, .inl ()), (47, .iload 6, 2, .inl ()), (49, .aload_n 0, 1, .inl ()), (50, .getfield 226, 3, .inr (.inl (12, 20))), (53, .if_icmp .ge 13, 3, .inr (.inr (.inr 66))), (56, .aload_n 0, 1, .inl ()), (57, .iload_n 1, 1, .inl ()), (58, .iload 6, 2, .inl ()), (60, .invokevirtual 260, 3, .inr (.inr (.inr 177))), (63, .goto 6, 3, .inr (.inr (.inr 69))), (66, .ldc_w 259, 3, .inr (.inr (.inl (1000000)))), (69, .istore 7, 2, .inl ()), (71, .aload_n 0, 1, .inl ()), (72, .getfield 83, 3, .inr (.inl (12, 42))), (75, .iload_n 3, 1, .inl ()), (76, .iload 7, 2, .inl ()), (78, .ldc_w 259, 3, .inr (.inr (.inl (1000000)))), (81, .if_icmp .ne 9, 3, .inr (.inr (.inr 90))), (84, .ldc_w 259, 3, .inr (.inr (.inl (1000000)))), (87, .goto 11, 3, .inr (.inr (.inr 98))), (90, .iload 7, 2, .inl ()), (92, .iload 5, 2, .inl ()), (94, .bipush 100, 2, .inl ()), (96, .irem, 1, .inl ())]
def K_M_byPlan_1 : List CE := [(97, .iadd, 1, .inl ()), (98, .iastore, 1, .inl ()), (99, .iinc 3 1, 3, .inl ()), (102, .goto 79, 3, .inr (.inr (.inr 181))), (105, .iinc 3 (-1), 3, .inl ()), (108, .aload_n 0, 1, .inl ()), (109, .getfield 83, 3, .inr (.inl (12, 42))), (112, .iload_n 3, 1, .inl ()), (113, .iconst 1, 1, .inl ()), (114, .isub, 1, .inl ()), (115, .iaload, 1, .inl ()), (116, .istore 6, 2, .inl ()), (118, .aload_n 0, 1, .inl ()), (119, .getfield 83, 3, .inr (.inl (12, 42))), (122, .iload_n 3, 1, .inl ()), (123, .iaload, 1, .inl ()), (124, .istore 7, 2, .inl ()), (126, .iload 5, 2, .inl ()), (128, .iconst (-1), 1, .inl ()), (129, .if_icmp .ne 18, 3, .inr (.inr (.inr 147))), (132, .iload 6, 2, .inl ()), (134, .iload 7, 2, .inl ()), (136, .if_icmp .lt 7, 3, .inr (.inr (.inr 143))), (139, .iconst 1, 1, .inl ()), (140, .goto 19, 3, .inr (.inr (.inr 159))), (143, .iconst 0, 1, .inl ()), (144, .goto 15, 3, .inr (.inr (.inr 159))), (147, .iload 6, 2, .inl ()), (149, .iload 7, 2, .inl ()), (151, .if_icmp .gt 7, 3, .inr (.inr (.inr 158))), (154, .iconst 1, 1, .inl ()), (155, .goto 4, 3, .inr (.inr (.inr 159))), (158, .iconst 0, 1, .inl ()), (159, .istore 8, 2, .inl ()), (161, .aload_n 0, 1, .inl ()), (162, .getfield 83, 3, .inr (.inl (12, 42))), (165, .iload_n 3, 1, .inl ()), (166, .iconst 1, 1, .inl ()), (167, .isub, 1, .inl ()), (168, .iload 8, 2, .inl ()), (170, .ifCond .eq 8, 3, .inr (.inr (.inr 178))), (173, .iload 6, 2, .inl ()), (175, .goto 5, 3, .inr (.inr (.inr 180))), (178, .iload 7, 2, .inl ()), (180, .iastore, 1, .inl ()), (181, .iinc 4 1, 3, .inl ()), (184, .goto (-175), 3, .inr (.inr (.inr 9))), (187, .aload_n 0, 1, .inl ()), (188, .getfield 83, 3, .inr (.inl (12, 42))), (191, .iconst 0, 1, .inl ())]
def K_M_byPlan_2 : List CE := [(192, .iaload, 1, .inl ()), (193, .ireturn, 1, .inl ())]
def K_M_byPlan : List CE := K_M_byPlan_0 ++ (K_M_byPlan_1 ++ (K_M_byPlan_2))
theorem ok_M_byPlan : okM H_M_byPlan K_M_byPlan = true := by decide +kernel
def K_M_apart : List CE := [(0, .aload_n 0, 1, .inl ()), (1, .invokevirtual 266, 3, .inr (.inr (.inr 181))), (4, .ldc_w 259, 3, .inr (.inr (.inl (1000000)))), (7, .istore_n 1, 1, .inl ()), (8, .aload_n 0, 1, .inl ()), (9, .getfield 229, 3, .inr (.inl (12, 21))), (12, .iconst 1, 1, .inl ()), (13, .isub, 1, .inl ()), (14, .istore_n 2, 1, .inl ()), (15, .iload_n 2, 1, .inl ()), (16, .aload_n 0, 1, .inl ()), (17, .getfield 220, 3, .inr (.inl (12, 19))), (20, .if_icmp .ge 52, 3, .inr (.inr (.inr 72))), (23, .aload_n 0, 1, .inl ()), (24, .getfield 86, 3, .inr (.inl (12, 43))), (27, .iload_n 2, 1, .inl ()), (28, .iaload, 1, .inl ()), (29, .ldc_w 259, 3, .inr (.inr (.inl (1000000)))), (32, .if_icmp .ne 6, 3, .inr (.inr (.inr 38))), (35, .goto 37, 3, .inr (.inr (.inr 72))), (38, .aload_n 0, 1, .inl ()), (39, .getfield 86, 3, .inr (.inl (12, 43))), (42, .iload_n 2, 1, .inl ()), (43, .iaload, 1, .inl ()), (44, .aload_n 0, 1, .inl ()), (45, .getfield 86, 3, .inr (.inl (12, 43))), (48, .iload_n 2, 1, .inl ()), (49, .aload_n 0, 1, .inl ()), (50, .getfield 229, 3, .inr (.inl (12, 21))), (53, .isub, 1, .inl ()), (54, .iconst 1, 1, .inl ()), (55, .iadd, 1, .inl ()), (56, .iaload, 1, .inl ()), (57, .isub, 1, .inl ()), (58, .istore_n 3, 1, .inl ()), (59, .iload_n 3, 1, .inl ()), (60, .iload_n 1, 1, .inl ()), (61, .if_icmp .ge 5, 3, .inr (.inr (.inr 66))), (64, .iload_n 3, 1, .inl ()), (65, .istore_n 1, 1, .inl ()), (66, .iinc 2 1, 3, .inl ()), (69, .goto (-54), 3, .inr (.inr (.inr 15))), (72, .iload_n 1, 1, .inl ()), (73, .ireturn, 1, .inl ())]
theorem ok_M_apart : okM H_M_apart K_M_apart = true := by decide +kernel
def K_M_sorts : List CE := [(0, .iconst 0, 1, .inl ()), (1, .istore_n 1, 1, .inl ()), (2, .iload_n 1, 1, .inl ()), (3, .aload_n 0, 1, .inl ()), (4, .getfield 220, 3, .inr (.inl (12, 19))), (7, .if_icmp .ge 61, 3, .inr (.inr (.inr 68))), (10, .aload_n 0, 1, .inl ()), (11, .getfield 80, 3, .inr (.inl (12, 41))), (14, .iload_n 1, 1, .inl ()), (15, .iaload, 1, .inl ()), (16, .istore_n 2, 1, .inl ()), (17, .iload_n 1, 1, .inl ()), (18, .istore_n 3, 1, .inl ()), (19, .iload_n 3, 1, .inl ()), (20, .ifCond .le 35, 3, .inr (.inr (.inr 55))), (23, .aload_n 0, 1, .inl ()), (24, .getfield 86, 3, .inr (.inl (12, 43))), (27, .iload_n 3, 1, .inl ()), (28, .iconst 1, 1, .inl ()), (29, .isub, 1, .inl ()), (30, .iaload, 1, .inl ()), (31, .iload_n 2, 1, .inl ()), (32, .if_icmp .le 23, 3, .inr (.inr (.inr 55))), (35, .aload_n 0, 1, .inl ()), (36, .getfield 86, 3, .inr (.inl (12, 43))), (39, .iload_n 3, 1, .inl ()), (40, .aload_n 0, 1, .inl ()), (41, .getfield 86, 3, .inr (.inl (12, 43))), (44, .iload_n 3, 1, .inl ()), (45, .iconst 1, 1, .inl ()), (46, .isub, 1, .inl ()), (47, .iaload, 1, .inl ()), (48, .iastore, 1, .inl ()), (49, .iinc 3 (-1), 3, .inl ()), (52, .goto (-33), 3, .inr (.inr (.inr 19))), (55, .aload_n 0, 1, .inl ()), (56, .getfield 86, 3, .inr (.inl (12, 43))), (59, .iload_n 3, 1, .inl ()), (60, .iload_n 2, 1, .inl ()), (61, .iastore, 1, .inl ()), (62, .iinc 1 1, 3, .inl ()), (65, .goto (-63), 3, .inr (.inr (.inr 2))), (68, .return_, 1, .inl ())]
theorem ok_M_sorts : okM H_M_sorts K_M_sorts = true := by decide +kernel
def K_M_doesOpen : List CE := [(0, .aload_n 0, 1, .inl ()), (1, .invokevirtual 269, 3, .inr (.inr (.inr 180))), (4, .aload_n 0, 1, .inl ()), (5, .getfield 232, 3, .inr (.inl (12, 22))), (8, .if_icmp .gt 7, 3, .inr (.inr (.inr 15))), (11, .iconst 1, 1, .inl ()), (12, .goto 4, 3, .inr (.inr (.inr 16))), (15, .iconst 0, 1, .inl ()), (16, .ireturn, 1, .inl ())]
theorem ok_M_doesOpen : okM H_M_doesOpen K_M_doesOpen = true := by decide +kernel
def K_M_openings : List CE := [(0, .iconst 0, 1, .inl ()), (1, .istore_n 1, 1, .inl ()), (2, .aload_n 0, 1, .inl ()), (3, .invokevirtual 272, 3, .inr (.inr (.inr 175))), (6, .aload_n 0, 1, .inl ()), (7, .invokevirtual 275, 3, .inr (.inr (.inr 182))), (10, .ifCond .eq 6, 3, .inr (.inr (.inr 16))), (13, .iinc 1 1, 3, .inl ()), (16, .aload_n 0, 1, .inl ()), (17, .invokevirtual 278, 3, .inr (.inr (.inr 176))), (20, .ifCond .ne (-14), 3, .inr (.inr (.inr 6))), (23, .iload_n 1, 1, .inl ()), (24, .ireturn, 1, .inl ())]
theorem ok_M_openings : okM H_M_openings K_M_openings = true := by decide +kernel
def K_M_divisor : List CE := [(0, .iload_n 0, 1, .inl ()), (1, .istore_n 2, 1, .inl ()), (2, .iload_n 1, 1, .inl ()), (3, .istore_n 3, 1, .inl ()), (4, .iload_n 3, 1, .inl ()), (5, .ifCond .eq 16, 3, .inr (.inr (.inr 21))), (8, .iload_n 2, 1, .inl ()), (9, .iload_n 3, 1, .inl ()), (10, .irem, 1, .inl ()), (11, .istore 4, 2, .inl ()), (13, .iload_n 3, 1, .inl ()), (14, .istore_n 2, 1, .inl ()), (15, .iload 4, 2, .inl ()), (17, .istore_n 3, 1, .inl ()), (18, .goto (-14), 3, .inr (.inr (.inr 4))), (21, .iload_n 2, 1, .inl ()), (22, .ireturn, 1, .inl ())]
theorem ok_M_divisor : okM H_M_divisor K_M_divisor = true := by decide +kernel
def K_M_ways : List CE := [(0, .aload_n 0, 1, .inl ()), (1, .iconst 0, 1, .inl ()), (2, .putfield 1, 3, .inr (.inl (12, 0))), (5, .aload_n 0, 1, .inl ()), (6, .getfield 213, 3, .inr (.inl (12, 18))), (9, .ifCond .eq 11, 3, .inr (.inr (.inr 20))), (12, .iload_n 1, 1, .inl ()), (13, .iconst 1, 1, .inl ()), (14, .invokestatic 247, 3, .inr (.inr (.inr 168))), (17, .ifCond .ne 5, 3, .inr (.inr (.inr 22))), (20, .iconst (-1), 1, .inl ()), (21, .ireturn, 1, .inl ()), (22, .aload_n 0, 1, .inl ()), (23, .invokevirtual 281, 3, .inr (.inr (.inr 173))), (26, .iload_n 1, 1, .inl ()), (27, .iconst 1, 1, .inl ()), (28, .if_icmp .ne 10, 3, .inr (.inr (.inr 38))), (31, .aload_n 0, 1, .inl ()), (32, .invokevirtual 284, 3, .inr (.inr (.inr 174))), (35, .goto 7, 3, .inr (.inr (.inr 42))), (38, .aload_n 0, 1, .inl ()), (39, .invokevirtual 287, 3, .inr (.inr (.inr 183))), (42, .ireturn, 1, .inl ())]
theorem ok_M_ways : okM H_M_ways K_M_ways = true := by decide +kernel
def K_M_odds : List CE := [(0, .aload_n 0, 1, .inl ()), (1, .iconst 0, 1, .inl ()), (2, .putfield 1, 3, .inr (.inl (12, 0))), (5, .aload_n 0, 1, .inl ()), (6, .getfield 213, 3, .inr (.inl (12, 18))), (9, .ifCond .eq 11, 3, .inr (.inr (.inr 20))), (12, .iload_n 1, 1, .inl ()), (13, .iconst 1, 1, .inl ()), (14, .invokestatic 247, 3, .inr (.inr (.inr 168))), (17, .ifCond .ne 5, 3, .inr (.inr (.inr 22))), (20, .iconst (-1), 1, .inl ()), (21, .ireturn, 1, .inl ()), (22, .aload_n 0, 1, .inl ()), (23, .invokevirtual 281, 3, .inr (.inr (.inr 173))), (26, .aload_n 0, 1, .inl ()), (27, .invokevirtual 284, 3, .inr (.inr (.inr 174))), (30, .istore_n 2, 1, .inl ()), (31, .aload_n 0, 1, .inl ()), (32, .invokevirtual 287, 3, .inr (.inr (.inr 183))), (35, .istore_n 3, 1, .inl ()), (36, .iload_n 2, 1, .inl ()), (37, .iload_n 3, 1, .inl ()), (38, .invokestatic 290, 3, .inr (.inr (.inr 184))), (41, .istore 4, 2, .inl ()), (43, .iload_n 1, 1, .inl ()), (44, .ifCond .ne 10, 3, .inr (.inr (.inr 54))), (47, .iload_n 3, 1, .inl ()), (48, .iload 4, 2, .inl ()), (50, .idiv, 1, .inl ()), (51, .goto 7, 3, .inr (.inr (.inr 58))), (54, .iload_n 2, 1, .inl ()), (55, .iload 4, 2, .inl ()), (57, .idiv, 1, .inl ()), (58, .ireturn, 1, .inl ())]
theorem ok_M_odds : okM H_M_odds K_M_odds = true := by decide +kernel
def K_M_laysWay_0 : List CE := [(0, .aload_n 0, 1, .inl ()), (1, .getfield 213, 3, .inr (.inl (12, 18))), (4, .ifCond .eq 7, 3, .inr (.inr (.inr 11))), (7, .iload_n 1, 1, .inl ()), (8, .ifCond .ge 5, 3, .inr (.inr (.inr 13))), (11, .iconst 0, 1, .inl ()), (12, .ireturn, 1, .inl ()), (13, .aload_n 0, 1, .inl ()), (14, .invokevirtual 281, 3, .inr (.inr (.inr 173))), (17, .iload_n 1, 1, .inl ()), (18, .istore_n 2, 1, .inl ()), (19, .aload_n 0, 1, .inl ()), (20, .getfield 226, 3, .inr (.inl (12, 20))), (23, .iconst 1, 1, .inl ()), (24, .isub, 1, .inl ()), (25, .istore_n 3, 1, .inl ()), (26, .iload_n 3, 1, .inl ()), (27, .ifCond .lt 59, 3, .inr (.inr (.inr 86))), (30, .aload_n 0, 1, .inl ()), (31, .getfield 74, 3, .inr (.inl (12, 39))), (34, .iload_n 3, 1, .inl ()), (35, .iload_n 2, 1, .inl ()), (36, .bipush 10, 2, .inl ()), (38, .irem, 1, .inl ()), (39, .iconst 3, 1, .inl ()), (40, .isub, 1, .inl ()), (41, .iastore, 1, .inl ()), (42, .iload_n 2, 1, .inl ()), (43, .bipush 10, 2, .inl ()), (45, .idiv, 1, .inl ()), (46, .istore_n 2, 1, .inl ()), (47, .aload_n 0, 1, .inl ()), (48, .getfield 74, 3, .inr (.inl (12, 39))), (51, .iload_n 3, 1, .inl ()), (52, .iaload, 1, .inl ()), (53, .aload_n 0, 1, .inl ()), (54, .getfield 44, 3, .inr (.inl (12, 27))), (57, .iload_n 3, 1, .inl ()), (58, .iaload, 1, .inl ()), (59, .if_icmp .gt 19, 3, .inr (.inr (.inr 78))), (62, .aload_n 0, 1, .inl ()), (63, .getfield 74, 3, .inr (.inl (12, 39))), (66, .iload_n 3, 1, .inl ()), (67, .iaload, 1, .inl ()), (68, .aload_n 0, 1, .inl ()), (69, .getfield 44, 3, .inr (.inl (12, 27))), (72, .iload_n 3, 1, .inl ()), (73, .iaload, 1, .inl ()), (74, .ineg, 1, .inl ()), (75, .if_icmp .ge 5, 3, .inr (.inr (.inr 80)))]
def K_M_laysWay_1 : List CE := [(78, .iconst 0, 1, .inl ()), (79, .ireturn, 1, .inl ()), (80, .iinc 3 (-1), 3, .inl ()), (83, .goto (-57), 3, .inr (.inr (.inr 26))), (86, .iload_n 2, 1, .inl ()), (87, .ifCond .le 5, 3, .inr (.inr (.inr 92))), (90, .iconst 0, 1, .inl ()), (91, .ireturn, 1, .inl ()), (92, .aload_n 0, 1, .inl ()), (93, .invokevirtual 256, 3, .inr (.inr (.inr 178))), (96, .iconst 1, 1, .inl ()), (97, .ireturn, 1, .inl ())]
end
section
def K_M_laysWay : List CE := K_M_laysWay_0 ++ (K_M_laysWay_1)
theorem ok_M_laysWay : okM H_M_laysWay K_M_laysWay = true := by decide +kernel
def K_M_turnsAt : List CE := [(0, .aload_n 0, 1, .inl ()), (1, .iconst 0, 1, .inl ()), (2, .putfield 1, 3, .inr (.inl (12, 0))), (5, .aload_n 0, 1, .inl ()), (6, .iload_n 2, 1, .inl ()), (7, .invokevirtual 250, 3, .inr (.inr (.inr 166))), (10, .ifCond .eq 23, 3, .inr (.inr (.inr 33))), (13, .aload_n 0, 1, .inl ()), (14, .iload_n 1, 1, .inl ()), (15, .invokevirtual 293, 3, .inr (.inr (.inr 187))), (18, .ifCond .eq 15, 3, .inr (.inr (.inr 33))), (21, .aload_n 0, 1, .inl ()), (22, .getfield 80, 3, .inr (.inl (12, 41))), (25, .iload_n 2, 1, .inl ()), (26, .iaload, 1, .inl ()), (27, .ldc_w 259, 3, .inr (.inr (.inl (1000000)))), (30, .if_icmp .ne 7, 3, .inr (.inr (.inr 37))), (33, .ldc_w 296, 3, .inr (.inr (.inl (-1000000)))), (36, .ireturn, 1, .inl ()), (37, .aload_n 0, 1, .inl ()), (38, .getfield 80, 3, .inr (.inl (12, 41))), (41, .iload_n 2, 1, .inl ()), (42, .iaload, 1, .inl ()), (43, .ireturn, 1, .inl ())]
theorem ok_M_turnsAt : okM H_M_turnsAt K_M_turnsAt = true := by decide +kernel
def K_M_opens : List CE := [(0, .aload_n 0, 1, .inl ()), (1, .iconst 0, 1, .inl ()), (2, .putfield 1, 3, .inr (.inl (12, 0))), (5, .aload_n 0, 1, .inl ()), (6, .iload_n 1, 1, .inl ()), (7, .invokevirtual 293, 3, .inr (.inr (.inr 187))), (10, .ifCond .ne 5, 3, .inr (.inr (.inr 15))), (13, .iconst (-1), 1, .inl ()), (14, .ireturn, 1, .inl ()), (15, .aload_n 0, 1, .inl ()), (16, .invokevirtual 275, 3, .inr (.inr (.inr 182))), (19, .ifCond .eq 7, 3, .inr (.inr (.inr 26))), (22, .iconst 1, 1, .inl ()), (23, .goto 4, 3, .inr (.inr (.inr 27))), (26, .iconst 0, 1, .inl ()), (27, .ireturn, 1, .inl ())]
theorem ok_M_opens : okM H_M_opens K_M_opens = true := by decide +kernel
def K_M_when_0 : List CE := [(0, .aload_n 0, 1, .inl ()), (1, .iconst 0, 1, .inl ()), (2, .putfield 1, 3, .inr (.inl (12, 0))), (5, .aload_n 0, 1, .inl ()), (6, .iload_n 1, 1, .inl ()), (7, .invokevirtual 250, 3, .inr (.inr (.inr 166))), (10, .ifCond .eq 11, 3, .inr (.inr (.inr 21))), (13, .iload_n 2, 1, .inl ()), (14, .iconst 2, 1, .inl ()), (15, .invokestatic 247, 3, .inr (.inr (.inr 168))), (18, .ifCond .ne 7, 3, .inr (.inr (.inr 25))), (21, .ldc_w 296, 3, .inr (.inr (.inl (-1000000)))), (24, .ireturn, 1, .inl ()), (25, .aload_n 0, 1, .inl ()), (26, .invokevirtual 281, 3, .inr (.inr (.inr 173))), (29, .ldc_w 259, 3, .inr (.inr (.inl (1000000)))), (32, .istore_n 3, 1, .inl ()), (33, .ldc_w 296, 3, .inr (.inr (.inl (-1000000)))), (36, .istore 4, 2, .inl ()), (38, .iconst 0, 1, .inl ()), (39, .istore 5, 2, .inl ()), (41, .aload_n 0, 1, .inl ()), (42, .invokevirtual 272, 3, .inr (.inr (.inr 175))), (45, .aload_n 0, 1, .inl ()), (46, .getfield 80, 3, .inr (.inl (12, 41))), (49, .iload_n 1, 1, .inl ()), (50, .iaload, 1, .inl ()), (51, .istore 6, 2, .inl ()), (53, .iload 6, 2, .inl ()), (55, .ldc_w 259, 3, .inr (.inr (.inl (1000000)))), (58, .if_icmp .ne 9, 3, .inr (.inr (.inr 67))), (61, .iinc 5 1, 3, .inl ()), (64, .goto 14, 3, .inr (.inr (.inr 78))), (67, .iload 6, 2, .inl ()), (69, .iload 4, 2, .inl ()), (71, .if_icmp .le 7, 3, .inr (.inr (.inr 78))), (74, .iload 6, 2, .inl ()), (76, .istore 4, 2, .inl ()), (78, .iload 6, 2, .inl ()), (80, .iload_n 3, 1, .inl ()), (81, .if_icmp .ge 6, 3, .inr (.inr (.inr 87))), (84, .iload 6, 2, .inl ()), (86, .istore_n 3, 1, .inl ()), (87, .aload_n 0, 1, .inl ()), (88, .invokevirtual 278, 3, .inr (.inr (.inr 176))), (91, .ifCond .ne (-46), 3, .inr (.inr (.inr 45))), (94, .iload_n 2, 1, .inl ()), (95, .ifCond .ne 20, 3, .inr (.inr (.inr 115))), (98, .iload_n 3, 1, .inl ()), (99, .ldc_w 259, 3, .inr (.inr (.inl (1000000))))]
def K_M_when_1 : List CE := [(102, .if_icmp .ne 9, 3, .inr (.inr (.inr 111))), (105, .ldc_w 296, 3, .inr (.inr (.inl (-1000000)))), (108, .goto 19, 3, .inr (.inr (.inr 127))), (111, .iload_n 3, 1, .inl ()), (112, .goto 15, 3, .inr (.inr (.inr 127))), (115, .iload_n 2, 1, .inl ()), (116, .iconst 1, 1, .inl ()), (117, .if_icmp .ne 8, 3, .inr (.inr (.inr 125))), (120, .iload 4, 2, .inl ()), (122, .goto 5, 3, .inr (.inr (.inr 127))), (125, .iload 5, 2, .inl ()), (127, .ireturn, 1, .inl ())]
def K_M_when : List CE := K_M_when_0 ++ (K_M_when_1)
theorem ok_M_when : okM H_M_when K_M_when = true := by decide +kernel
def K_M_near : List CE := [(0, .aload_n 0, 1, .inl ()), (1, .iconst 0, 1, .inl ()), (2, .putfield 1, 3, .inr (.inl (12, 0))), (5, .aload_n 0, 1, .inl ()), (6, .getfield 213, 3, .inr (.inl (12, 18))), (9, .ifCond .eq 11, 3, .inr (.inr (.inr 20))), (12, .iload_n 1, 1, .inl ()), (13, .iconst 1, 1, .inl ()), (14, .invokestatic 247, 3, .inr (.inr (.inr 168))), (17, .ifCond .ne 5, 3, .inr (.inr (.inr 22))), (20, .iconst (-1), 1, .inl ()), (21, .ireturn, 1, .inl ()), (22, .aload_n 0, 1, .inl ()), (23, .invokevirtual 281, 3, .inr (.inr (.inr 173))), (26, .ldc_w 259, 3, .inr (.inr (.inl (1000000)))), (29, .istore_n 2, 1, .inl ()), (30, .iconst (-1), 1, .inl ()), (31, .istore_n 3, 1, .inl ()), (32, .aload_n 0, 1, .inl ()), (33, .invokevirtual 272, 3, .inr (.inr (.inr 175))), (36, .aload_n 0, 1, .inl ()), (37, .invokevirtual 269, 3, .inr (.inr (.inr 180))), (40, .istore 4, 2, .inl ()), (42, .iload 4, 2, .inl ()), (44, .iload_n 2, 1, .inl ()), (45, .if_icmp .ge 6, 3, .inr (.inr (.inr 51))), (48, .iload 4, 2, .inl ()), (50, .istore_n 2, 1, .inl ()), (51, .iload 4, 2, .inl ()), (53, .ldc_w 259, 3, .inr (.inr (.inl (1000000)))), (56, .if_icmp .eq 12, 3, .inr (.inr (.inr 68))), (59, .iload 4, 2, .inl ()), (61, .iload_n 3, 1, .inl ()), (62, .if_icmp .le 6, 3, .inr (.inr (.inr 68))), (65, .iload 4, 2, .inl ()), (67, .istore_n 3, 1, .inl ()), (68, .aload_n 0, 1, .inl ()), (69, .invokevirtual 278, 3, .inr (.inr (.inr 176))), (72, .ifCond .ne (-36), 3, .inr (.inr (.inr 36))), (75, .iload_n 1, 1, .inl ()), (76, .iconst 1, 1, .inl ()), (77, .if_icmp .ne 7, 3, .inr (.inr (.inr 84))), (80, .iload_n 3, 1, .inl ()), (81, .goto 15, 3, .inr (.inr (.inr 96))), (84, .iload_n 2, 1, .inl ()), (85, .ldc_w 259, 3, .inr (.inr (.inl (1000000)))), (88, .if_icmp .ne 7, 3, .inr (.inr (.inr 95))), (91, .iconst (-1), 1, .inl ()), (92, .goto 4, 3, .inr (.inr (.inr 96))), (95, .iload_n 2, 1, .inl ()), (96, .ireturn, 1, .inl ())]
theorem ok_M_near : okM H_M_near K_M_near = true := by decide +kernel
def K_M_enough : List CE := [(0, .aload_n 0, 1, .inl ()), (1, .iconst 0, 1, .inl ()), (2, .putfield 1, 3, .inr (.inl (12, 0))), (5, .aload_n 0, 1, .inl ()), (6, .getfield 213, 3, .inr (.inl (12, 18))), (9, .ifCond .ne 5, 3, .inr (.inr (.inr 14))), (12, .iconst (-1), 1, .inl ()), (13, .ireturn, 1, .inl ()), (14, .aload_n 0, 1, .inl ()), (15, .invokevirtual 281, 3, .inr (.inr (.inr 173))), (18, .iconst 0, 1, .inl ()), (19, .istore_n 1, 1, .inl ()), (20, .aload_n 0, 1, .inl ()), (21, .invokevirtual 272, 3, .inr (.inr (.inr 175))), (24, .aload_n 0, 1, .inl ()), (25, .invokevirtual 269, 3, .inr (.inr (.inr 180))), (28, .istore_n 2, 1, .inl ()), (29, .iload_n 2, 1, .inl ()), (30, .iload_n 1, 1, .inl ()), (31, .if_icmp .le 5, 3, .inr (.inr (.inr 36))), (34, .iload_n 2, 1, .inl ()), (35, .istore_n 1, 1, .inl ()), (36, .aload_n 0, 1, .inl ()), (37, .invokevirtual 278, 3, .inr (.inr (.inr 176))), (40, .ifCond .ne (-16), 3, .inr (.inr (.inr 24))), (43, .iload_n 1, 1, .inl ()), (44, .bipush 99, 2, .inl ()), (46, .if_icmp .le 7, 3, .inr (.inr (.inr 53))), (49, .iconst (-1), 1, .inl ()), (50, .goto 4, 3, .inr (.inr (.inr 54))), (53, .iload_n 1, 1, .inl ()), (54, .ireturn, 1, .inl ())]
theorem ok_M_enough : okM H_M_enough K_M_enough = true := by decide +kernel
def K_M_firstMost : List CE := [(0, .iconst 0, 1, .inl ()), (1, .istore_n 1, 1, .inl ()), (2, .iconst 1, 1, .inl ()), (3, .istore_n 2, 1, .inl ()), (4, .iload_n 2, 1, .inl ()), (5, .bipush 10, 2, .inl ()), (7, .aload_n 0, 1, .inl ()), (8, .getfield 226, 3, .inr (.inl (12, 20))), (11, .imul, 1, .inl ()), (12, .if_icmp .ge 26, 3, .inr (.inr (.inr 38))), (15, .aload_n 0, 1, .inl ()), (16, .getfield 89, 3, .inr (.inl (12, 44))), (19, .iload_n 2, 1, .inl ()), (20, .iaload, 1, .inl ()), (21, .aload_n 0, 1, .inl ()), (22, .getfield 89, 3, .inr (.inl (12, 44))), (25, .iload_n 1, 1, .inl ()), (26, .iaload, 1, .inl ()), (27, .if_icmp .le 5, 3, .inr (.inr (.inr 32))), (30, .iload_n 2, 1, .inl ()), (31, .istore_n 1, 1, .inl ()), (32, .iinc 2 1, 3, .inl ()), (35, .goto (-31), 3, .inr (.inr (.inr 4))), (38, .iload_n 1, 1, .inl ()), (39, .ireturn, 1, .inl ())]
theorem ok_M_firstMost : okM H_M_firstMost K_M_firstMost = true := by decide +kernel
def K_M_talliesOne_0 : List CE := [(0, .iconst 0, 1, .inl ()), (1, .istore_n 3, 1, .inl ()), (2, .iload_n 3, 1, .inl ()), (3, .bipush 50, 2, .inl ()), (5, .if_icmp .ge 16, 3, .inr (.inr (.inr 21))), (8, .aload_n 0, 1, .inl ()), (9, .getfield 89, 3, .inr (.inl (12, 44))), (12, .iload_n 3, 1, .inl ()), (13, .iconst 0, 1, .inl ()), (14, .iastore, 1, .inl ()), (15, .iinc 3 1, 3, .inl ()), (18, .goto (-16), 3, .inr (.inr (.inr 2))), (21, .aload_n 0, 1, .inl ()), (22, .invokevirtual 272, 3, .inr (.inr (.inr 175))), (25, .aload_n 0, 1, .inl ()), (26, .getfield 80, 3, .inr (.inl (12, 41))), (29, .iload_n 1, 1, .inl ()), (30, .iaload, 1, .inl ()), (31, .istore_n 3, 1, .inl ()), (32, .iconst 0, 1, .inl ()), (33, .istore 4, 2, .inl ()), (35, .iload 4, 2, .inl ()), (37, .aload_n 0, 1, .inl ()), (38, .getfield 226, 3, .inr (.inl (12, 20))), (41, .if_icmp .ge 97, 3, .inr (.inr (.inr 138))), (44, .iload_n 2, 1, .inl ()), (45, .ifCond .eq 13, 3, .inr (.inr (.inr 58))), (48, .aload_n 0, 1, .inl ()), (49, .getfield 77, 3, .inr (.inl (12, 40))), (52, .iload 4, 2, .inl ()), (54, .iaload, 1, .inl ()), (55, .goto 10, 3, .inr (.inr (.inr 65))), (58, .aload_n 0, 1, .inl ()), (59, .iload_n 1, 1, .inl ()), (60, .iload 4, 2, .inl ()), (62, .invokevirtual 260, 3, .inr (.inr (.inr 177))), (65, .istore 5, 2, .inl ()), (67, .iconst 0, 1, .inl ()), (68, .istore 6, 2, .inl ()), (70, .iload 6, 2, .inl ()), (72, .bipush 10, 2, .inl ()), (74, .if_icmp .ge 58, 3, .inr (.inr (.inr 132))), (77, .aload_n 0, 1, .inl ()), (78, .getfield 80, 3, .inr (.inl (12, 41))), (81, .iload_n 1, 1, .inl ()), (82, .iload 5, 2, .inl ()), (84, .ldc_w 259, 3, .inr (.inr (.inl (1000000)))), (87, .if_icmp .ne 9, 3, .inr (.inr (.inr 96))), (90, .ldc_w 259, 3, .inr (.inr (.inl (1000000)))), (93, .goto 8, 3, .inr (.inr (.inr 101)))]
def K_M_talliesOne_1 : List CE := [(96, .iload 5, 2, .inl ()), (98, .iload 6, 2, .inl ()), (100, .iadd, 1, .inl ()), (101, .iastore, 1, .inl ()), (102, .aload_n 0, 1, .inl ()), (103, .invokevirtual 275, 3, .inr (.inr (.inr 182))), (106, .ifCond .eq 20, 3, .inr (.inr (.inr 126))), (109, .aload_n 0, 1, .inl ()), (110, .getfield 89, 3, .inr (.inl (12, 44))), (113, .bipush 10, 2, .inl ()), (115, .iload 4, 2, .inl ()), (117, .imul, 1, .inl ()), (118, .iload 6, 2, .inl ()), (120, .iadd, 1, .inl ()), (121, .dup2, 1, .inl ()), (122, .iaload, 1, .inl ()), (123, .iconst 1, 1, .inl ()), (124, .iadd, 1, .inl ()), (125, .iastore, 1, .inl ()), (126, .iinc 6 1, 3, .inl ()), (129, .goto (-59), 3, .inr (.inr (.inr 70))), (132, .iinc 4 1, 3, .inl ()), (135, .goto (-100), 3, .inr (.inr (.inr 35))), (138, .aload_n 0, 1, .inl ()), (139, .getfield 80, 3, .inr (.inl (12, 41))), (142, .iload_n 1, 1, .inl ()), (143, .iload_n 3, 1, .inl ()), (144, .iastore, 1, .inl ()), (145, .aload_n 0, 1, .inl ()), (146, .invokevirtual 278, 3, .inr (.inr (.inr 176))), (149, .ifCond .ne (-124), 3, .inr (.inr (.inr 25))), (152, .return_, 1, .inl ())]
def K_M_talliesOne : List CE := K_M_talliesOne_0 ++ (K_M_talliesOne_1)
theorem ok_M_talliesOne : okM H_M_talliesOne K_M_talliesOne = true := by decide +kernel
def K_M_best : List CE := [(0, .aload_n 0, 1, .inl ()), (1, .iconst 0, 1, .inl ()), (2, .putfield 1, 3, .inr (.inl (12, 0))), (5, .aload_n 0, 1, .inl ()), (6, .iload_n 1, 1, .inl ()), (7, .invokevirtual 250, 3, .inr (.inr (.inr 166))), (10, .ifCond .eq 11, 3, .inr (.inr (.inr 21))), (13, .iload_n 2, 1, .inl ()), (14, .iconst 1, 1, .inl ()), (15, .invokestatic 247, 3, .inr (.inr (.inr 168))), (18, .ifCond .ne 5, 3, .inr (.inr (.inr 23))), (21, .iconst (-1), 1, .inl ()), (22, .ireturn, 1, .inl ()), (23, .aload_n 0, 1, .inl ()), (24, .invokevirtual 281, 3, .inr (.inr (.inr 173))), (27, .aload_n 0, 1, .inl ()), (28, .iload_n 1, 1, .inl ()), (29, .iconst 0, 1, .inl ()), (30, .invokevirtual 297, 3, .inr (.inr (.inr 194))), (33, .aload_n 0, 1, .inl ()), (34, .invokevirtual 301, 3, .inr (.inr (.inr 193))), (37, .istore_n 3, 1, .inl ()), (38, .iload_n 2, 1, .inl ()), (39, .ifCond .ne 7, 3, .inr (.inr (.inr 46))), (42, .iload_n 3, 1, .inl ()), (43, .goto 9, 3, .inr (.inr (.inr 52))), (46, .aload_n 0, 1, .inl ()), (47, .getfield 89, 3, .inr (.inl (12, 44))), (50, .iload_n 3, 1, .inl ()), (51, .iaload, 1, .inl ()), (52, .ireturn, 1, .inl ())]
theorem ok_M_best : okM H_M_best K_M_best = true := by decide +kernel
def K_M_thief : List CE := [(0, .aload_n 0, 1, .inl ()), (1, .iconst 0, 1, .inl ()), (2, .putfield 1, 3, .inr (.inl (12, 0))), (5, .aload_n 0, 1, .inl ()), (6, .iload_n 1, 1, .inl ()), (7, .invokevirtual 250, 3, .inr (.inr (.inr 166))), (10, .ifCond .eq 11, 3, .inr (.inr (.inr 21))), (13, .iload_n 2, 1, .inl ()), (14, .iconst 1, 1, .inl ()), (15, .invokestatic 247, 3, .inr (.inr (.inr 168))), (18, .ifCond .ne 5, 3, .inr (.inr (.inr 23))), (21, .iconst (-1), 1, .inl ()), (22, .ireturn, 1, .inl ()), (23, .aload_n 0, 1, .inl ()), (24, .invokevirtual 281, 3, .inr (.inr (.inr 173))), (27, .aload_n 0, 1, .inl ()), (28, .iload_n 1, 1, .inl ()), (29, .iconst 1, 1, .inl ()), (30, .invokevirtual 297, 3, .inr (.inr (.inr 194))), (33, .aload_n 0, 1, .inl ()), (34, .invokevirtual 301, 3, .inr (.inr (.inr 193))), (37, .istore_n 3, 1, .inl ()), (38, .iload_n 2, 1, .inl ()), (39, .ifCond .ne 7, 3, .inr (.inr (.inr 46))), (42, .iload_n 3, 1, .inl ()), (43, .goto 9, 3, .inr (.inr (.inr 52))), (46, .aload_n 0, 1, .inl ()), (47, .getfield 89, 3, .inr (.inl (12, 44))), (50, .iload_n 3, 1, .inl ()), (51, .iaload, 1, .inl ()), (52, .ireturn, 1, .inl ())]
theorem ok_M_thief : okM H_M_thief K_M_thief = true := by decide +kernel
def K_M_isPair : List CE := [(0, .aload_n 0, 1, .inl ()), (1, .iload_n 1, 1, .inl ()), (2, .invokevirtual 250, 3, .inr (.inr (.inr 166))), (5, .ifCond .eq 16, 3, .inr (.inr (.inr 21))), (8, .aload_n 0, 1, .inl ()), (9, .iload_n 2, 1, .inl ()), (10, .invokevirtual 250, 3, .inr (.inr (.inr 166))), (13, .ifCond .eq 8, 3, .inr (.inr (.inr 21))), (16, .iload_n 1, 1, .inl ()), (17, .iload_n 2, 1, .inl ()), (18, .if_icmp .ne 5, 3, .inr (.inr (.inr 23))), (21, .iconst 0, 1, .inl ()), (22, .ireturn, 1, .inl ()), (23, .aload_n 0, 1, .inl ()), (24, .invokevirtual 281, 3, .inr (.inr (.inr 173))), (27, .aload_n 0, 1, .inl ()), (28, .invokevirtual 284, 3, .inr (.inr (.inr 174))), (31, .sipush 400, 3, .inl ()), (34, .if_icmp .gt 7, 3, .inr (.inr (.inr 41))), (37, .iconst 1, 1, .inl ()), (38, .goto 4, 3, .inr (.inr (.inr 42))), (41, .iconst 0, 1, .inl ()), (42, .ireturn, 1, .inl ())]
theorem ok_M_isPair : okM H_M_isPair K_M_isPair = true := by decide +kernel
def K_M_talliesPairs_0 : List CE := [(0, .iconst 0, 1, .inl ()), (1, .istore_n 3, 1, .inl ()), (2, .iload_n 3, 1, .inl ()), (3, .sipush 2500, 3, .inl ()), (6, .if_icmp .ge 30, 3, .inr (.inr (.inr 36))), (9, .aload_n 0, 1, .inl ()), (10, .getfield 92, 3, .inr (.inl (12, 45))), (13, .iload_n 3, 1, .inl ()), (14, .iconst 0, 1, .inl ()), (15, .iastore, 1, .inl ()), (16, .aload_n 0, 1, .inl ()), (17, .getfield 95, 3, .inr (.inl (12, 46))), (20, .iload_n 3, 1, .inl ()), (21, .iconst 0, 1, .inl ()), (22, .iastore, 1, .inl ()), (23, .aload_n 0, 1, .inl ()), (24, .getfield 98, 3, .inr (.inl (12, 47))), (27, .iload_n 3, 1, .inl ()), (28, .iconst 0, 1, .inl ()), (29, .iastore, 1, .inl ()), (30, .iinc 3 1, 3, .inl ()), (33, .goto (-31), 3, .inr (.inr (.inr 2))), (36, .aload_n 0, 1, .inl ()), (37, .invokevirtual 272, 3, .inr (.inr (.inr 175))), (40, .iconst 0, 1, .inl ()), (41, .istore_n 3, 1, .inl ()), (42, .iload_n 3, 1, .inl ()), (43, .bipush 10, 2, .inl ()), (45, .aload_n 0, 1, .inl ()), (46, .getfield 226, 3, .inr (.inl (12, 20))), (49, .imul, 1, .inl ()), (50, .if_icmp .ge 220, 3, .inr (.inr (.inr 270))), (53, .aload_n 0, 1, .inl ()), (54, .iload_n 1, 1, .inl ()), (55, .iload_n 3, 1, .inl ()), (56, .bipush 10, 2, .inl ()), (58, .idiv, 1, .inl ()), (59, .invokevirtual 260, 3, .inr (.inr (.inr 177))), (62, .istore 4, 2, .inl ()), (64, .aload_n 0, 1, .inl ()), (65, .getfield 80, 3, .inr (.inl (12, 41))), (68, .iload_n 1, 1, .inl ()), (69, .iload 4, 2, .inl ()), (71, .ldc_w 259, 3, .inr (.inr (.inl (1000000)))), (74, .if_icmp .ne 9, 3, .inr (.inr (.inr 83))), (77, .ldc_w 259, 3, .inr (.inr (.inl (1000000)))), (80, .goto 10, 3, .inr (.inr (.inr 90))), (83, .iload 4, 2, .inl ()), (85, .iload_n 3, 1, .inl ()), (86, .bipush 10, 2, .inl ())]
def K_M_talliesPairs_1 : List CE := [(88, .irem, 1, .inl ()), (89, .iadd, 1, .inl ()), (90, .iastore, 1, .inl ()), (91, .iconst 0, 1, .inl ()), (92, .istore 5, 2, .inl ()), (94, .iload 5, 2, .inl ()), (96, .bipush 10, 2, .inl ()), (98, .aload_n 0, 1, .inl ()), (99, .getfield 226, 3, .inr (.inl (12, 20))), (102, .imul, 1, .inl ()), (103, .if_icmp .ge 161, 3, .inr (.inr (.inr 264))), (106, .aload_n 0, 1, .inl ()), (107, .iload_n 2, 1, .inl ()), (108, .iload 5, 2, .inl ()), (110, .bipush 10, 2, .inl ()), (112, .idiv, 1, .inl ()), (113, .invokevirtual 260, 3, .inr (.inr (.inr 177))), (116, .istore 6, 2, .inl ()), (118, .aload_n 0, 1, .inl ()), (119, .getfield 80, 3, .inr (.inl (12, 41))), (122, .iload_n 2, 1, .inl ()), (123, .iload 6, 2, .inl ()), (125, .ldc_w 259, 3, .inr (.inr (.inl (1000000)))), (128, .if_icmp .ne 9, 3, .inr (.inr (.inr 137))), (131, .ldc_w 259, 3, .inr (.inr (.inl (1000000)))), (134, .goto 11, 3, .inr (.inr (.inr 145))), (137, .iload 6, 2, .inl ()), (139, .iload 5, 2, .inl ()), (141, .bipush 10, 2, .inl ()), (143, .irem, 1, .inl ()), (144, .iadd, 1, .inl ()), (145, .iastore, 1, .inl ()), (146, .bipush 50, 2, .inl ()), (148, .iload_n 3, 1, .inl ()), (149, .imul, 1, .inl ()), (150, .iload 5, 2, .inl ()), (152, .iadd, 1, .inl ()), (153, .istore 7, 2, .inl ()), (155, .aload_n 0, 1, .inl ()), (156, .invokevirtual 275, 3, .inr (.inr (.inr 182))), (159, .ifCond .eq 49, 3, .inr (.inr (.inr 208))), (162, .aload_n 0, 1, .inl ()), (163, .getfield 92, 3, .inr (.inl (12, 45))), (166, .iload 7, 2, .inl ()), (168, .dup2, 1, .inl ()), (169, .iaload, 1, .inl ()), (170, .iconst 1, 1, .inl ()), (171, .iadd, 1, .inl ()), (172, .iastore, 1, .inl ()), (173, .aload_n 0, 1, .inl ())]
def K_M_talliesPairs_2 : List CE := [(174, .getfield 95, 3, .inr (.inl (12, 46))), (177, .iload 7, 2, .inl ()), (179, .dup2, 1, .inl ()), (180, .iaload, 1, .inl ()), (181, .aload_n 0, 1, .inl ()), (182, .getfield 32, 3, .inr (.inl (12, 23))), (185, .iload_n 1, 1, .inl ()), (186, .iaload, 1, .inl ()), (187, .iadd, 1, .inl ()), (188, .iastore, 1, .inl ()), (189, .aload_n 0, 1, .inl ()), (190, .getfield 98, 3, .inr (.inl (12, 47))), (193, .iload 7, 2, .inl ()), (195, .dup2, 1, .inl ()), (196, .iaload, 1, .inl ()), (197, .aload_n 0, 1, .inl ()), (198, .getfield 32, 3, .inr (.inl (12, 23))), (201, .iload_n 2, 1, .inl ()), (202, .iaload, 1, .inl ()), (203, .iadd, 1, .inl ()), (204, .iastore, 1, .inl ()), (205, .goto 53, 3, .inr (.inr (.inr 258))), (208, .aload_n 0, 1, .inl ()), (209, .invokevirtual 304, 3, .inr (.inr (.inr 199))), (212, .istore 8, 2, .inl ()), (214, .iload 8, 2, .inl ()), (216, .iload_n 1, 1, .inl ()), (217, .if_icmp .ne 19, 3, .inr (.inr (.inr 236))), (220, .aload_n 0, 1, .inl ()), (221, .getfield 95, 3, .inr (.inl (12, 46))), (224, .iload 7, 2, .inl ()), (226, .dup2, 1, .inl ()), (227, .iaload, 1, .inl ()), (228, .aload_n 0, 1, .inl ()), (229, .getfield 35, 3, .inr (.inl (12, 24))), (232, .iload_n 1, 1, .inl ()), (233, .iaload, 1, .inl ()), (234, .iadd, 1, .inl ()), (235, .iastore, 1, .inl ()), (236, .iload 8, 2, .inl ()), (238, .iload_n 2, 1, .inl ()), (239, .if_icmp .ne 19, 3, .inr (.inr (.inr 258))), (242, .aload_n 0, 1, .inl ()), (243, .getfield 98, 3, .inr (.inl (12, 47))), (246, .iload 7, 2, .inl ()), (248, .dup2, 1, .inl ()), (249, .iaload, 1, .inl ()), (250, .aload_n 0, 1, .inl ()), (251, .getfield 35, 3, .inr (.inl (12, 24))), (254, .iload_n 2, 1, .inl ())]
def K_M_talliesPairs_3 : List CE := [(255, .iaload, 1, .inl ()), (256, .iadd, 1, .inl ()), (257, .iastore, 1, .inl ()), (258, .iinc 5 1, 3, .inl ()), (261, .goto (-167), 3, .inr (.inr (.inr 94))), (264, .iinc 3 1, 3, .inl ()), (267, .goto (-225), 3, .inr (.inr (.inr 42))), (270, .aload_n 0, 1, .inl ()), (271, .invokevirtual 278, 3, .inr (.inr (.inr 176))), (274, .ifCond .ne (-234), 3, .inr (.inr (.inr 40))), (277, .return_, 1, .inl ())]
def K_M_talliesPairs : List CE := K_M_talliesPairs_0 ++ (K_M_talliesPairs_1 ++ (K_M_talliesPairs_2 ++ (K_M_talliesPairs_3)))
theorem ok_M_talliesPairs : okM H_M_talliesPairs K_M_talliesPairs = true := by decide +kernel
def K_M_firstToTurn : List CE := [(0, .iconst (-1), 1, .inl ()), (1, .istore_n 1, 1, .inl ()), (2, .iconst 0, 1, .inl ()), (3, .istore_n 2, 1, .inl ()), (4, .iload_n 2, 1, .inl ()), (5, .aload_n 0, 1, .inl ()), (6, .getfield 220, 3, .inr (.inl (12, 19))), (9, .if_icmp .ge 42, 3, .inr (.inr (.inr 51))), (12, .aload_n 0, 1, .inl ()), (13, .getfield 80, 3, .inr (.inl (12, 41))), (16, .iload_n 2, 1, .inl ()), (17, .iaload, 1, .inl ()), (18, .ldc_w 259, 3, .inr (.inr (.inl (1000000)))), (21, .if_icmp .eq 24, 3, .inr (.inr (.inr 45))), (24, .iload_n 1, 1, .inl ()), (25, .ifCond .lt 18, 3, .inr (.inr (.inr 43))), (28, .aload_n 0, 1, .inl ()), (29, .getfield 80, 3, .inr (.inl (12, 41))), (32, .iload_n 2, 1, .inl ()), (33, .iaload, 1, .inl ()), (34, .aload_n 0, 1, .inl ()), (35, .getfield 80, 3, .inr (.inl (12, 41))), (38, .iload_n 1, 1, .inl ()), (39, .iaload, 1, .inl ()), (40, .if_icmp .ge 5, 3, .inr (.inr (.inr 45))), (43, .iload_n 2, 1, .inl ()), (44, .istore_n 1, 1, .inl ()), (45, .iinc 2 1, 3, .inl ()), (48, .goto (-44), 3, .inr (.inr (.inr 4))), (51, .iload_n 1, 1, .inl ()), (52, .ireturn, 1, .inl ())]
theorem ok_M_firstToTurn : okM H_M_firstToTurn K_M_firstToTurn = true := by decide +kernel
def K_M_pair_0 : List CE := [(0, .aload_n 0, 1, .inl ()), (1, .iconst 0, 1, .inl ()), (2, .putfield 1, 3, .inr (.inl (12, 0))), (5, .iload_n 3, 1, .inl ()), (6, .iconst 1, 1, .inl ()), (7, .invokestatic 247, 3, .inr (.inr (.inr 168))), (10, .ifCond .eq 12, 3, .inr (.inr (.inr 22))), (13, .aload_n 0, 1, .inl ()), (14, .iload_n 1, 1, .inl ()), (15, .iload_n 2, 1, .inl ()), (16, .invokevirtual 307, 3, .inr (.inr (.inr 197))), (19, .ifCond .ne 5, 3, .inr (.inr (.inr 24))), (22, .iconst (-1), 1, .inl ()), (23, .ireturn, 1, .inl ()), (24, .aload_n 0, 1, .inl ()), (25, .iload_n 1, 1, .inl ()), (26, .iload_n 2, 1, .inl ()), (27, .invokevirtual 310, 3, .inr (.inr (.inr 198))), (30, .iconst 0, 1, .inl ()), (31, .istore 4, 2, .inl ()), (33, .iconst 0, 1, .inl ()), (34, .istore 5, 2, .inl ()), (36, .iload 5, 2, .inl ()), (38, .bipush 10, 2, .inl ()), (40, .aload_n 0, 1, .inl ()), (41, .getfield 226, 3, .inr (.inl (12, 20))), (44, .imul, 1, .inl ()), (45, .if_icmp .ge 63, 3, .inr (.inr (.inr 108))), (48, .iconst 0, 1, .inl ()), (49, .istore 6, 2, .inl ()), (51, .iload 6, 2, .inl ()), (53, .bipush 10, 2, .inl ()), (55, .aload_n 0, 1, .inl ()), (56, .getfield 226, 3, .inr (.inl (12, 20))), (59, .imul, 1, .inl ()), (60, .if_icmp .ge 42, 3, .inr (.inr (.inr 102))), (63, .aload_n 0, 1, .inl ()), (64, .getfield 92, 3, .inr (.inl (12, 45))), (67, .bipush 50, 2, .inl ()), (69, .iload 5, 2, .inl ()), (71, .imul, 1, .inl ()), (72, .iload 6, 2, .inl ()), (74, .iadd, 1, .inl ()), (75, .iaload, 1, .inl ()), (76, .aload_n 0, 1, .inl ()), (77, .getfield 92, 3, .inr (.inl (12, 45))), (80, .iload 4, 2, .inl ()), (82, .iaload, 1, .inl ()), (83, .if_icmp .le 13, 3, .inr (.inr (.inr 96))), (86, .bipush 50, 2, .inl ())]
def K_M_pair_1 : List CE := [(88, .iload 5, 2, .inl ()), (90, .imul, 1, .inl ()), (91, .iload 6, 2, .inl ()), (93, .iadd, 1, .inl ()), (94, .istore 4, 2, .inl ()), (96, .iinc 6 1, 3, .inl ()), (99, .goto (-48), 3, .inr (.inr (.inr 51))), (102, .iinc 5 1, 3, .inl ()), (105, .goto (-69), 3, .inr (.inr (.inr 36))), (108, .iload_n 3, 1, .inl ()), (109, .ifCond .ne 20, 3, .inr (.inr (.inr 129))), (112, .bipush 100, 2, .inl ()), (114, .iload 4, 2, .inl ()), (116, .bipush 50, 2, .inl ()), (118, .idiv, 1, .inl ()), (119, .imul, 1, .inl ()), (120, .iload 4, 2, .inl ()), (122, .bipush 50, 2, .inl ()), (124, .irem, 1, .inl ()), (125, .iadd, 1, .inl ()), (126, .goto 10, 3, .inr (.inr (.inr 136))), (129, .aload_n 0, 1, .inl ()), (130, .getfield 92, 3, .inr (.inl (12, 45))), (133, .iload 4, 2, .inl ()), (135, .iaload, 1, .inl ()), (136, .ireturn, 1, .inl ())]
def K_M_pair : List CE := K_M_pair_0 ++ (K_M_pair_1)
theorem ok_M_pair : okM H_M_pair K_M_pair = true := by decide +kernel
def K_M_sure : List CE := [(0, .aload_n 0, 1, .inl ()), (1, .iconst 0, 1, .inl ()), (2, .putfield 1, 3, .inr (.inl (12, 0))), (5, .aload_n 0, 1, .inl ()), (6, .iload_n 1, 1, .inl ()), (7, .iload_n 2, 1, .inl ()), (8, .invokevirtual 307, 3, .inr (.inr (.inr 197))), (11, .ifCond .ne 5, 3, .inr (.inr (.inr 16))), (14, .iconst (-1), 1, .inl ()), (15, .ireturn, 1, .inl ()), (16, .aload_n 0, 1, .inl ()), (17, .iload_n 1, 1, .inl ()), (18, .iload_n 2, 1, .inl ()), (19, .invokevirtual 310, 3, .inr (.inr (.inr 198))), (22, .aload_n 0, 1, .inl ()), (23, .invokevirtual 284, 3, .inr (.inr (.inr 174))), (26, .istore_n 3, 1, .inl ()), (27, .iconst 0, 1, .inl ()), (28, .istore 4, 2, .inl ()), (30, .iconst 0, 1, .inl ()), (31, .istore 5, 2, .inl ()), (33, .iload 5, 2, .inl ()), (35, .sipush 2500, 3, .inl ()), (38, .if_icmp .ge 23, 3, .inr (.inr (.inr 61))), (41, .aload_n 0, 1, .inl ()), (42, .getfield 92, 3, .inr (.inl (12, 45))), (45, .iload 5, 2, .inl ()), (47, .iaload, 1, .inl ()), (48, .iload_n 3, 1, .inl ()), (49, .if_icmp .ne 6, 3, .inr (.inr (.inr 55))), (52, .iinc 4 1, 3, .inl ()), (55, .iinc 5 1, 3, .inl ()), (58, .goto (-25), 3, .inr (.inr (.inr 33))), (61, .iload 4, 2, .inl ()), (63, .ireturn, 1, .inl ())]
theorem ok_M_sure : okM H_M_sure K_M_sure = true := by decide +kernel
def K_M_isRest : List CE := [(0, .iconst 0, 1, .inl ()), (1, .istore_n 3, 1, .inl ()), (2, .iload_n 3, 1, .inl ()), (3, .bipush 10, 2, .inl ()), (5, .aload_n 0, 1, .inl ()), (6, .getfield 226, 3, .inr (.inl (12, 20))), (9, .imul, 1, .inl ()), (10, .if_icmp .ge 61, 3, .inr (.inr (.inr 71))), (13, .aload_n 0, 1, .inl ()), (14, .getfield 95, 3, .inr (.inl (12, 46))), (17, .bipush 50, 2, .inl ()), (19, .iload_n 3, 1, .inl ()), (20, .imul, 1, .inl ()), (21, .iload_n 2, 1, .inl ()), (22, .iadd, 1, .inl ()), (23, .iaload, 1, .inl ()), (24, .aload_n 0, 1, .inl ()), (25, .getfield 95, 3, .inr (.inl (12, 46))), (28, .bipush 50, 2, .inl ()), (30, .iload_n 1, 1, .inl ()), (31, .imul, 1, .inl ()), (32, .iload_n 2, 1, .inl ()), (33, .iadd, 1, .inl ()), (34, .iaload, 1, .inl ()), (35, .if_icmp .gt 28, 3, .inr (.inr (.inr 63))), (38, .aload_n 0, 1, .inl ()), (39, .getfield 98, 3, .inr (.inl (12, 47))), (42, .bipush 50, 2, .inl ()), (44, .iload_n 1, 1, .inl ()), (45, .imul, 1, .inl ()), (46, .iload_n 3, 1, .inl ()), (47, .iadd, 1, .inl ()), (48, .iaload, 1, .inl ()), (49, .aload_n 0, 1, .inl ()), (50, .getfield 98, 3, .inr (.inl (12, 47))), (53, .bipush 50, 2, .inl ()), (55, .iload_n 1, 1, .inl ()), (56, .imul, 1, .inl ()), (57, .iload_n 2, 1, .inl ()), (58, .iadd, 1, .inl ()), (59, .iaload, 1, .inl ()), (60, .if_icmp .le 5, 3, .inr (.inr (.inr 65))), (63, .iconst 0, 1, .inl ()), (64, .ireturn, 1, .inl ()), (65, .iinc 3 1, 3, .inl ()), (68, .goto (-66), 3, .inr (.inr (.inr 2))), (71, .iconst 1, 1, .inl ()), (72, .ireturn, 1, .inl ())]
theorem ok_M_isRest : okM H_M_isRest K_M_isRest = true := by decide +kernel
def K_M_rest_0 : List CE := [(0, .aload_n 0, 1, .inl ()), (1, .iconst 0, 1, .inl ()), (2, .putfield 1, 3, .inr (.inl (12, 0))), (5, .iload_n 3, 1, .inl ()), (6, .iconst (-1), 1, .inl ()), (7, .if_icmp .lt 12, 3, .inr (.inr (.inr 19))), (10, .aload_n 0, 1, .inl ()), (11, .iload_n 1, 1, .inl ()), (12, .iload_n 2, 1, .inl ()), (13, .invokevirtual 307, 3, .inr (.inr (.inr 197))), (16, .ifCond .ne 5, 3, .inr (.inr (.inr 21))), (19, .iconst (-1), 1, .inl ()), (20, .ireturn, 1, .inl ()), (21, .aload_n 0, 1, .inl ()), (22, .iload_n 1, 1, .inl ()), (23, .iload_n 2, 1, .inl ()), (24, .invokevirtual 310, 3, .inr (.inr (.inr 198))), (27, .iconst 0, 1, .inl ()), (28, .istore 4, 2, .inl ()), (30, .iconst 0, 1, .inl ()), (31, .istore 5, 2, .inl ()), (33, .iload 5, 2, .inl ()), (35, .bipush 10, 2, .inl ()), (37, .aload_n 0, 1, .inl ()), (38, .getfield 226, 3, .inr (.inl (12, 20))), (41, .imul, 1, .inl ()), (42, .if_icmp .ge 62, 3, .inr (.inr (.inr 104))), (45, .iconst 0, 1, .inl ()), (46, .istore 6, 2, .inl ()), (48, .iload 6, 2, .inl ()), (50, .bipush 10, 2, .inl ()), (52, .aload_n 0, 1, .inl ()), (53, .getfield 226, 3, .inr (.inl (12, 20))), (56, .imul, 1, .inl ()), (57, .if_icmp .ge 41, 3, .inr (.inr (.inr 98))), (60, .aload_n 0, 1, .inl ()), (61, .iload 5, 2, .inl ()), (63, .iload 6, 2, .inl ()), (65, .invokevirtual 313, 3, .inr (.inr (.inr 202))), (68, .ifCond .ne 6, 3, .inr (.inr (.inr 74))), (71, .goto 21, 3, .inr (.inr (.inr 92))), (74, .iload 4, 2, .inl ()), (76, .iload_n 3, 1, .inl ()), (77, .if_icmp .ne 12, 3, .inr (.inr (.inr 89))), (80, .bipush 100, 2, .inl ()), (82, .iload 5, 2, .inl ()), (84, .imul, 1, .inl ()), (85, .iload 6, 2, .inl ()), (87, .iadd, 1, .inl ()), (88, .ireturn, 1, .inl ())]
def K_M_rest_1 : List CE := [(89, .iinc 4 1, 3, .inl ()), (92, .iinc 6 1, 3, .inl ()), (95, .goto (-47), 3, .inr (.inr (.inr 48))), (98, .iinc 5 1, 3, .inl ()), (101, .goto (-68), 3, .inr (.inr (.inr 33))), (104, .iload_n 3, 1, .inl ()), (105, .iconst (-1), 1, .inl ()), (106, .if_icmp .ne 8, 3, .inr (.inr (.inr 114))), (109, .iload 4, 2, .inl ()), (111, .goto 4, 3, .inr (.inr (.inr 115))), (114, .iconst (-1), 1, .inl ()), (115, .ireturn, 1, .inl ())]
def K_M_rest : List CE := K_M_rest_0 ++ (K_M_rest_1)
theorem ok_M_rest : okM H_M_rest K_M_rest = true := by decide +kernel
def K_M_idle : List CE := [(0, .aload_n 0, 1, .inl ()), (1, .iconst 0, 1, .inl ()), (2, .putfield 1, 3, .inr (.inl (12, 0))), (5, .aload_n 0, 1, .inl ()), (6, .getfield 213, 3, .inr (.inl (12, 18))), (9, .ifCond .ne 5, 3, .inr (.inr (.inr 14))), (12, .iconst (-1), 1, .inl ()), (13, .ireturn, 1, .inl ()), (14, .aload_n 0, 1, .inl ()), (15, .invokevirtual 281, 3, .inr (.inr (.inr 173))), (18, .aload_n 0, 1, .inl ()), (19, .invokevirtual 287, 3, .inr (.inr (.inr 183))), (22, .istore_n 1, 1, .inl ()), (23, .iconst 0, 1, .inl ()), (24, .istore_n 2, 1, .inl ()), (25, .iconst 0, 1, .inl ()), (26, .istore_n 3, 1, .inl ()), (27, .iload_n 3, 1, .inl ()), (28, .aload_n 0, 1, .inl ()), (29, .getfield 226, 3, .inr (.inl (12, 20))), (32, .if_icmp .ge 30, 3, .inr (.inr (.inr 62))), (35, .aload_n 0, 1, .inl ()), (36, .iconst 1, 1, .inl ()), (37, .iload_n 3, 1, .inl ()), (38, .ishl, 1, .inl ()), (39, .putfield 253, 3, .inr (.inl (12, 38))), (42, .aload_n 0, 1, .inl ()), (43, .invokevirtual 287, 3, .inr (.inr (.inr 183))), (46, .iload_n 1, 1, .inl ()), (47, .if_icmp .lt 9, 3, .inr (.inr (.inr 56))), (50, .iload_n 2, 1, .inl ()), (51, .iconst 1, 1, .inl ()), (52, .iload_n 3, 1, .inl ()), (53, .ishl, 1, .inl ()), (54, .ior, 1, .inl ()), (55, .istore_n 2, 1, .inl ()), (56, .iinc 3 1, 3, .inl ()), (59, .goto (-32), 3, .inr (.inr (.inr 27))), (62, .iload_n 2, 1, .inl ()), (63, .ireturn, 1, .inl ())]
theorem ok_M_idle : okM H_M_idle K_M_idle = true := by decide +kernel
def K_M_shift : List CE := [(0, .aload_n 0, 1, .inl ()), (1, .iconst 0, 1, .inl ()), (2, .putfield 1, 3, .inr (.inl (12, 0))), (5, .aload_n 0, 1, .inl ()), (6, .iload_n 1, 1, .inl ()), (7, .invokevirtual 244, 3, .inr (.inr (.inr 167))), (10, .ifCond .eq 15, 3, .inr (.inr (.inr 25))), (13, .iload_n 2, 1, .inl ()), (14, .bipush (-9), 2, .inl ()), (16, .if_icmp .lt 9, 3, .inr (.inr (.inr 25))), (19, .iload_n 2, 1, .inl ()), (20, .bipush 9, 2, .inl ()), (22, .if_icmp .le 5, 3, .inr (.inr (.inr 27))), (25, .iconst (-1), 1, .inl ()), (26, .ireturn, 1, .inl ()), (27, .aload_n 0, 1, .inl ()), (28, .invokevirtual 281, 3, .inr (.inr (.inr 173))), (31, .aload_n 0, 1, .inl ()), (32, .getfield 62, 3, .inr (.inl (12, 34))), (35, .iload_n 1, 1, .inl ()), (36, .dup2, 1, .inl ()), (37, .iaload, 1, .inl ()), (38, .iload_n 2, 1, .inl ()), (39, .iadd, 1, .inl ()), (40, .iastore, 1, .inl ()), (41, .aload_n 0, 1, .inl ()), (42, .invokevirtual 287, 3, .inr (.inr (.inr 183))), (45, .ireturn, 1, .inl ())]
theorem ok_M_shift : okM H_M_shift K_M_shift = true := by decide +kernel
def K_M_waits_0 : List CE := [(0, .aload_n 0, 1, .inl ()), (1, .iconst 0, 1, .inl ()), (2, .putfield 1, 3, .inr (.inl (12, 0))), (5, .aload_n 0, 1, .inl ()), (6, .iload_n 1, 1, .inl ()), (7, .invokevirtual 250, 3, .inr (.inr (.inr 166))), (10, .ifCond .eq 11, 3, .inr (.inr (.inr 21))), (13, .iload_n 2, 1, .inl ()), (14, .iconst 1, 1, .inl ()), (15, .invokestatic 247, 3, .inr (.inr (.inr 168))), (18, .ifCond .ne 5, 3, .inr (.inr (.inr 23))), (21, .iconst (-1), 1, .inl ()), (22, .ireturn, 1, .inl ()), (23, .aload_n 0, 1, .inl ()), (24, .invokevirtual 281, 3, .inr (.inr (.inr 173))), (27, .iconst 0, 1, .inl ()), (28, .istore_n 3, 1, .inl ()), (29, .iload_n 3, 1, .inl ()), (30, .bipush 10, 2, .inl ()), (32, .if_icmp .ge 16, 3, .inr (.inr (.inr 48))), (35, .aload_n 0, 1, .inl ()), (36, .getfield 89, 3, .inr (.inl (12, 44))), (39, .iload_n 3, 1, .inl ()), (40, .iconst 0, 1, .inl ()), (41, .iastore, 1, .inl ()), (42, .iinc 3 1, 3, .inl ()), (45, .goto (-16), 3, .inr (.inr (.inr 29))), (48, .aload_n 0, 1, .inl ()), (49, .invokevirtual 272, 3, .inr (.inr (.inr 175))), (52, .aload_n 0, 1, .inl ()), (53, .getfield 80, 3, .inr (.inl (12, 41))), (56, .iload_n 1, 1, .inl ()), (57, .iaload, 1, .inl ()), (58, .istore_n 3, 1, .inl ()), (59, .iconst 0, 1, .inl ()), (60, .istore 4, 2, .inl ()), (62, .iload 4, 2, .inl ()), (64, .bipush 10, 2, .inl ()), (66, .if_icmp .ge 50, 3, .inr (.inr (.inr 116))), (69, .aload_n 0, 1, .inl ()), (70, .getfield 80, 3, .inr (.inl (12, 41))), (73, .iload_n 1, 1, .inl ()), (74, .iload_n 3, 1, .inl ()), (75, .ldc_w 259, 3, .inr (.inr (.inl (1000000)))), (78, .if_icmp .ne 9, 3, .inr (.inr (.inr 87))), (81, .ldc_w 259, 3, .inr (.inr (.inl (1000000)))), (84, .goto 7, 3, .inr (.inr (.inr 91))), (87, .iload_n 3, 1, .inl ()), (88, .iload 4, 2, .inl ()), (90, .iadd, 1, .inl ())]
def K_M_waits_1 : List CE := [(91, .iastore, 1, .inl ()), (92, .aload_n 0, 1, .inl ()), (93, .invokevirtual 275, 3, .inr (.inr (.inr 182))), (96, .ifCond .eq 14, 3, .inr (.inr (.inr 110))), (99, .aload_n 0, 1, .inl ()), (100, .getfield 89, 3, .inr (.inl (12, 44))), (103, .iload 4, 2, .inl ()), (105, .dup2, 1, .inl ()), (106, .iaload, 1, .inl ()), (107, .iconst 1, 1, .inl ()), (108, .iadd, 1, .inl ()), (109, .iastore, 1, .inl ()), (110, .iinc 4 1, 3, .inl ()), (113, .goto (-51), 3, .inr (.inr (.inr 62))), (116, .aload_n 0, 1, .inl ()), (117, .invokevirtual 278, 3, .inr (.inr (.inr 176))), (120, .ifCond .ne (-68), 3, .inr (.inr (.inr 52))), (123, .iconst 0, 1, .inl ()), (124, .istore_n 3, 1, .inl ()), (125, .iconst 1, 1, .inl ()), (126, .istore 4, 2, .inl ()), (128, .iload 4, 2, .inl ()), (130, .bipush 10, 2, .inl ()), (132, .if_icmp .ge 28, 3, .inr (.inr (.inr 160))), (135, .aload_n 0, 1, .inl ()), (136, .getfield 89, 3, .inr (.inl (12, 44))), (139, .iload 4, 2, .inl ()), (141, .iaload, 1, .inl ()), (142, .aload_n 0, 1, .inl ()), (143, .getfield 89, 3, .inr (.inl (12, 44))), (146, .iload_n 3, 1, .inl ()), (147, .iaload, 1, .inl ()), (148, .if_icmp .le 6, 3, .inr (.inr (.inr 154))), (151, .iload 4, 2, .inl ()), (153, .istore_n 3, 1, .inl ()), (154, .iinc 4 1, 3, .inl ()), (157, .goto (-29), 3, .inr (.inr (.inr 128))), (160, .iload_n 2, 1, .inl ()), (161, .ifCond .ne 7, 3, .inr (.inr (.inr 168))), (164, .iload_n 3, 1, .inl ()), (165, .goto 9, 3, .inr (.inr (.inr 174))), (168, .aload_n 0, 1, .inl ()), (169, .getfield 89, 3, .inr (.inl (12, 44))), (172, .iload_n 3, 1, .inl ()), (173, .iaload, 1, .inl ()), (174, .ireturn, 1, .inl ())]
def K_M_waits : List CE := K_M_waits_0 ++ (K_M_waits_1)
theorem ok_M_waits : okM H_M_waits K_M_waits = true := by decide +kernel
def K_M_gain : List CE := [(0, .aload_n 0, 1, .inl ()), (1, .iconst 0, 1, .inl ()), (2, .putfield 1, 3, .inr (.inl (12, 0))), (5, .aload_n 0, 1, .inl ()), (6, .iload_n 1, 1, .inl ()), (7, .invokevirtual 250, 3, .inr (.inr (.inr 166))), (10, .ifCond .ne 5, 3, .inr (.inr (.inr 15))), (13, .iconst (-1), 1, .inl ()), (14, .ireturn, 1, .inl ()), (15, .aload_n 0, 1, .inl ()), (16, .invokevirtual 281, 3, .inr (.inr (.inr 173))), (19, .iconst 0, 1, .inl ()), (20, .istore_n 2, 1, .inl ()), (21, .aload_n 0, 1, .inl ()), (22, .invokevirtual 272, 3, .inr (.inr (.inr 175))), (25, .aload_n 0, 1, .inl ()), (26, .invokevirtual 275, 3, .inr (.inr (.inr 182))), (29, .ifCond .eq 15, 3, .inr (.inr (.inr 44))), (32, .iload_n 2, 1, .inl ()), (33, .aload_n 0, 1, .inl ()), (34, .getfield 32, 3, .inr (.inl (12, 23))), (37, .iload_n 1, 1, .inl ()), (38, .iaload, 1, .inl ()), (39, .iadd, 1, .inl ()), (40, .istore_n 2, 1, .inl ()), (41, .goto 20, 3, .inr (.inr (.inr 61))), (44, .aload_n 0, 1, .inl ()), (45, .invokevirtual 304, 3, .inr (.inr (.inr 199))), (48, .iload_n 1, 1, .inl ()), (49, .if_icmp .ne 12, 3, .inr (.inr (.inr 61))), (52, .iload_n 2, 1, .inl ()), (53, .aload_n 0, 1, .inl ()), (54, .getfield 35, 3, .inr (.inl (12, 24))), (57, .iload_n 1, 1, .inl ()), (58, .iaload, 1, .inl ()), (59, .iadd, 1, .inl ()), (60, .istore_n 2, 1, .inl ()), (61, .aload_n 0, 1, .inl ()), (62, .invokevirtual 278, 3, .inr (.inr (.inr 176))), (65, .ifCond .ne (-40), 3, .inr (.inr (.inr 25))), (68, .iload_n 2, 1, .inl ()), (69, .ireturn, 1, .inl ())]
theorem ok_M_gain : okM H_M_gain K_M_gain = true := by decide +kernel
def K_M_scratch_0 : List CE := [(0, .aload_n 0, 1, .inl ()), (1, .iconst 0, 1, .inl ()), (2, .putfield 1, 3, .inr (.inl (12, 0))), (5, .aload_n 0, 1, .inl ()), (6, .iload_n 1, 1, .inl ()), (7, .invokevirtual 250, 3, .inr (.inr (.inr 166))), (10, .ifCond .eq 38, 3, .inr (.inr (.inr 48))), (13, .iload_n 2, 1, .inl ()), (14, .iconst (-1), 1, .inl ()), (15, .if_icmp .eq 11, 3, .inr (.inr (.inr 26))), (18, .aload_n 0, 1, .inl ()), (19, .iload_n 2, 1, .inl ()), (20, .invokevirtual 244, 3, .inr (.inr (.inr 167))), (23, .ifCond .eq 25, 3, .inr (.inr (.inr 48))), (26, .iload_n 3, 1, .inl ()), (27, .bipush (-99), 2, .inl ()), (29, .if_icmp .lt 19, 3, .inr (.inr (.inr 48))), (32, .iload_n 3, 1, .inl ()), (33, .sipush 199, 3, .inl ()), (36, .if_icmp .gt 12, 3, .inr (.inr (.inr 48))), (39, .aload_n 0, 1, .inl ()), (40, .getfield 235, 3, .inr (.inl (12, 49))), (43, .bipush 10, 2, .inl ()), (45, .if_icmp .ne 5, 3, .inr (.inr (.inr 50))), (48, .iconst (-1), 1, .inl ()), (49, .ireturn, 1, .inl ()), (50, .aload_n 0, 1, .inl ()), (51, .getfield 101, 3, .inr (.inl (12, 48))), (54, .iconst 3, 1, .inl ()), (55, .aload_n 0, 1, .inl ()), (56, .getfield 235, 3, .inr (.inl (12, 49))), (59, .imul, 1, .inl ()), (60, .iload_n 1, 1, .inl ()), (61, .iastore, 1, .inl ()), (62, .aload_n 0, 1, .inl ()), (63, .getfield 101, 3, .inr (.inl (12, 48))), (66, .iconst 3, 1, .inl ()), (67, .aload_n 0, 1, .inl ()), (68, .getfield 235, 3, .inr (.inl (12, 49))), (71, .imul, 1, .inl ()), (72, .iconst 1, 1, .inl ()), (73, .iadd, 1, .inl ()), (74, .iload_n 2, 1, .inl ()), (75, .iastore, 1, .inl ()), (76, .aload_n 0, 1, .inl ()), (77, .getfield 101, 3, .inr (.inl (12, 48))), (80, .iconst 3, 1, .inl ()), (81, .aload_n 0, 1, .inl ()), (82, .getfield 235, 3, .inr (.inl (12, 49))), (85, .imul, 1, .inl ())]
def K_M_scratch_1 : List CE := [(86, .iconst 2, 1, .inl ()), (87, .iadd, 1, .inl ()), (88, .iload_n 3, 1, .inl ()), (89, .iastore, 1, .inl ()), (90, .aload_n 0, 1, .inl ()), (91, .dup, 1, .inl ()), (92, .getfield 235, 3, .inr (.inl (12, 49))), (95, .iconst 1, 1, .inl ()), (96, .iadd, 1, .inl ()), (97, .putfield 235, 3, .inr (.inl (12, 49))), (100, .aload_n 0, 1, .inl ()), (101, .getfield 235, 3, .inr (.inl (12, 49))), (104, .ireturn, 1, .inl ())]
def K_M_scratch : List CE := K_M_scratch_0 ++ (K_M_scratch_1)
theorem ok_M_scratch : okM H_M_scratch K_M_scratch = true := by decide +kernel
def K_M_misfits : List CE := [(0, .iconst 0, 1, .inl ()), (1, .istore_n 1, 1, .inl ()), (2, .iconst 0, 1, .inl ()), (3, .istore_n 2, 1, .inl ()), (4, .iload_n 2, 1, .inl ()), (5, .aload_n 0, 1, .inl ()), (6, .getfield 235, 3, .inr (.inl (12, 49))), (9, .if_icmp .ge 75, 3, .inr (.inr (.inr 84))), (12, .aload_n 0, 1, .inl ()), (13, .getfield 101, 3, .inr (.inl (12, 48))), (16, .iconst 3, 1, .inl ()), (17, .iload_n 2, 1, .inl ()), (18, .imul, 1, .inl ()), (19, .iaload, 1, .inl ()), (20, .istore_n 3, 1, .inl ()), (21, .aload_n 0, 1, .inl ()), (22, .getfield 101, 3, .inr (.inl (12, 48))), (25, .iconst 3, 1, .inl ()), (26, .iload_n 2, 1, .inl ()), (27, .imul, 1, .inl ()), (28, .iconst 1, 1, .inl ()), (29, .iadd, 1, .inl ()), (30, .iaload, 1, .inl ()), (31, .istore 4, 2, .inl ()), (33, .iload 4, 2, .inl ()), (35, .iconst (-1), 1, .inl ()), (36, .if_icmp .ne 12, 3, .inr (.inr (.inr 48))), (39, .aload_n 0, 1, .inl ()), (40, .getfield 80, 3, .inr (.inl (12, 41))), (43, .iload_n 3, 1, .inl ()), (44, .iaload, 1, .inl ()), (45, .goto 10, 3, .inr (.inr (.inr 55))), (48, .aload_n 0, 1, .inl ()), (49, .iload_n 3, 1, .inl ()), (50, .iload 4, 2, .inl ()), (52, .invokevirtual 260, 3, .inr (.inr (.inr 177))), (55, .istore 5, 2, .inl ()), (57, .iload 5, 2, .inl ()), (59, .aload_n 0, 1, .inl ()), (60, .getfield 101, 3, .inr (.inl (12, 48))), (63, .iconst 3, 1, .inl ()), (64, .iload_n 2, 1, .inl ()), (65, .imul, 1, .inl ()), (66, .iconst 2, 1, .inl ()), (67, .iadd, 1, .inl ()), (68, .iaload, 1, .inl ()), (69, .if_icmp .eq 9, 3, .inr (.inr (.inr 78))), (72, .iload_n 1, 1, .inl ()), (73, .iconst 1, 1, .inl ()), (74, .iload_n 2, 1, .inl ()), (75, .ishl, 1, .inl ()), (76, .ior, 1, .inl ()), (77, .istore_n 1, 1, .inl ()), (78, .iinc 2 1, 3, .inl ()), (81, .goto (-77), 3, .inr (.inr (.inr 4))), (84, .iload_n 1, 1, .inl ()), (85, .ireturn, 1, .inl ())]
theorem ok_M_misfits : okM H_M_misfits K_M_misfits = true := by decide +kernel
def K_M_fits : List CE := [(0, .aload_n 0, 1, .inl ()), (1, .iconst 0, 1, .inl ()), (2, .putfield 1, 3, .inr (.inl (12, 0))), (5, .aload_n 0, 1, .inl ()), (6, .getfield 213, 3, .inr (.inl (12, 18))), (9, .ifCond .eq 16, 3, .inr (.inr (.inr 25))), (12, .iload_n 1, 1, .inl ()), (13, .iconst (-1), 1, .inl ()), (14, .if_icmp .eq 13, 3, .inr (.inr (.inr 27))), (17, .aload_n 0, 1, .inl ()), (18, .iload_n 1, 1, .inl ()), (19, .invokevirtual 244, 3, .inr (.inr (.inr 167))), (22, .ifCond .ne 5, 3, .inr (.inr (.inr 27))), (25, .iconst (-1), 1, .inl ()), (26, .ireturn, 1, .inl ()), (27, .aload_n 0, 1, .inl ()), (28, .invokevirtual 281, 3, .inr (.inr (.inr 173))), (31, .iconst 0, 1, .inl ()), (32, .istore_n 2, 1, .inl ()), (33, .iconst 0, 1, .inl ()), (34, .istore_n 3, 1, .inl ()), (35, .aload_n 0, 1, .inl ()), (36, .invokevirtual 272, 3, .inr (.inr (.inr 175))), (39, .aload_n 0, 1, .inl ()), (40, .invokevirtual 316, 3, .inr (.inr (.inr 209))), (43, .ifCond .ne 23, 3, .inr (.inr (.inr 66))), (46, .iinc 2 1, 3, .inl ()), (49, .iload_n 1, 1, .inl ()), (50, .ifCond .lt 16, 3, .inr (.inr (.inr 66))), (53, .iload_n 3, 1, .inl ()), (54, .iconst 1, 1, .inl ()), (55, .aload_n 0, 1, .inl ()), (56, .getfield 74, 3, .inr (.inl (12, 39))), (59, .iload_n 1, 1, .inl ()), (60, .iaload, 1, .inl ()), (61, .iconst 3, 1, .inl ()), (62, .iadd, 1, .inl ()), (63, .ishl, 1, .inl ()), (64, .ior, 1, .inl ()), (65, .istore_n 3, 1, .inl ()), (66, .aload_n 0, 1, .inl ()), (67, .invokevirtual 278, 3, .inr (.inr (.inr 176))), (70, .ifCond .ne (-31), 3, .inr (.inr (.inr 39))), (73, .iload_n 1, 1, .inl ()), (74, .iconst (-1), 1, .inl ()), (75, .if_icmp .ne 7, 3, .inr (.inr (.inr 82))), (78, .iload_n 2, 1, .inl ()), (79, .goto 4, 3, .inr (.inr (.inr 83))), (82, .iload_n 3, 1, .inl ()), (83, .ireturn, 1, .inl ())]
theorem ok_M_fits : okM H_M_fits K_M_fits = true := by decide +kernel
def K_M_bitsOf : List CE := [(0, .iconst 0, 1, .inl ()), (1, .istore_n 1, 1, .inl ()), (2, .iload_n 0, 1, .inl ()), (3, .istore_n 2, 1, .inl ()), (4, .iload_n 2, 1, .inl ()), (5, .ifCond .le 16, 3, .inr (.inr (.inr 21))), (8, .iload_n 1, 1, .inl ()), (9, .iload_n 2, 1, .inl ()), (10, .iconst 1, 1, .inl ()), (11, .iand, 1, .inl ()), (12, .iadd, 1, .inl ()), (13, .istore_n 1, 1, .inl ()), (14, .iload_n 2, 1, .inl ()), (15, .iconst 1, 1, .inl ()), (16, .ishr, 1, .inl ()), (17, .istore_n 2, 1, .inl ()), (18, .goto (-14), 3, .inr (.inr (.inr 4))), (21, .iload_n 1, 1, .inl ()), (22, .ireturn, 1, .inl ())]
theorem ok_M_bitsOf : okM H_M_bitsOf K_M_bitsOf = true := by decide +kernel
def K_M_lies : List CE := [(0, .aload_n 0, 1, .inl ()), (1, .iconst 0, 1, .inl ()), (2, .putfield 1, 3, .inr (.inl (12, 0))), (5, .aload_n 0, 1, .inl ()), (6, .getfield 213, 3, .inr (.inl (12, 18))), (9, .ifCond .ne 5, 3, .inr (.inr (.inr 14))), (12, .iconst (-1), 1, .inl ()), (13, .ireturn, 1, .inl ()), (14, .aload_n 0, 1, .inl ()), (15, .invokevirtual 281, 3, .inr (.inr (.inr 173))), (18, .iconst (-1), 1, .inl ()), (19, .istore_n 1, 1, .inl ()), (20, .aload_n 0, 1, .inl ()), (21, .invokevirtual 272, 3, .inr (.inr (.inr 175))), (24, .aload_n 0, 1, .inl ()), (25, .invokevirtual 316, 3, .inr (.inr (.inr 209))), (28, .istore_n 2, 1, .inl ()), (29, .iload_n 1, 1, .inl ()), (30, .ifCond .lt 30, 3, .inr (.inr (.inr 60))), (33, .iload_n 2, 1, .inl ()), (34, .invokestatic 319, 3, .inr (.inr (.inr 211))), (37, .iload_n 1, 1, .inl ()), (38, .invokestatic 319, 3, .inr (.inr (.inr 211))), (41, .if_icmp .lt 19, 3, .inr (.inr (.inr 60))), (44, .iload_n 2, 1, .inl ()), (45, .invokestatic 319, 3, .inr (.inr (.inr 211))), (48, .iload_n 1, 1, .inl ()), (49, .invokestatic 319, 3, .inr (.inr (.inr 211))), (52, .if_icmp .ne 10, 3, .inr (.inr (.inr 62))), (55, .iload_n 2, 1, .inl ()), (56, .iload_n 1, 1, .inl ()), (57, .if_icmp .ge 5, 3, .inr (.inr (.inr 62))), (60, .iload_n 2, 1, .inl ()), (61, .istore_n 1, 1, .inl ()), (62, .aload_n 0, 1, .inl ()), (63, .invokevirtual 278, 3, .inr (.inr (.inr 176))), (66, .ifCond .ne (-42), 3, .inr (.inr (.inr 24))), (69, .iload_n 1, 1, .inl ()), (70, .ireturn, 1, .inl ())]
theorem ok_M_lies : okM H_M_lies K_M_lies = true := by decide +kernel
def K_M_setBits_0 : List CE := [(0, .aload_n 0, 1, .inl ()), (1, .invokevirtual 281, 3, .inr (.inr (.inr 173))), (4, .iconst 1, 1, .inl ()), (5, .iconst 1, 1, .inl ()), (6, .aload_n 0, 1, .inl ()), (7, .getfield 220, 3, .inr (.inl (12, 19))), (10, .ishl, 1, .inl ()), (11, .ishl, 1, .inl ()), (12, .iconst 2, 1, .inl ()), (13, .isub, 1, .inl ()), (14, .istore_n 1, 1, .inl ()), (15, .aload_n 0, 1, .inl ()), (16, .invokevirtual 272, 3, .inr (.inr (.inr 175))), (19, .iconst 1, 1, .inl ()), (20, .istore_n 2, 1, .inl ()), (21, .iload_n 2, 1, .inl ()), (22, .iconst 1, 1, .inl ()), (23, .aload_n 0, 1, .inl ()), (24, .getfield 220, 3, .inr (.inl (12, 19))), (27, .ishl, 1, .inl ()), (28, .if_icmp .ge 124, 3, .inr (.inr (.inr 152))), (31, .iload_n 1, 1, .inl ()), (32, .iload_n 2, 1, .inl ()), (33, .ishr, 1, .inl ()), (34, .iconst 1, 1, .inl ()), (35, .iand, 1, .inl ()), (36, .ifCond .ne 6, 3, .inr (.inr (.inr 42))), (39, .goto 107, 3, .inr (.inr (.inr 146))), (42, .iconst 0, 1, .inl ()), (43, .istore_n 3, 1, .inl ()), (44, .iload_n 3, 1, .inl ()), (45, .aload_n 0, 1, .inl ()), (46, .getfield 220, 3, .inr (.inl (12, 19))), (49, .if_icmp .ge 21, 3, .inr (.inr (.inr 70))), (52, .aload_n 0, 1, .inl ()), (53, .getfield 104, 3, .inr (.inl (12, 50))), (56, .iload_n 3, 1, .inl ()), (57, .aload_n 0, 1, .inl ()), (58, .getfield 80, 3, .inr (.inl (12, 41))), (61, .iload_n 3, 1, .inl ()), (62, .iaload, 1, .inl ()), (63, .iastore, 1, .inl ()), (64, .iinc 3 1, 3, .inl ()), (67, .goto (-23), 3, .inr (.inr (.inr 44))), (70, .iconst 0, 1, .inl ()), (71, .istore_n 3, 1, .inl ()), (72, .iload_n 3, 1, .inl ()), (73, .aload_n 0, 1, .inl ()), (74, .getfield 220, 3, .inr (.inl (12, 19))), (77, .if_icmp .ge 26, 3, .inr (.inr (.inr 103)))]
def K_M_setBits_1 : List CE := [(80, .iload_n 2, 1, .inl ()), (81, .iload_n 3, 1, .inl ()), (82, .ishr, 1, .inl ()), (83, .iconst 1, 1, .inl ()), (84, .iand, 1, .inl ()), (85, .ifCond .ne 12, 3, .inr (.inr (.inr 97))), (88, .aload_n 0, 1, .inl ()), (89, .getfield 80, 3, .inr (.inl (12, 41))), (92, .iload_n 3, 1, .inl ()), (93, .ldc_w 259, 3, .inr (.inr (.inl (1000000)))), (96, .iastore, 1, .inl ()), (97, .iinc 3 1, 3, .inl ()), (100, .goto (-28), 3, .inr (.inr (.inr 72))), (103, .aload_n 0, 1, .inl ()), (104, .invokevirtual 275, 3, .inr (.inr (.inr 182))), (107, .ifCond .ne 11, 3, .inr (.inr (.inr 118))), (110, .iload_n 1, 1, .inl ()), (111, .iconst 1, 1, .inl ()), (112, .iload_n 2, 1, .inl ()), (113, .ishl, 1, .inl ()), (114, .iconst (-1), 1, .inl ()), (115, .ixor, 1, .inl ()), (116, .iand, 1, .inl ()), (117, .istore_n 1, 1, .inl ()), (118, .iconst 0, 1, .inl ()), (119, .istore_n 3, 1, .inl ()), (120, .iload_n 3, 1, .inl ()), (121, .aload_n 0, 1, .inl ()), (122, .getfield 220, 3, .inr (.inl (12, 19))), (125, .if_icmp .ge 21, 3, .inr (.inr (.inr 146))), (128, .aload_n 0, 1, .inl ()), (129, .getfield 80, 3, .inr (.inl (12, 41))), (132, .iload_n 3, 1, .inl ()), (133, .aload_n 0, 1, .inl ()), (134, .getfield 104, 3, .inr (.inl (12, 50))), (137, .iload_n 3, 1, .inl ()), (138, .iaload, 1, .inl ()), (139, .iastore, 1, .inl ()), (140, .iinc 3 1, 3, .inl ()), (143, .goto (-23), 3, .inr (.inr (.inr 120))), (146, .iinc 2 1, 3, .inl ()), (149, .goto (-128), 3, .inr (.inr (.inr 21))), (152, .aload_n 0, 1, .inl ()), (153, .invokevirtual 278, 3, .inr (.inr (.inr 176))), (156, .ifCond .ne (-137), 3, .inr (.inr (.inr 19))), (159, .iload_n 1, 1, .inl ()), (160, .ireturn, 1, .inl ())]
def K_M_setBits : List CE := K_M_setBits_0 ++ (K_M_setBits_1)
theorem ok_M_setBits : okM H_M_setBits K_M_setBits = true := by decide +kernel
def K_M_sets : List CE := [(0, .aload_n 0, 1, .inl ()), (1, .iconst 0, 1, .inl ()), (2, .putfield 1, 3, .inr (.inl (12, 0))), (5, .aload_n 0, 1, .inl ()), (6, .getfield 213, 3, .inr (.inl (12, 18))), (9, .ifCond .eq 8, 3, .inr (.inr (.inr 17))), (12, .iload_n 1, 1, .inl ()), (13, .iconst (-1), 1, .inl ()), (14, .if_icmp .ge 5, 3, .inr (.inr (.inr 19))), (17, .iconst (-1), 1, .inl ()), (18, .ireturn, 1, .inl ()), (19, .aload_n 0, 1, .inl ()), (20, .invokevirtual 322, 3, .inr (.inr (.inr 213))), (23, .istore_n 2, 1, .inl ()), (24, .iload_n 1, 1, .inl ()), (25, .iconst (-1), 1, .inl ()), (26, .if_icmp .ne 8, 3, .inr (.inr (.inr 34))), (29, .iload_n 2, 1, .inl ()), (30, .invokestatic 319, 3, .inr (.inr (.inr 211))), (33, .ireturn, 1, .inl ()), (34, .iconst 0, 1, .inl ()), (35, .istore_n 3, 1, .inl ()), (36, .iconst 1, 1, .inl ()), (37, .istore 4, 2, .inl ()), (39, .iload 4, 2, .inl ()), (41, .iconst 1, 1, .inl ()), (42, .aload_n 0, 1, .inl ()), (43, .getfield 220, 3, .inr (.inl (12, 19))), (46, .ishl, 1, .inl ()), (47, .if_icmp .ge 32, 3, .inr (.inr (.inr 79))), (50, .iload_n 2, 1, .inl ()), (51, .iload 4, 2, .inl ()), (53, .ishr, 1, .inl ()), (54, .iconst 1, 1, .inl ()), (55, .iand, 1, .inl ()), (56, .ifCond .ne 6, 3, .inr (.inr (.inr 62))), (59, .goto 14, 3, .inr (.inr (.inr 73))), (62, .iload_n 3, 1, .inl ()), (63, .iload_n 1, 1, .inl ()), (64, .if_icmp .ne 6, 3, .inr (.inr (.inr 70))), (67, .iload 4, 2, .inl ()), (69, .ireturn, 1, .inl ()), (70, .iinc 3 1, 3, .inl ()), (73, .iinc 4 1, 3, .inl ()), (76, .goto (-37), 3, .inr (.inr (.inr 39))), (79, .iconst (-1), 1, .inl ()), (80, .ireturn, 1, .inl ())]
theorem ok_M_sets : okM H_M_sets K_M_sets = true := by decide +kernel
def K_M_opening : List CE := [(0, .aload_n 0, 1, .inl ()), (1, .invokevirtual 266, 3, .inr (.inr (.inr 181))), (4, .aload_n 0, 1, .inl ()), (5, .getfield 229, 3, .inr (.inl (12, 21))), (8, .iconst 1, 1, .inl ()), (9, .isub, 1, .inl ()), (10, .istore_n 1, 1, .inl ()), (11, .iload_n 1, 1, .inl ()), (12, .aload_n 0, 1, .inl ()), (13, .getfield 220, 3, .inr (.inl (12, 19))), (16, .if_icmp .ge 55, 3, .inr (.inr (.inr 71))), (19, .aload_n 0, 1, .inl ()), (20, .getfield 86, 3, .inr (.inl (12, 43))), (23, .iload_n 1, 1, .inl ()), (24, .iaload, 1, .inl ()), (25, .ldc_w 259, 3, .inr (.inr (.inl (1000000)))), (28, .if_icmp .eq 37, 3, .inr (.inr (.inr 65))), (31, .aload_n 0, 1, .inl ()), (32, .getfield 86, 3, .inr (.inl (12, 43))), (35, .iload_n 1, 1, .inl ()), (36, .iaload, 1, .inl ()), (37, .aload_n 0, 1, .inl ()), (38, .getfield 86, 3, .inr (.inl (12, 43))), (41, .iload_n 1, 1, .inl ()), (42, .aload_n 0, 1, .inl ()), (43, .getfield 229, 3, .inr (.inl (12, 21))), (46, .isub, 1, .inl ()), (47, .iconst 1, 1, .inl ()), (48, .iadd, 1, .inl ()), (49, .iaload, 1, .inl ()), (50, .isub, 1, .inl ()), (51, .aload_n 0, 1, .inl ()), (52, .getfield 232, 3, .inr (.inl (12, 22))), (55, .if_icmp .gt 10, 3, .inr (.inr (.inr 65))), (58, .aload_n 0, 1, .inl ()), (59, .getfield 86, 3, .inr (.inl (12, 43))), (62, .iload_n 1, 1, .inl ()), (63, .iaload, 1, .inl ()), (64, .ireturn, 1, .inl ()), (65, .iinc 1 1, 3, .inl ()), (68, .goto (-57), 3, .inr (.inr (.inr 11))), (71, .ldc_w 259, 3, .inr (.inr (.inl (1000000)))), (74, .ireturn, 1, .inl ())]
theorem ok_M_opening : okM H_M_opening K_M_opening = true := by decide +kernel
def K_M_moment_0 : List CE := [(0, .aload_n 0, 1, .inl ()), (1, .iconst 0, 1, .inl ()), (2, .putfield 1, 3, .inr (.inl (12, 0))), (5, .aload_n 0, 1, .inl ()), (6, .getfield 213, 3, .inr (.inl (12, 18))), (9, .ifCond .eq 11, 3, .inr (.inr (.inr 20))), (12, .iload_n 1, 1, .inl ()), (13, .iconst 2, 1, .inl ()), (14, .invokestatic 247, 3, .inr (.inr (.inr 168))), (17, .ifCond .ne 7, 3, .inr (.inr (.inr 24))), (20, .ldc_w 296, 3, .inr (.inr (.inl (-1000000)))), (23, .ireturn, 1, .inl ()), (24, .aload_n 0, 1, .inl ()), (25, .invokevirtual 281, 3, .inr (.inr (.inr 173))), (28, .ldc_w 259, 3, .inr (.inr (.inl (1000000)))), (31, .istore_n 2, 1, .inl ()), (32, .ldc_w 296, 3, .inr (.inr (.inl (-1000000)))), (35, .istore_n 3, 1, .inl ()), (36, .iconst 0, 1, .inl ()), (37, .istore 4, 2, .inl ()), (39, .aload_n 0, 1, .inl ()), (40, .invokevirtual 272, 3, .inr (.inr (.inr 175))), (43, .aload_n 0, 1, .inl ()), (44, .invokevirtual 325, 3, .inr (.inr (.inr 215))), (47, .istore 5, 2, .inl ()), (49, .iload 5, 2, .inl ()), (51, .iload_n 2, 1, .inl ()), (52, .if_icmp .ge 6, 3, .inr (.inr (.inr 58))), (55, .iload 5, 2, .inl ()), (57, .istore_n 2, 1, .inl ()), (58, .iload 5, 2, .inl ()), (60, .ldc_w 259, 3, .inr (.inr (.inl (1000000)))), (63, .if_icmp .eq 19, 3, .inr (.inr (.inr 82))), (66, .iload 4, 2, .inl ()), (68, .iload 5, 2, .inl ()), (70, .iadd, 1, .inl ()), (71, .istore 4, 2, .inl ()), (73, .iload 5, 2, .inl ()), (75, .iload_n 3, 1, .inl ()), (76, .if_icmp .le 6, 3, .inr (.inr (.inr 82))), (79, .iload 5, 2, .inl ()), (81, .istore_n 3, 1, .inl ()), (82, .aload_n 0, 1, .inl ()), (83, .invokevirtual 278, 3, .inr (.inr (.inr 176))), (86, .ifCond .ne (-43), 3, .inr (.inr (.inr 43))), (89, .iload_n 2, 1, .inl ()), (90, .ldc_w 259, 3, .inr (.inr (.inl (1000000)))), (93, .if_icmp .ne 7, 3, .inr (.inr (.inr 100))), (96, .ldc_w 296, 3, .inr (.inr (.inl (-1000000)))), (99, .ireturn, 1, .inl ())]
def K_M_moment_1 : List CE := [(100, .iload_n 1, 1, .inl ()), (101, .ifCond .ne 7, 3, .inr (.inr (.inr 108))), (104, .iload_n 2, 1, .inl ()), (105, .goto 14, 3, .inr (.inr (.inr 119))), (108, .iload_n 1, 1, .inl ()), (109, .iconst 1, 1, .inl ()), (110, .if_icmp .ne 7, 3, .inr (.inr (.inr 117))), (113, .iload_n 3, 1, .inl ()), (114, .goto 5, 3, .inr (.inr (.inr 119))), (117, .iload 4, 2, .inl ()), (119, .ireturn, 1, .inl ())]
def K_M_moment : List CE := K_M_moment_0 ++ (K_M_moment_1)
theorem ok_M_moment : okM H_M_moment K_M_moment = true := by decide +kernel
def K_M_better : List CE := [(0, .aload_n 0, 1, .inl ()), (1, .iconst 0, 1, .inl ()), (2, .putfield 1, 3, .inr (.inl (12, 0))), (5, .aload_n 0, 1, .inl ()), (6, .iload_n 1, 1, .inl ()), (7, .invokevirtual 250, 3, .inr (.inr (.inr 166))), (10, .ifCond .eq 27, 3, .inr (.inr (.inr 37))), (13, .iload_n 2, 1, .inl ()), (14, .ifCond .lt 23, 3, .inr (.inr (.inr 37))), (17, .iload_n 2, 1, .inl ()), (18, .aload_n 0, 1, .inl ()), (19, .getfield 223, 3, .inr (.inl (12, 31))), (22, .if_icmp .ge 15, 3, .inr (.inr (.inr 37))), (25, .iload_n 3, 1, .inl ()), (26, .ifCond .lt 11, 3, .inr (.inr (.inr 37))), (29, .iload_n 3, 1, .inl ()), (30, .aload_n 0, 1, .inl ()), (31, .getfield 223, 3, .inr (.inl (12, 31))), (34, .if_icmp .lt 7, 3, .inr (.inr (.inr 41))), (37, .ldc_w 296, 3, .inr (.inr (.inl (-1000000)))), (40, .ireturn, 1, .inl ()), (41, .aload_n 0, 1, .inl ()), (42, .invokevirtual 281, 3, .inr (.inr (.inr 173))), (45, .aload_n 0, 1, .inl ()), (46, .getfield 71, 3, .inr (.inl (12, 37))), (49, .iload_n 1, 1, .inl ()), (50, .iload_n 2, 1, .inl ()), (51, .iastore, 1, .inl ()), (52, .aload_n 0, 1, .inl ()), (53, .invokevirtual 287, 3, .inr (.inr (.inr 183))), (56, .istore 4, 2, .inl ()), (58, .aload_n 0, 1, .inl ()), (59, .getfield 71, 3, .inr (.inl (12, 37))), (62, .iload_n 1, 1, .inl ()), (63, .iload_n 3, 1, .inl ()), (64, .iastore, 1, .inl ()), (65, .iload 4, 2, .inl ()), (67, .aload_n 0, 1, .inl ()), (68, .invokevirtual 287, 3, .inr (.inr (.inr 183))), (71, .isub, 1, .inl ()), (72, .ireturn, 1, .inl ())]
theorem ok_M_better : okM H_M_better K_M_better = true := by decide +kernel
def K_M_exact_0 : List CE := [(0, .aload_n 0, 1, .inl ()), (1, .iconst 0, 1, .inl ()), (2, .putfield 1, 3, .inr (.inl (12, 0))), (5, .aload_n 0, 1, .inl ()), (6, .getfield 213, 3, .inr (.inl (12, 18))), (9, .ifCond .eq 11, 3, .inr (.inr (.inr 20))), (12, .iload_n 1, 1, .inl ()), (13, .iconst 2, 1, .inl ()), (14, .invokestatic 247, 3, .inr (.inr (.inr 168))), (17, .ifCond .ne 5, 3, .inr (.inr (.inr 22))), (20, .iconst (-1), 1, .inl ()), (21, .ireturn, 1, .inl ()), (22, .iconst (-1), 1, .inl ()), (23, .istore_n 2, 1, .inl ()), (24, .iconst 0, 1, .inl ()), (25, .istore_n 3, 1, .inl ()), (26, .iconst 1, 1, .inl ()), (27, .istore 4, 2, .inl ()), (29, .iconst 0, 1, .inl ()), (30, .istore 5, 2, .inl ()), (32, .iload 5, 2, .inl ()), (34, .aload_n 0, 1, .inl ()), (35, .getfield 226, 3, .inr (.inl (12, 20))), (38, .if_icmp .ge 67, 3, .inr (.inr (.inr 105))), (41, .aload_n 0, 1, .inl ()), (42, .invokevirtual 281, 3, .inr (.inr (.inr 173))), (45, .aload_n 0, 1, .inl ()), (46, .getfield 65, 3, .inr (.inl (12, 35))), (49, .iload 5, 2, .inl ()), (51, .iconst 0, 1, .inl ()), (52, .iastore, 1, .inl ()), (53, .aload_n 0, 1, .inl ()), (54, .invokevirtual 284, 3, .inr (.inr (.inr 174))), (57, .istore 6, 2, .inl ()), (59, .aload_n 0, 1, .inl ()), (60, .invokevirtual 287, 3, .inr (.inr (.inr 183))), (63, .istore 7, 2, .inl ()), (65, .iload_n 2, 1, .inl ()), (66, .ifCond .lt 23, 3, .inr (.inr (.inr 89))), (69, .iload 7, 2, .inl ()), (71, .i2l, 1, .inl ()), (72, .iload 4, 2, .inl ()), (74, .i2l, 1, .inl ()), (75, .lmul, 1, .inl ()), (76, .iload_n 3, 1, .inl ()), (77, .i2l, 1, .inl ()), (78, .iload 6, 2, .inl ()), (80, .i2l, 1, .inl ()), (81, .lmul, 1, .inl ()), (82, .lcmp, 1, .inl ())]
def K_M_exact_1 : List CE := [(83, .ifCond .gt 6, 3, .inr (.inr (.inr 89))), (86, .goto 13, 3, .inr (.inr (.inr 99))), (89, .iload 5, 2, .inl ()), (91, .istore_n 2, 1, .inl ()), (92, .iload 7, 2, .inl ()), (94, .istore_n 3, 1, .inl ()), (95, .iload 6, 2, .inl ()), (97, .istore 4, 2, .inl ()), (99, .iinc 5 1, 3, .inl ()), (102, .goto (-70), 3, .inr (.inr (.inr 32))), (105, .iload 4, 2, .inl ()), (107, .iload_n 3, 1, .inl ()), (108, .invokestatic 290, 3, .inr (.inr (.inr 184))), (111, .istore 5, 2, .inl ()), (113, .iload_n 1, 1, .inl ()), (114, .ifCond .ne 7, 3, .inr (.inr (.inr 121))), (117, .iload_n 2, 1, .inl ()), (118, .goto 20, 3, .inr (.inr (.inr 138))), (121, .iload_n 1, 1, .inl ()), (122, .iconst 1, 1, .inl ()), (123, .if_icmp .ne 10, 3, .inr (.inr (.inr 133))), (126, .iload_n 3, 1, .inl ()), (127, .iload 5, 2, .inl ()), (129, .idiv, 1, .inl ()), (130, .goto 8, 3, .inr (.inr (.inr 138))), (133, .iload 4, 2, .inl ()), (135, .iload 5, 2, .inl ()), (137, .idiv, 1, .inl ()), (138, .ireturn, 1, .inl ())]
def K_M_exact : List CE := K_M_exact_0 ++ (K_M_exact_1)
theorem ok_M_exact : okM H_M_exact K_M_exact = true := by decide +kernel
def K_M_lossy_0 : List CE := [(0, .aload_n 0, 1, .inl ()), (1, .iconst 0, 1, .inl ()), (2, .putfield 1, 3, .inr (.inl (12, 0))), (5, .aload_n 0, 1, .inl ()), (6, .getfield 213, 3, .inr (.inl (12, 18))), (9, .ifCond .eq 13, 3, .inr (.inr (.inr 22))), (12, .iload_n 1, 1, .inl ()), (13, .ifCond .lt 9, 3, .inr (.inr (.inr 22))), (16, .iload_n 1, 1, .inl ()), (17, .bipush 100, 2, .inl ()), (19, .if_icmp .le 5, 3, .inr (.inr (.inr 24))), (22, .iconst (-1), 1, .inl ()), (23, .ireturn, 1, .inl ()), (24, .aload_n 0, 1, .inl ()), (25, .invokevirtual 281, 3, .inr (.inr (.inr 173))), (28, .aload_n 0, 1, .inl ()), (29, .invokevirtual 284, 3, .inr (.inr (.inr 174))), (32, .i2l, 1, .inl ()), (33, .lstore_n 2, 1, .inl ()), (34, .lconst 0, 1, .inl ()), (35, .lstore 4, 2, .inl ()), (37, .iconst 0, 1, .inl ()), (38, .istore 6, 2, .inl ()), (40, .iload 6, 2, .inl ()), (42, .iconst 1, 1, .inl ()), (43, .aload_n 0, 1, .inl ()), (44, .getfield 226, 3, .inr (.inl (12, 20))), (47, .ishl, 1, .inl ()), (48, .if_icmp .ge 94, 3, .inr (.inr (.inr 142))), (51, .ldc2_w 328, 3, .inr (.inr (.inl (1000000000)))), (54, .lstore 7, 2, .inl ()), (56, .iconst 0, 1, .inl ()), (57, .istore 9, 2, .inl ()), (59, .iload 9, 2, .inl ()), (61, .aload_n 0, 1, .inl ()), (62, .getfield 226, 3, .inr (.inl (12, 20))), (65, .if_icmp .ge 43, 3, .inr (.inr (.inr 108))), (68, .lload 7, 2, .inl ()), (70, .iload_n 1, 1, .inl ()), (71, .i2l, 1, .inl ()), (72, .lmul, 1, .inl ()), (73, .ldc2_w 330, 3, .inr (.inr (.inl (100)))), (76, .ldiv, 1, .inl ()), (77, .lstore 10, 2, .inl ()), (79, .iload 6, 2, .inl ()), (81, .iload 9, 2, .inl ()), (83, .ishr, 1, .inl ()), (84, .iconst 1, 1, .inl ()), (85, .iand, 1, .inl ()), (86, .iconst 1, 1, .inl ())]
def K_M_lossy_1 : List CE := [(87, .if_icmp .ne 8, 3, .inr (.inr (.inr 95))), (90, .lload 10, 2, .inl ()), (92, .goto 8, 3, .inr (.inr (.inr 100))), (95, .lload 7, 2, .inl ()), (97, .lload 10, 2, .inl ()), (99, .lsub, 1, .inl ()), (100, .lstore 7, 2, .inl ()), (102, .iinc 9 1, 3, .inl ()), (105, .goto (-46), 3, .inr (.inr (.inr 59))), (108, .aload_n 0, 1, .inl ()), (109, .iload 6, 2, .inl ()), (111, .putfield 253, 3, .inr (.inl (12, 38))), (114, .lload 7, 2, .inl ()), (116, .lconst 0, 1, .inl ()), (117, .lcmp, 1, .inl ()), (118, .ifCond .le 18, 3, .inr (.inr (.inr 136))), (121, .lload 4, 2, .inl ()), (123, .lload 7, 2, .inl ()), (125, .aload_n 0, 1, .inl ()), (126, .invokevirtual 287, 3, .inr (.inr (.inr 183))), (129, .i2l, 1, .inl ()), (130, .lmul, 1, .inl ()), (131, .lload_n 2, 1, .inl ()), (132, .ldiv, 1, .inl ()), (133, .ladd, 1, .inl ()), (134, .lstore 4, 2, .inl ()), (136, .iinc 6 1, 3, .inl ()), (139, .goto (-99), 3, .inr (.inr (.inr 40))), (142, .lload 4, 2, .inl ()), (144, .l2i, 1, .inl ()), (145, .ireturn, 1, .inl ())]
def K_M_lossy : List CE := K_M_lossy_0 ++ (K_M_lossy_1)
theorem ok_M_lossy : okM H_M_lossy K_M_lossy = true := by decide +kernel
def K_M_route_0 : List CE := [(0, .aload_n 0, 1, .inl ()), (1, .iconst 0, 1, .inl ()), (2, .putfield 1, 3, .inr (.inl (12, 0))), (5, .aload_n 0, 1, .inl ()), (6, .iload_n 1, 1, .inl ()), (7, .invokevirtual 244, 3, .inr (.inr (.inr 167))), (10, .ifCond .eq 11, 3, .inr (.inr (.inr 21))), (13, .iload_n 2, 1, .inl ()), (14, .iconst 1, 1, .inl ()), (15, .invokestatic 247, 3, .inr (.inr (.inr 168))), (18, .ifCond .ne 5, 3, .inr (.inr (.inr 23))), (21, .iconst (-1), 1, .inl ()), (22, .ireturn, 1, .inl ()), (23, .iconst 0, 1, .inl ()), (24, .istore_n 3, 1, .inl ()), (25, .aload_n 0, 1, .inl ()), (26, .getfield 41, 3, .inr (.inl (12, 26))), (29, .iload_n 1, 1, .inl ()), (30, .iaload, 1, .inl ()), (31, .istore 4, 2, .inl ()), (33, .iconst 0, 1, .inl ()), (34, .istore 5, 2, .inl ()), (36, .iload_n 1, 1, .inl ()), (37, .istore 6, 2, .inl ()), (39, .aload_n 0, 1, .inl ()), (40, .getfield 47, 3, .inr (.inl (12, 28))), (43, .iload 6, 2, .inl ()), (45, .iaload, 1, .inl ()), (46, .ifCond .lt 70, 3, .inr (.inr (.inr 116))), (49, .aload_n 0, 1, .inl ()), (50, .getfield 53, 3, .inr (.inl (12, 30))), (53, .iconst 5, 1, .inl ()), (54, .aload_n 0, 1, .inl ()), (55, .getfield 50, 3, .inr (.inl (12, 29))), (58, .iload 6, 2, .inl ()), (60, .iaload, 1, .inl ()), (61, .imul, 1, .inl ()), (62, .aload_n 0, 1, .inl ()), (63, .getfield 47, 3, .inr (.inl (12, 28))), (66, .iload 6, 2, .inl ()), (68, .iaload, 1, .inl ()), (69, .iadd, 1, .inl ()), (70, .iaload, 1, .inl ()), (71, .istore 7, 2, .inl ()), (73, .iload 7, 2, .inl ()), (75, .ifCond .ge 6, 3, .inr (.inr (.inr 81))), (78, .iconst 1, 1, .inl ()), (79, .istore 5, 2, .inl ()), (81, .iload 4, 2, .inl ()), (83, .iload 7, 2, .inl ())]
def K_M_route_1 : List CE := [(85, .aload_n 0, 1, .inl ()), (86, .getfield 41, 3, .inr (.inl (12, 26))), (89, .aload_n 0, 1, .inl ()), (90, .getfield 47, 3, .inr (.inl (12, 28))), (93, .iload 6, 2, .inl ()), (95, .iaload, 1, .inl ()), (96, .iaload, 1, .inl ()), (97, .iadd, 1, .inl ()), (98, .iadd, 1, .inl ()), (99, .istore 4, 2, .inl ()), (101, .iinc 3 1, 3, .inl ()), (104, .aload_n 0, 1, .inl ()), (105, .getfield 47, 3, .inr (.inl (12, 28))), (108, .iload 6, 2, .inl ()), (110, .iaload, 1, .inl ()), (111, .istore 6, 2, .inl ()), (113, .goto (-74), 3, .inr (.inr (.inr 39))), (116, .iload_n 2, 1, .inl ()), (117, .ifCond .ne 7, 3, .inr (.inr (.inr 124))), (120, .iload_n 3, 1, .inl ()), (121, .goto 16, 3, .inr (.inr (.inr 137))), (124, .iload 5, 2, .inl ()), (126, .ifCond .eq 9, 3, .inr (.inr (.inr 135))), (129, .ldc_w 296, 3, .inr (.inr (.inl (-1000000)))), (132, .goto 5, 3, .inr (.inr (.inr 137))), (135, .iload 4, 2, .inl ()), (137, .ireturn, 1, .inl ())]
def K_M_route : List CE := K_M_route_0 ++ (K_M_route_1)
theorem ok_M_route : okM H_M_route K_M_route = true := by decide +kernel
def K_M_deaf : List CE := [(0, .aload_n 0, 1, .inl ()), (1, .iconst 0, 1, .inl ()), (2, .putfield 1, 3, .inr (.inl (12, 0))), (5, .aload_n 0, 1, .inl ()), (6, .getfield 213, 3, .inr (.inl (12, 18))), (9, .ifCond .ne 5, 3, .inr (.inr (.inr 14))), (12, .iconst (-1), 1, .inl ()), (13, .ireturn, 1, .inl ()), (14, .aload_n 0, 1, .inl ()), (15, .invokevirtual 281, 3, .inr (.inr (.inr 173))), (18, .aload_n 0, 1, .inl ()), (19, .invokevirtual 287, 3, .inr (.inr (.inr 183))), (22, .istore_n 1, 1, .inl ()), (23, .iconst 0, 1, .inl ()), (24, .istore_n 2, 1, .inl ()), (25, .iconst 0, 1, .inl ()), (26, .istore_n 3, 1, .inl ()), (27, .iload_n 3, 1, .inl ()), (28, .aload_n 0, 1, .inl ()), (29, .getfield 220, 3, .inr (.inl (12, 19))), (32, .if_icmp .ge 54, 3, .inr (.inr (.inr 86))), (35, .aload_n 0, 1, .inl ()), (36, .invokevirtual 281, 3, .inr (.inr (.inr 173))), (39, .iconst 0, 1, .inl ()), (40, .istore 4, 2, .inl ()), (42, .iload 4, 2, .inl ()), (44, .iconst 5, 1, .inl ()), (45, .if_icmp .ge 21, 3, .inr (.inr (.inr 66))), (48, .aload_n 0, 1, .inl ()), (49, .getfield 68, 3, .inr (.inl (12, 36))), (52, .iconst 5, 1, .inl ()), (53, .iload_n 3, 1, .inl ()), (54, .imul, 1, .inl ()), (55, .iload 4, 2, .inl ()), (57, .iadd, 1, .inl ()), (58, .iconst (-1), 1, .inl ()), (59, .iastore, 1, .inl ()), (60, .iinc 4 1, 3, .inl ()), (63, .goto (-21), 3, .inr (.inr (.inr 42))), (66, .aload_n 0, 1, .inl ()), (67, .invokevirtual 287, 3, .inr (.inr (.inr 183))), (70, .iload_n 1, 1, .inl ()), (71, .if_icmp .ge 9, 3, .inr (.inr (.inr 80))), (74, .iload_n 2, 1, .inl ()), (75, .iconst 1, 1, .inl ()), (76, .iload_n 3, 1, .inl ()), (77, .ishl, 1, .inl ()), (78, .ior, 1, .inl ()), (79, .istore_n 2, 1, .inl ()), (80, .iinc 3 1, 3, .inl ()), (83, .goto (-56), 3, .inr (.inr (.inr 27))), (86, .iload_n 2, 1, .inl ()), (87, .ireturn, 1, .inl ())]
theorem ok_M_deaf : okM H_M_deaf K_M_deaf = true := by decide +kernel
def K_M_helper_0 : List CE := [(0, .aload_n 0, 1, .inl ()), (1, .iconst 0, 1, .inl ()), (2, .putfield 1, 3, .inr (.inl (12, 0))), (5, .aload_n 0, 1, .inl ()), (6, .getfield 213, 3, .inr (.inl (12, 18))), (9, .ifCond .eq 11, 3, .inr (.inr (.inr 20))), (12, .iload_n 1, 1, .inl ()), (13, .iconst 1, 1, .inl ()), (14, .invokestatic 247, 3, .inr (.inr (.inr 168))), (17, .ifCond .ne 5, 3, .inr (.inr (.inr 22))), (20, .iconst (-1), 1, .inl ()), (21, .ireturn, 1, .inl ()), (22, .aload_n 0, 1, .inl ()), (23, .invokevirtual 281, 3, .inr (.inr (.inr 173))), (26, .iconst (-1), 1, .inl ()), (27, .istore_n 2, 1, .inl ()), (28, .iconst (-1), 1, .inl ()), (29, .istore_n 3, 1, .inl ()), (30, .iconst 0, 1, .inl ()), (31, .istore 4, 2, .inl ()), (33, .iload 4, 2, .inl ()), (35, .aload_n 0, 1, .inl ()), (36, .getfield 220, 3, .inr (.inl (12, 19))), (39, .if_icmp .ge 95, 3, .inr (.inr (.inr 134))), (42, .iconst 0, 1, .inl ()), (43, .istore 5, 2, .inl ()), (45, .iload 5, 2, .inl ()), (47, .aload_n 0, 1, .inl ()), (48, .getfield 226, 3, .inr (.inl (12, 20))), (51, .if_icmp .ge 77, 3, .inr (.inr (.inr 128))), (54, .aload_n 0, 1, .inl ()), (55, .getfield 53, 3, .inr (.inl (12, 30))), (58, .iconst 5, 1, .inl ()), (59, .iload 4, 2, .inl ()), (61, .imul, 1, .inl ()), (62, .iload 5, 2, .inl ()), (64, .iadd, 1, .inl ()), (65, .iaload, 1, .inl ()), (66, .ifCond .lt 6, 3, .inr (.inr (.inr 72))), (69, .goto 53, 3, .inr (.inr (.inr 122))), (72, .aload_n 0, 1, .inl ()), (73, .getfield 68, 3, .inr (.inl (12, 36))), (76, .iconst 5, 1, .inl ()), (77, .iload 4, 2, .inl ()), (79, .imul, 1, .inl ()), (80, .iload 5, 2, .inl ()), (82, .iadd, 1, .inl ()), (83, .iconst 0, 1, .inl ()), (84, .iastore, 1, .inl ()), (85, .aload_n 0, 1, .inl ())]
def K_M_helper_1 : List CE := [(86, .invokevirtual 287, 3, .inr (.inr (.inr 183))), (89, .istore 6, 2, .inl ()), (91, .aload_n 0, 1, .inl ()), (92, .getfield 68, 3, .inr (.inl (12, 36))), (95, .iconst 5, 1, .inl ()), (96, .iload 4, 2, .inl ()), (98, .imul, 1, .inl ()), (99, .iload 5, 2, .inl ()), (101, .iadd, 1, .inl ()), (102, .iconst (-1), 1, .inl ()), (103, .iastore, 1, .inl ()), (104, .iload 6, 2, .inl ()), (106, .iload_n 3, 1, .inl ()), (107, .if_icmp .le 15, 3, .inr (.inr (.inr 122))), (110, .bipush 10, 2, .inl ()), (112, .iload 4, 2, .inl ()), (114, .imul, 1, .inl ()), (115, .iload 5, 2, .inl ()), (117, .iadd, 1, .inl ()), (118, .istore_n 2, 1, .inl ()), (119, .iload 6, 2, .inl ()), (121, .istore_n 3, 1, .inl ()), (122, .iinc 5 1, 3, .inl ()), (125, .goto (-80), 3, .inr (.inr (.inr 45))), (128, .iinc 4 1, 3, .inl ()), (131, .goto (-98), 3, .inr (.inr (.inr 33))), (134, .iload_n 1, 1, .inl ()), (135, .ifCond .ne 7, 3, .inr (.inr (.inr 142))), (138, .iload_n 2, 1, .inl ()), (139, .goto 4, 3, .inr (.inr (.inr 143))), (142, .iload_n 3, 1, .inl ()), (143, .ireturn, 1, .inl ())]
def K_M_helper : List CE := K_M_helper_0 ++ (K_M_helper_1)
theorem ok_M_helper : okM H_M_helper K_M_helper = true := by decide +kernel
def K_M_draw : List CE := [(0, .aload_n 0, 1, .inl ()), (1, .aload_n 0, 1, .inl ()), (2, .getfield 332, 3, .inr (.inl (12, 51))), (5, .ldc2_w 336, 3, .inr (.inr (.inl (6364136223846793005)))), (8, .lmul, 1, .inl ()), (9, .ldc2_w 338, 3, .inr (.inr (.inl (1442695040888963407)))), (12, .ladd, 1, .inl ()), (13, .putfield 332, 3, .inr (.inl (12, 51))), (16, .aload_n 0, 1, .inl ()), (17, .getfield 332, 3, .inr (.inl (12, 51))), (20, .bipush 33, 2, .inl ()), (22, .lushr, 1, .inl ()), (23, .iload_n 1, 1, .inl ()), (24, .i2l, 1, .inl ()), (25, .lrem, 1, .inl ()), (26, .l2i, 1, .inl ()), (27, .ireturn, 1, .inl ())]
theorem ok_M_draw : okM H_M_draw K_M_draw = true := by decide +kernel
def K_M_seed : List CE := [(0, .aload_n 0, 1, .inl ()), (1, .iconst 0, 1, .inl ()), (2, .putfield 1, 3, .inr (.inl (12, 0))), (5, .aload_n 0, 1, .inl ()), (6, .lload_n 1, 1, .inl ()), (7, .putfield 332, 3, .inr (.inl (12, 51))), (10, .iconst 1, 1, .inl ()), (11, .ireturn, 1, .inl ())]
theorem ok_M_seed : okM H_M_seed K_M_seed = true := by decide +kernel
def K_M_night_0 : List CE := [(0, .aload_n 0, 1, .inl ()), (1, .iconst 0, 1, .inl ()), (2, .putfield 1, 3, .inr (.inl (12, 0))), (5, .aload_n 0, 1, .inl ()), (6, .getfield 213, 3, .inr (.inl (12, 18))), (9, .ifCond .eq 12, 3, .inr (.inr (.inr 21))), (12, .aload_n 0, 1, .inl ()), (13, .getfield 238, 3, .inr (.inl (12, 52))), (16, .bipush 40, 2, .inl ()), (18, .if_icmp .ne 5, 3, .inr (.inr (.inr 23))), (21, .iconst (-1), 1, .inl ()), (22, .ireturn, 1, .inl ()), (23, .aload_n 0, 1, .inl ()), (24, .invokevirtual 281, 3, .inr (.inr (.inr 173))), (27, .aload_n 0, 1, .inl ()), (28, .getfield 114, 3, .inr (.inl (12, 55))), (31, .aload_n 0, 1, .inl ()), (32, .getfield 238, 3, .inr (.inl (12, 52))), (35, .aload_n 0, 1, .inl ()), (36, .getfield 332, 3, .inr (.inl (12, 51))), (39, .lastore, 1, .inl ()), (40, .iconst 0, 1, .inl ()), (41, .istore_n 1, 1, .inl ()), (42, .iload_n 1, 1, .inl ()), (43, .aload_n 0, 1, .inl ()), (44, .getfield 226, 3, .inr (.inl (12, 20))), (47, .if_icmp .ge 36, 3, .inr (.inr (.inr 83))), (50, .aload_n 0, 1, .inl ()), (51, .getfield 74, 3, .inr (.inl (12, 39))), (54, .iload_n 1, 1, .inl ()), (55, .aload_n 0, 1, .inl ()), (56, .iconst 2, 1, .inl ()), (57, .aload_n 0, 1, .inl ()), (58, .getfield 44, 3, .inr (.inl (12, 27))), (61, .iload_n 1, 1, .inl ()), (62, .iaload, 1, .inl ()), (63, .imul, 1, .inl ()), (64, .iconst 1, 1, .inl ()), (65, .iadd, 1, .inl ()), (66, .invokevirtual 340, 3, .inr (.inr (.inr 223))), (69, .aload_n 0, 1, .inl ()), (70, .getfield 44, 3, .inr (.inl (12, 27))), (73, .iload_n 1, 1, .inl ()), (74, .iaload, 1, .inl ()), (75, .isub, 1, .inl ()), (76, .iastore, 1, .inl ()), (77, .iinc 1 1, 3, .inl ()), (80, .goto (-38), 3, .inr (.inr (.inr 42))), (83, .aload_n 0, 1, .inl ()), (84, .invokevirtual 256, 3, .inr (.inr (.inr 178)))]
def K_M_night_1 : List CE := [(87, .iconst 0, 1, .inl ()), (88, .istore_n 1, 1, .inl ()), (89, .iload_n 1, 1, .inl ()), (90, .aload_n 0, 1, .inl ()), (91, .getfield 220, 3, .inr (.inl (12, 19))), (94, .if_icmp .ge 28, 3, .inr (.inr (.inr 122))), (97, .aload_n 0, 1, .inl ()), (98, .getfield 107, 3, .inr (.inl (12, 53))), (101, .iconst 4, 1, .inl ()), (102, .aload_n 0, 1, .inl ()), (103, .getfield 238, 3, .inr (.inl (12, 52))), (106, .imul, 1, .inl ()), (107, .iload_n 1, 1, .inl ()), (108, .iadd, 1, .inl ()), (109, .aload_n 0, 1, .inl ()), (110, .getfield 80, 3, .inr (.inl (12, 41))), (113, .iload_n 1, 1, .inl ()), (114, .iaload, 1, .inl ()), (115, .iastore, 1, .inl ()), (116, .iinc 1 1, 3, .inl ()), (119, .goto (-30), 3, .inr (.inr (.inr 89))), (122, .aload_n 0, 1, .inl ()), (123, .getfield 110, 3, .inr (.inl (12, 54))), (126, .aload_n 0, 1, .inl ()), (127, .getfield 238, 3, .inr (.inl (12, 52))), (130, .aload_n 0, 1, .inl ()), (131, .invokevirtual 275, 3, .inr (.inr (.inr 182))), (134, .bastore, 1, .inl ()), (135, .aload_n 0, 1, .inl ()), (136, .dup, 1, .inl ()), (137, .getfield 238, 3, .inr (.inl (12, 52))), (140, .iconst 1, 1, .inl ()), (141, .iadd, 1, .inl ()), (142, .putfield 238, 3, .inr (.inl (12, 52))), (145, .aload_n 0, 1, .inl ()), (146, .getfield 110, 3, .inr (.inl (12, 54))), (149, .aload_n 0, 1, .inl ()), (150, .getfield 238, 3, .inr (.inl (12, 52))), (153, .iconst 1, 1, .inl ()), (154, .isub, 1, .inl ()), (155, .baload, 1, .inl ()), (156, .ifCond .eq 7, 3, .inr (.inr (.inr 163))), (159, .iconst 1, 1, .inl ()), (160, .goto 4, 3, .inr (.inr (.inr 164))), (163, .iconst 0, 1, .inl ()), (164, .ireturn, 1, .inl ())]
def K_M_night : List CE := K_M_night_0 ++ (K_M_night_1)
theorem ok_M_night : okM H_M_night K_M_night = true := by decide +kernel
def K_M_isNight : List CE := [(0, .aload_n 0, 1, .inl ()), (1, .getfield 213, 3, .inr (.inl (12, 18))), (4, .ifCond .eq 19, 3, .inr (.inr (.inr 23))), (7, .iload_n 1, 1, .inl ()), (8, .ifCond .lt 15, 3, .inr (.inr (.inr 23))), (11, .iload_n 1, 1, .inl ()), (12, .aload_n 0, 1, .inl ()), (13, .getfield 238, 3, .inr (.inl (12, 52))), (16, .if_icmp .ge 7, 3, .inr (.inr (.inr 23))), (19, .iconst 1, 1, .inl ()), (20, .goto 4, 3, .inr (.inr (.inr 24))), (23, .iconst 0, 1, .inl ()), (24, .ireturn, 1, .inl ())]
theorem ok_M_isNight : okM H_M_isNight K_M_isNight = true := by decide +kernel
def K_M_turned : List CE := [(0, .aload_n 0, 1, .inl ()), (1, .iconst 0, 1, .inl ()), (2, .putfield 1, 3, .inr (.inl (12, 0))), (5, .aload_n 0, 1, .inl ()), (6, .iload_n 1, 1, .inl ()), (7, .invokevirtual 343, 3, .inr (.inr (.inr 226))), (10, .ifCond .eq 27, 3, .inr (.inr (.inr 37))), (13, .aload_n 0, 1, .inl ()), (14, .iload_n 2, 1, .inl ()), (15, .invokevirtual 250, 3, .inr (.inr (.inr 166))), (18, .ifCond .eq 19, 3, .inr (.inr (.inr 37))), (21, .aload_n 0, 1, .inl ()), (22, .getfield 107, 3, .inr (.inl (12, 53))), (25, .iconst 4, 1, .inl ()), (26, .iload_n 1, 1, .inl ()), (27, .imul, 1, .inl ()), (28, .iload_n 2, 1, .inl ()), (29, .iadd, 1, .inl ()), (30, .iaload, 1, .inl ()), (31, .ldc_w 259, 3, .inr (.inr (.inl (1000000)))), (34, .if_icmp .ne 7, 3, .inr (.inr (.inr 41))), (37, .ldc_w 296, 3, .inr (.inr (.inl (-1000000)))), (40, .ireturn, 1, .inl ()), (41, .aload_n 0, 1, .inl ()), (42, .getfield 107, 3, .inr (.inl (12, 53))), (45, .iconst 4, 1, .inl ()), (46, .iload_n 1, 1, .inl ()), (47, .imul, 1, .inl ()), (48, .iload_n 2, 1, .inl ()), (49, .iadd, 1, .inl ()), (50, .iaload, 1, .inl ()), (51, .ireturn, 1, .inl ())]
theorem ok_M_turned : okM H_M_turned K_M_turned = true := by decide +kernel
def K_M_opened : List CE := [(0, .aload_n 0, 1, .inl ()), (1, .iconst 0, 1, .inl ()), (2, .putfield 1, 3, .inr (.inl (12, 0))), (5, .aload_n 0, 1, .inl ()), (6, .iload_n 1, 1, .inl ()), (7, .invokevirtual 343, 3, .inr (.inr (.inr 226))), (10, .ifCond .ne 7, 3, .inr (.inr (.inr 17))), (13, .iconst (-1), 1, .inl ()), (14, .goto 17, 3, .inr (.inr (.inr 31))), (17, .aload_n 0, 1, .inl ()), (18, .getfield 110, 3, .inr (.inl (12, 54))), (21, .iload_n 1, 1, .inl ()), (22, .baload, 1, .inl ()), (23, .ifCond .eq 7, 3, .inr (.inr (.inr 30))), (26, .iconst 1, 1, .inl ()), (27, .goto 4, 3, .inr (.inr (.inr 31))), (30, .iconst 0, 1, .inl ()), (31, .ireturn, 1, .inl ())]
theorem ok_M_opened : okM H_M_opened K_M_opened = true := by decide +kernel
def K_M_undo : List CE := [(0, .aload_n 0, 1, .inl ()), (1, .iconst 0, 1, .inl ()), (2, .putfield 1, 3, .inr (.inl (12, 0))), (5, .aload_n 0, 1, .inl ()), (6, .iconst 0, 1, .inl ()), (7, .invokevirtual 343, 3, .inr (.inr (.inr 226))), (10, .ifCond .ne 5, 3, .inr (.inr (.inr 15))), (13, .iconst (-1), 1, .inl ()), (14, .ireturn, 1, .inl ()), (15, .aload_n 0, 1, .inl ()), (16, .dup, 1, .inl ()), (17, .getfield 238, 3, .inr (.inl (12, 52))), (20, .iconst 1, 1, .inl ()), (21, .isub, 1, .inl ()), (22, .putfield 238, 3, .inr (.inl (12, 52))), (25, .aload_n 0, 1, .inl ()), (26, .aload_n 0, 1, .inl ()), (27, .getfield 114, 3, .inr (.inl (12, 55))), (30, .aload_n 0, 1, .inl ()), (31, .getfield 238, 3, .inr (.inl (12, 52))), (34, .laload, 1, .inl ()), (35, .putfield 332, 3, .inr (.inl (12, 51))), (38, .aload_n 0, 1, .inl ()), (39, .getfield 238, 3, .inr (.inl (12, 52))), (42, .ireturn, 1, .inl ())]
theorem ok_M_undo : okM H_M_undo K_M_undo = true := by decide +kernel
def K_M_image_0 : List CE := [(0, .aload_n 0, 1, .inl ()), (1, .iconst 0, 1, .inl ()), (2, .putfield 1, 3, .inr (.inl (12, 0))), (5, .aload_n 0, 1, .inl ()), (6, .getfield 213, 3, .inr (.inl (12, 18))), (9, .ifCond .ne 5, 3, .inr (.inr (.inr 14))), (12, .iconst (-1), 1, .inl ()), (13, .ireturn, 1, .inl ()), (14, .aload_n 0, 1, .inl ()), (15, .iconst 1, 1, .inl ()), (16, .putfield 241, 3, .inr (.inl (12, 56))), (19, .aload_n 0, 1, .inl ()), (20, .aload_n 0, 1, .inl ()), (21, .getfield 238, 3, .inr (.inl (12, 52))), (24, .putfield 346, 3, .inr (.inl (12, 57))), (27, .aload_n 0, 1, .inl ()), (28, .aload_n 0, 1, .inl ()), (29, .getfield 235, 3, .inr (.inl (12, 49))), (32, .putfield 349, 3, .inr (.inl (12, 58))), (35, .aload_n 0, 1, .inl ()), (36, .aload_n 0, 1, .inl ()), (37, .getfield 332, 3, .inr (.inl (12, 51))), (40, .putfield 352, 3, .inr (.inl (12, 59))), (43, .iconst 0, 1, .inl ()), (44, .istore_n 1, 1, .inl ()), (45, .iload_n 1, 1, .inl ()), (46, .iconst 4, 1, .inl ()), (47, .if_icmp .ge 21, 3, .inr (.inr (.inr 68))), (50, .aload_n 0, 1, .inl ()), (51, .getfield 118, 3, .inr (.inl (12, 60))), (54, .iload_n 1, 1, .inl ()), (55, .aload_n 0, 1, .inl ()), (56, .getfield 38, 3, .inr (.inl (12, 25))), (59, .iload_n 1, 1, .inl ()), (60, .iaload, 1, .inl ()), (61, .iastore, 1, .inl ()), (62, .iinc 1 1, 3, .inl ()), (65, .goto (-20), 3, .inr (.inr (.inr 45))), (68, .iconst 0, 1, .inl ()), (69, .istore_n 1, 1, .inl ()), (70, .iload_n 1, 1, .inl ()), (71, .bipush 30, 2, .inl ()), (73, .if_icmp .ge 21, 3, .inr (.inr (.inr 94))), (76, .aload_n 0, 1, .inl ()), (77, .getfield 121, 3, .inr (.inl (12, 61))), (80, .iload_n 1, 1, .inl ()), (81, .aload_n 0, 1, .inl ()), (82, .getfield 101, 3, .inr (.inl (12, 48))), (85, .iload_n 1, 1, .inl ()), (86, .iaload, 1, .inl ())]
def K_M_image_1 : List CE := [(87, .iastore, 1, .inl ()), (88, .iinc 1 1, 3, .inl ()), (91, .goto (-21), 3, .inr (.inr (.inr 70))), (94, .iconst 0, 1, .inl ()), (95, .istore_n 1, 1, .inl ()), (96, .iload_n 1, 1, .inl ()), (97, .sipush 160, 3, .inl ()), (100, .if_icmp .ge 21, 3, .inr (.inr (.inr 121))), (103, .aload_n 0, 1, .inl ()), (104, .getfield 124, 3, .inr (.inl (12, 62))), (107, .iload_n 1, 1, .inl ()), (108, .aload_n 0, 1, .inl ()), (109, .getfield 107, 3, .inr (.inl (12, 53))), (112, .iload_n 1, 1, .inl ()), (113, .iaload, 1, .inl ()), (114, .iastore, 1, .inl ()), (115, .iinc 1 1, 3, .inl ()), (118, .goto (-22), 3, .inr (.inr (.inr 96))), (121, .iconst 0, 1, .inl ()), (122, .istore_n 1, 1, .inl ()), (123, .iload_n 1, 1, .inl ()), (124, .bipush 40, 2, .inl ()), (126, .if_icmp .ge 33, 3, .inr (.inr (.inr 159))), (129, .aload_n 0, 1, .inl ()), (130, .getfield 127, 3, .inr (.inl (12, 63))), (133, .iload_n 1, 1, .inl ()), (134, .aload_n 0, 1, .inl ()), (135, .getfield 110, 3, .inr (.inl (12, 54))), (138, .iload_n 1, 1, .inl ()), (139, .baload, 1, .inl ()), (140, .bastore, 1, .inl ()), (141, .aload_n 0, 1, .inl ()), (142, .getfield 130, 3, .inr (.inl (12, 64))), (145, .iload_n 1, 1, .inl ()), (146, .aload_n 0, 1, .inl ()), (147, .getfield 114, 3, .inr (.inl (12, 55))), (150, .iload_n 1, 1, .inl ()), (151, .laload, 1, .inl ()), (152, .lastore, 1, .inl ()), (153, .iinc 1 1, 3, .inl ()), (156, .goto (-33), 3, .inr (.inr (.inr 123))), (159, .aload_n 0, 1, .inl ()), (160, .getfield 238, 3, .inr (.inl (12, 52))), (163, .ireturn, 1, .inl ())]
def K_M_image : List CE := K_M_image_0 ++ (K_M_image_1)
theorem ok_M_image : okM H_M_image K_M_image = true := by decide +kernel
def K_M_back_0 : List CE := [(0, .aload_n 0, 1, .inl ()), (1, .iconst 0, 1, .inl ()), (2, .putfield 1, 3, .inr (.inl (12, 0))), (5, .aload_n 0, 1, .inl ()), (6, .getfield 213, 3, .inr (.inl (12, 18))), (9, .ifCond .eq 10, 3, .inr (.inr (.inr 19))), (12, .aload_n 0, 1, .inl ()), (13, .getfield 241, 3, .inr (.inl (12, 56))), (16, .ifCond .ne 5, 3, .inr (.inr (.inr 21))), (19, .iconst (-1), 1, .inl ()), (20, .ireturn, 1, .inl ()), (21, .aload_n 0, 1, .inl ()), (22, .aload_n 0, 1, .inl ()), (23, .getfield 346, 3, .inr (.inl (12, 57))), (26, .putfield 238, 3, .inr (.inl (12, 52))), (29, .aload_n 0, 1, .inl ()), (30, .aload_n 0, 1, .inl ()), (31, .getfield 349, 3, .inr (.inl (12, 58))), (34, .putfield 235, 3, .inr (.inl (12, 49))), (37, .aload_n 0, 1, .inl ()), (38, .aload_n 0, 1, .inl ()), (39, .getfield 352, 3, .inr (.inl (12, 59))), (42, .putfield 332, 3, .inr (.inl (12, 51))), (45, .iconst 0, 1, .inl ()), (46, .istore_n 1, 1, .inl ()), (47, .iload_n 1, 1, .inl ()), (48, .iconst 4, 1, .inl ()), (49, .if_icmp .ge 21, 3, .inr (.inr (.inr 70))), (52, .aload_n 0, 1, .inl ()), (53, .getfield 38, 3, .inr (.inl (12, 25))), (56, .iload_n 1, 1, .inl ()), (57, .aload_n 0, 1, .inl ()), (58, .getfield 118, 3, .inr (.inl (12, 60))), (61, .iload_n 1, 1, .inl ()), (62, .iaload, 1, .inl ()), (63, .iastore, 1, .inl ()), (64, .iinc 1 1, 3, .inl ()), (67, .goto (-20), 3, .inr (.inr (.inr 47))), (70, .iconst 0, 1, .inl ()), (71, .istore_n 1, 1, .inl ()), (72, .iload_n 1, 1, .inl ()), (73, .bipush 30, 2, .inl ()), (75, .if_icmp .ge 21, 3, .inr (.inr (.inr 96))), (78, .aload_n 0, 1, .inl ()), (79, .getfield 101, 3, .inr (.inl (12, 48))), (82, .iload_n 1, 1, .inl ()), (83, .aload_n 0, 1, .inl ()), (84, .getfield 121, 3, .inr (.inl (12, 61))), (87, .iload_n 1, 1, .inl ()), (88, .iaload, 1, .inl ())]
def K_M_back_1 : List CE := [(89, .iastore, 1, .inl ()), (90, .iinc 1 1, 3, .inl ()), (93, .goto (-21), 3, .inr (.inr (.inr 72))), (96, .iconst 0, 1, .inl ()), (97, .istore_n 1, 1, .inl ()), (98, .iload_n 1, 1, .inl ()), (99, .sipush 160, 3, .inl ()), (102, .if_icmp .ge 21, 3, .inr (.inr (.inr 123))), (105, .aload_n 0, 1, .inl ()), (106, .getfield 107, 3, .inr (.inl (12, 53))), (109, .iload_n 1, 1, .inl ()), (110, .aload_n 0, 1, .inl ()), (111, .getfield 124, 3, .inr (.inl (12, 62))), (114, .iload_n 1, 1, .inl ()), (115, .iaload, 1, .inl ()), (116, .iastore, 1, .inl ()), (117, .iinc 1 1, 3, .inl ()), (120, .goto (-22), 3, .inr (.inr (.inr 98))), (123, .iconst 0, 1, .inl ()), (124, .istore_n 1, 1, .inl ()), (125, .iload_n 1, 1, .inl ()), (126, .bipush 40, 2, .inl ()), (128, .if_icmp .ge 33, 3, .inr (.inr (.inr 161))), (131, .aload_n 0, 1, .inl ()), (132, .getfield 110, 3, .inr (.inl (12, 54))), (135, .iload_n 1, 1, .inl ()), (136, .aload_n 0, 1, .inl ()), (137, .getfield 127, 3, .inr (.inl (12, 63))), (140, .iload_n 1, 1, .inl ()), (141, .baload, 1, .inl ()), (142, .bastore, 1, .inl ()), (143, .aload_n 0, 1, .inl ()), (144, .getfield 114, 3, .inr (.inl (12, 55))), (147, .iload_n 1, 1, .inl ()), (148, .aload_n 0, 1, .inl ()), (149, .getfield 130, 3, .inr (.inl (12, 64))), (152, .iload_n 1, 1, .inl ()), (153, .laload, 1, .inl ()), (154, .lastore, 1, .inl ()), (155, .iinc 1 1, 3, .inl ()), (158, .goto (-33), 3, .inr (.inr (.inr 125))), (161, .aload_n 0, 1, .inl ()), (162, .getfield 238, 3, .inr (.inl (12, 52))), (165, .ireturn, 1, .inl ())]
def K_M_back : List CE := K_M_back_0 ++ (K_M_back_1)
theorem ok_M_back : okM H_M_back K_M_back = true := by decide +kernel
def K_M_count : List CE := [(0, .aload_n 0, 1, .inl ()), (1, .iconst 0, 1, .inl ()), (2, .putfield 1, 3, .inr (.inl (12, 0))), (5, .iload_n 1, 1, .inl ()), (6, .tableswitch 122 0 8 #[50, 55, 60, 65, 70, 75, 80, 85, 90], 50, .inl ()), (56, .aload_n 0, 1, .inl ()), (57, .getfield 220, 3, .inr (.inl (12, 19))), (60, .ireturn, 1, .inl ()), (61, .aload_n 0, 1, .inl ()), (62, .getfield 226, 3, .inr (.inl (12, 20))), (65, .ireturn, 1, .inl ()), (66, .aload_n 0, 1, .inl ()), (67, .getfield 223, 3, .inr (.inl (12, 31))), (70, .ireturn, 1, .inl ()), (71, .aload_n 0, 1, .inl ()), (72, .getfield 136, 3, .inr (.inl (12, 2))), (75, .ireturn, 1, .inl ()), (76, .aload_n 0, 1, .inl ()), (77, .getfield 229, 3, .inr (.inl (12, 21))), (80, .ireturn, 1, .inl ()), (81, .aload_n 0, 1, .inl ()), (82, .getfield 232, 3, .inr (.inl (12, 22))), (85, .ireturn, 1, .inl ()), (86, .aload_n 0, 1, .inl ()), (87, .getfield 235, 3, .inr (.inl (12, 49))), (90, .ireturn, 1, .inl ()), (91, .aload_n 0, 1, .inl ()), (92, .getfield 238, 3, .inr (.inl (12, 52))), (95, .ireturn, 1, .inl ()), (96, .iconst 0, 1, .inl ()), (97, .istore_n 2, 1, .inl ()), (98, .iconst 0, 1, .inl ()), (99, .istore_n 3, 1, .inl ()), (100, .iload_n 3, 1, .inl ()), (101, .aload_n 0, 1, .inl ()), (102, .getfield 238, 3, .inr (.inl (12, 52))), (105, .if_icmp .ge 21, 3, .inr (.inr (.inr 126))), (108, .aload_n 0, 1, .inl ()), (109, .getfield 110, 3, .inr (.inl (12, 54))), (112, .iload_n 3, 1, .inl ()), (113, .baload, 1, .inl ()), (114, .ifCond .eq 6, 3, .inr (.inr (.inr 120))), (117, .iinc 2 1, 3, .inl ()), (120, .iinc 3 1, 3, .inl ()), (123, .goto (-23), 3, .inr (.inr (.inr 100))), (126, .iload_n 2, 1, .inl ()), (127, .ireturn, 1, .inl ()), (128, .ldc_w 296, 3, .inr (.inr (.inl (-1000000)))), (131, .ireturn, 1, .inl ())]
theorem ok_M_count : okM H_M_count K_M_count = true := by decide +kernel
def K_Integer_bitCount : List CE := [(0, .iload_n 0, 1, .inl ()), (1, .iload_n 0, 1, .inl ()), (2, .iconst 1, 1, .inl ()), (3, .iushr, 1, .inl ()), (4, .ldc_w 265, 3, .inr (.inr (.inl (1431655765)))), (7, .iand, 1, .inl ()), (8, .isub, 1, .inl ()), (9, .istore_n 0, 1, .inl ()), (10, .iload_n 0, 1, .inl ()), (11, .ldc_w 266, 3, .inr (.inr (.inl (858993459)))), (14, .iand, 1, .inl ()), (15, .iload_n 0, 1, .inl ()), (16, .iconst 2, 1, .inl ()), (17, .iushr, 1, .inl ()), (18, .ldc_w 266, 3, .inr (.inr (.inl (858993459)))), (21, .iand, 1, .inl ()), (22, .iadd, 1, .inl ()), (23, .istore_n 0, 1, .inl ()), (24, .iload_n 0, 1, .inl ()), (25, .iload_n 0, 1, .inl ()), (26, .iconst 4, 1, .inl ()), (27, .iushr, 1, .inl ()), (28, .iadd, 1, .inl ()), (29, .ldc_w 267, 3, .inr (.inr (.inl (252645135)))), (32, .iand, 1, .inl ()), (33, .istore_n 0, 1, .inl ()), (34, .iload_n 0, 1, .inl ()), (35, .iload_n 0, 1, .inl ()), (36, .bipush 8, 2, .inl ()), (38, .iushr, 1, .inl ()), (39, .iadd, 1, .inl ()), (40, .istore_n 0, 1, .inl ()), (41, .iload_n 0, 1, .inl ()), (42, .iload_n 0, 1, .inl ()), (43, .bipush 16, 2, .inl ()), (45, .iushr, 1, .inl ()), (46, .iadd, 1, .inl ()), (47, .istore_n 0, 1, .inl ()), (48, .iload_n 0, 1, .inl ()), (49, .bipush 63, 2, .inl ()), (51, .iand, 1, .inl ()), (52, .ireturn, 1, .inl ())]
theorem ok_Integer_bitCount : okM H_Integer_bitCount K_Integer_bitCount = true := by decide +kernel
end
section
/-! loops, frames, reading what was written -/
theorem lp_up {σ : Type} {P : Int → σ → Prop} (I : Int → σ → Prop) (n : Int) (hx : ∀ i s, n ≤ i → I i s → P i s) (hs : ∀ i s, i < n → I i s → (∀ s', I (i + 1) s' → P (i + 1) s') → P i s) (i : Int) (s : σ) (h : I i s) : P i s := by
  have key : ∀ (k : Nat) (i : Int) (s : σ), n - i ≤ k → I i s → P i s := by
    intro k
    induction k with
    | zero => intro i s hk h; exact hx i s (by omega) h
    | succ k ih =>
      intro i s hk h
      by_cases hi : n ≤ i
      · exact hx i s hi h
      · exact hs i s (by omega) h (fun s' h' => ih (i + 1) s' (by omega) h')
  exact key (n - i).toNat i s (by omega) h
theorem lp_dn {σ : Type} {P : Int → σ → Prop} (I : Int → σ → Prop) (hx : ∀ i s, i < 0 → I i s → P i s) (hs : ∀ i s, 0 ≤ i → I i s → (∀ s', I (i - 1) s' → P (i - 1) s') → P i s) (i : Int) (s : σ) (h : I i s) : P i s := by
  have key : ∀ (k : Nat) (i : Int) (s : σ), i < k → I i s → P i s := by
    intro k
    induction k with
    | zero => intro i s hk h; exact hx i s (by omega) h
    | succ k ih =>
      intro i s hk h
      by_cases hi : i < 0
      · exact hx i s hi h
      · exact hs i s (by omega) h (fun s' h' => ih (i - 1) s' (by omega) h')
  exact key (i + 1).toNat i s (by omega) h
theorem lp_me {σ : Type} {P : σ → Prop} (I : σ → Prop) (μ : σ → Nat) (hs : ∀ s, I s → (∀ s', I s' → μ s' < μ s → P s') → P s) (s : σ) (h : I s) : P s := by
  have key : ∀ (k : Nat) (s : σ), μ s < k → I s → P s := by
    intro k
    induction k with
    | zero => intro s hk; omega
    | succ k ih => intro s hk h; exact hs s h (fun s' h' hm => ih s' (by omega) h')
  exact key (μ s + 1) s (by omega) h
theorem up_s (S : St) (c : Nat) (j v : Int) : up S c j v c j = v := by rw [up_c]; simp
theorem up_n (S : St) (c : Nat) {j j' : Int} (v : Int) (h : j' ≠ j) : up S c j v c j' = S c j' := by rw [up_c]; simp [h]
theorem upr (S : St) (c : Nat) (j v : Int) (c' : Nat) (j' : Int) : up S c j v c' j' = if c' = c ∧ j' = j then v else S c' j' := by
  by_cases hc : c' = c
  · subst hc
    rw [up_c]
    by_cases hj : j' = j <;> simp [hj]
  · rw [up_o S j v hc]
    simp [hc]
/-- nothing changed but the cells X and the single slots Y -/
def Fr (X : List Nat) (Y : List (Nat × Int)) (S S' : St) : Prop := ∀ c j, c ∉ X → (c, j) ∉ Y → S' c j = S c j
theorem Fr.rf (X : List Nat) (Y : List (Nat × Int)) (S : St) : Fr X Y S S := fun _ _ _ _ => rfl
theorem Fr.tr {X : List Nat} {Y : List (Nat × Int)} {S S1 S2 : St} (h : Fr X Y S S1) (h2 : Fr X Y S1 S2) : Fr X Y S S2 := fun c j hx hy => (h2 c j hx hy).trans (h c j hx hy)
theorem Fr.mo {X X' : List Nat} {Y Y' : List (Nat × Int)} {S S1 : St} (h : Fr X Y S S1) (hX : X.all (fun c => X'.contains c) = true) (hY : Y.all (fun q => X'.contains q.1 || Y'.contains q) = true) : Fr X' Y' S S1 := by
  intro c j hx hy
  refine h c j (fun z => hx ?_) (fun z => ?_)
  · have := List.all_eq_true.mp hX c z
    simpa using this
  · have := List.all_eq_true.mp hY (c, j) z
    rcases Bool.or_eq_true_iff.mp this with q | q
    · exact hx (by simpa using q)
    · exact hy (by simpa using q)
theorem Fr.up {X : List Nat} {Y : List (Nat × Int)} {S S1 : St} (h : Fr X Y S S1) (c : Nat) (j v : Int) (hc : (X.contains c || Y.contains (c, j)) = true) : Fr X Y S (up S1 c j v) := by
  intro c' j' hx hy
  rw [upr]
  split
  · rename_i z
    obtain ⟨rfl, rfl⟩ := z
    rcases Bool.or_eq_true_iff.mp hc with q | q
    · exact absurd (by simpa using q) hx
    · exact absurd (by simpa using q) hy
  · exact h c' j' hx hy
theorem Fr.c {X : List Nat} {Y : List (Nat × Int)} {S S1 : St} (h : Fr X Y S S1) (c : Nat) (hc : (X.contains c || Y.any (fun q => Nat.beq q.1 c)) = false) : S1 c = S c := by
  funext j
  have h1 := Bool.or_eq_false_iff.mp hc
  refine h c j (by simpa using h1.1) (fun z => ?_)
  have h2 := List.any_eq_false.mp h1.2 (c, j) z
  exact h2 (Nat.beq_refl c)
theorem Fr.s {X : List Nat} {Y : List (Nat × Int)} {S S1 : St} (h : Fr X Y S S1) (c : Nat) (j : Int) (hc : (X.contains c || Y.contains (c, j)) = false) : S1 c j = S c j := by
  have h1 := Bool.or_eq_false_iff.mp hc
  exact h c j (by simpa using h1.1) (by simpa using h1.2)
end
section
/-! the pure words: times of signs, plans, turns, what opens -/
/-- when guard g hears sign s; 1000000: never -/
def hdM (al f : Int → Int) (g s : Int) : Int := if al (5 * g + s) < 0 ∨ f s = 1000000 then 1000000 else f s + al (5 * g + s)
def uf (f : Int → Int) (i v : Int) : Int → Int := fun j => if j = i then v else f j
/-- the time of sign i, by those ahead of it -/
def sgb (beh snd al f : Int → Int) (i : Int) : Int := if beh i < 0 then 0 else hdM al f (snd i) (beh i)
def sgv (beh snd ap al : Int → Int) (gone : Int) (off f : Int → Int) (i : Int) : Int :=
  if sgb beh snd al f i = 1000000 ∨ iand (ishr gone i) 1 = 1 then 1000000 else sgb beh snd al f i + ap i + off i
def snF (beh snd ap al : Int → Int) (gone : Int) (off : Int → Int) : Nat → Int → Int
  | 0 => fun _ => 0
  | k + 1 => uf (snF beh snd ap al gone off k) k (sgv beh snd ap al gone off (snF beh snd ap al gone off k) k)
/-- a land's signs within their bounds -/
def sgOk (n : Int) (beh snd ap al : Int → Int) : Prop := (0 ≤ n ∧ n ≤ 5) ∧ (∀ i, 0 ≤ i → i < n → -1 ≤ beh i ∧ beh i < i ∧ 0 ≤ snd i ∧ snd i ≤ 3 ∧ -9 ≤ ap i ∧ ap i ≤ 68) ∧ ∀ j, 0 ≤ j → j < 20 → -1 ≤ al j ∧ al j ≤ 9
def ofOk (n : Int) (off : Int → Int) : Prop := ∀ i, 0 ≤ i → i < n → -3 ≤ off i ∧ off i ≤ 3
theorem hdM_b {al f : Int → Int} {g s b : Int} (hb : 0 ≤ b) (hf : f s = 1000000 ∨ (-b ≤ f s ∧ f s ≤ b)) (hl : -1 ≤ al (5 * g + s) ∧ al (5 * g + s) ≤ 9) : hdM al f g s = 1000000 ∨ (-b ≤ hdM al f g s ∧ hdM al f g s ≤ b + 9) := by
  unfold hdM
  split
  · exact Or.inl rfl
  · omega
theorem snF_lt {beh snd ap al : Int → Int} {gone : Int} {off : Int → Int} (k : Nat) (j : Int) (hj : j < k) : ∀ d : Nat, snF beh snd ap al gone off (k + d) j = snF beh snd ap al gone off k j
  | 0 => rfl
  | d + 1 => by
    rw [show k + (d + 1) = (k + d) + 1 by omega, snF, uf, if_neg (by omega)]
    exact snF_lt k j hj d
theorem snF_b {n : Int} {beh snd ap al : Int → Int} {gone : Int} {off : Int → Int} (h1 : sgOk n beh snd ap al) (h2 : ofOk n off) : ∀ (k : Nat), (k : Int) ≤ n → ∀ j : Int, 0 ≤ j → j < k → snF beh snd ap al gone off k j = 1000000 ∨ (-(100 * (j + 1)) ≤ snF beh snd ap al gone off k j ∧ snF beh snd ap al gone off k j ≤ 100 * (j + 1)) := by
  intro k
  induction k with
  | zero => intro _ j h0 hj; omega
  | succ k ih =>
    intro hk j h0 hj
    by_cases hjk : j = k
    · subst hjk
      rw [snF, uf, if_pos rfl]
      have hn := h1.1
      obtain ⟨b1, b2, b3, b4, b5, b6⟩ := h1.2.1 k h0 (by omega)
      obtain ⟨o1, o2⟩ := h2 k h0 (by omega)
      unfold sgv
      split
      · exact Or.inl rfl
      · rename_i hz
        by_cases hb : beh k < 0
        · unfold sgb
          rw [if_pos hb]
          omega
        · unfold sgb at hz ⊢
          rw [if_neg hb] at hz ⊢
          have h3 := hdM_b (al := al) (f := snF beh snd ap al gone off k) (g := snd k) (s := beh k) (b := 100 * (beh k + 1)) (by omega) (ih (by omega) (beh k) (by omega) (by omega)) (h1.2.2 (5 * snd k + beh k) (by omega) (by omega))
          omega
    · rw [snF, uf, if_neg hjk]
      exact ih (by omega) j h0 (by omega)
/-! plans: a row of codes, gone through with a pile -/
/-- what a guard hears of each sign (never: of those that are not there) -/
def hrF (n : Int) (al f : Int → Int) (g s : Int) : Int := if s < n then hdM al f g s else 1000000
def stR (hear : Int → Int) (c : Int) (st : List Int) : List Int :=
  if 0 ≤ c then (if hear (c / 100) = 1000000 then 1000000 else hear (c / 100) + c % 100) :: st
  else match st with
    | b :: a :: r => (if c = -1 then max a b else min a b) :: r
    | st => st
def pkR (code hear : Int → Int) : Nat → List Int
  | 0 => []
  | k + 1 => stR hear (code k) (pkR code hear k)
def dpR (code : Int → Int) : Nat → Nat
  | 0 => 0
  | k + 1 => if 0 ≤ code k then dpR code k + 1 else dpR code k - 1
/-- a row of codes that is a plan -/
def cdOk (code : Int → Int) (m : Nat) : Prop := 1 ≤ m ∧ m ≤ 160 ∧ dpR code m = 1 ∧ ∀ k : Nat, k < m → (0 ≤ code k ∧ code k ≤ 499) ∨ ((code k = -1 ∨ code k = -2) ∧ 2 ≤ dpR code k)
theorem pkR_len {code hear : Int → Int} {m : Nat} (h : cdOk code m) : ∀ k : Nat, k ≤ m → (pkR code hear k).length = dpR code k := by
  intro k
  induction k with
  | zero => intro _; rfl
  | succ k ih =>
    intro hk
    have h1 := ih (by omega)
    rw [pkR, dpR]
    unfold stR
    rcases h.2.2.2 k (by omega) with q | q
    · rw [if_pos q.1, if_pos q.1, List.length_cons, h1]
    · rw [if_neg (by omega), if_neg (by omega)]
      match hp : pkR code hear k with
      | [] => rw [hp] at h1; simp at h1; omega
      | [a] => rw [hp] at h1; simp at h1; omega
      | b :: a :: r => rw [hp] at h1; simp at h1 ⊢; omega
theorem dpR_le {code : Int → Int} : ∀ k : Nat, dpR code k ≤ k
  | 0 => Nat.le_refl 0
  | k + 1 => by
    have := dpR_le (code := code) k
    rw [dpR]
    split <;> omega
/-- the value of a plan -/
def plV (code : Int → Int) (m : Nat) (hear : Int → Int) : Int := (pkR code hear m).getD 0 1000000
/-! turns in order, and how near they are -/
def ins (x : Int) : List Int → List Int
  | [] => [x]
  | y :: l => if x < y then x :: y :: l else y :: ins x l
def isF (t : Int → Int) : Nat → List Int
  | 0 => []
  | k + 1 => ins (t k) (isF t k)
def srtd : List Int → Prop
  | [] => True
  | x :: l => (∀ y ∈ l, x ≤ y) ∧ srtd l
theorem ins_len (x : Int) : ∀ l : List Int, (ins x l).length = l.length + 1
  | [] => rfl
  | y :: l => by
    rw [ins]
    split
    · rfl
    · rw [List.length_cons, ins_len x l, List.length_cons]
theorem ins_mem (x : Int) : ∀ (l : List Int) (z : Int), z ∈ ins x l ↔ z = x ∨ z ∈ l
  | [], z => by simp [ins]
  | y :: l, z => by
    rw [ins]
    split
    · simp
    · rw [List.mem_cons, ins_mem x l z, List.mem_cons]
      constructor
      · rintro (h | h | h)
        · exact Or.inr (Or.inl h)
        · exact Or.inl h
        · exact Or.inr (Or.inr h)
      · rintro (h | h | h)
        · exact Or.inr (Or.inl h)
        · exact Or.inl h
        · exact Or.inr (Or.inr h)
theorem ins_srtd (x : Int) : ∀ l : List Int, srtd l → srtd (ins x l)
  | [], _ => ⟨fun y h => by simp at h, trivial⟩
  | y :: l, h => by
    rw [ins]
    split
    · rename_i hx
      exact ⟨fun z hz => by
        rcases List.mem_cons.mp hz with q | q
        · omega
        · have := h.1 z q; omega, h⟩
    · rename_i hx
      refine ⟨fun z hz => ?_, ins_srtd x l h.2⟩
      rcases (ins_mem x l z).mp hz with q | q
      · omega
      · exact h.1 z q
theorem isF_srtd (t : Int → Int) : ∀ k, srtd (isF t k)
  | 0 => trivial
  | k + 1 => ins_srtd _ _ (isF_srtd t k)
theorem isF_len (t : Int → Int) : ∀ k, (isF t k).length = k
  | 0 => rfl
  | k + 1 => by rw [isF, ins_len, isF_len t k]
/-- in a sorted list: put behind what is not above it -/
theorem ins_at (x : Int) : ∀ (l : List Int) (k : Nat), srtd l → k ≤ l.length → (∀ j, k ≤ j → j < l.length → x < l.getD j 0) → (k = 0 ∨ l.getD (k - 1) 0 ≤ x) → ins x l = l.take k ++ x :: l.drop k
  | [], k, _, hk, _, _ => by
    have : k = 0 := by simpa using hk
    subst this
    rfl
  | y :: l, 0, _, _, h1, _ => by
    rw [ins, if_pos (by simpa using h1 0 (by omega) (by simp))]
    rfl
  | y :: l, k + 1, hs, hk, h1, h2 => by
    have hy : y ≤ x := by
      rcases h2 with q | q
      · omega
      · cases k with
        | zero => simpa using q
        | succ k =>
          have hlt : k < l.length := by simp at hk; omega
          have hm : l.getD k 0 ∈ l := by
            rw [List.getD_eq_getElem?_getD, List.getElem?_eq_getElem hlt]
            exact List.getElem_mem hlt
          have := hs.1 _ hm
          have q' : l.getD k 0 ≤ x := by simpa using q
          omega
    rw [ins, if_neg (by omega)]
    have := ins_at x l k hs.2 (by simpa using hk) (fun j hj hjl => by
      have := h1 (j + 1) (by omega) (by simpa using hjl)
      simpa using this) (by
      rcases h2 with q | q
      · omega
      · cases k with
        | zero => exact Or.inl rfl
        | succ k => exact Or.inr (by simpa using q))
    rw [this]
    rfl
/-- the least span of so many in a row, from place k on; 1000000: there are fewer -/
def spF (need : Nat) : List Int → Int
  | [] => 1000000
  | x :: l => if need ≤ (x :: l).length then min ((x :: l).getD (need - 1) 0 - x) (spF need l) else 1000000
theorem plV_congr {code hear hear' : Int → Int} {m : Nat} (h : cdOk code m) (hh : ∀ s, 0 ≤ s → s < 5 → hear s = hear' s) : plV code m hear = plV code m hear' := by
  have key : ∀ k : Nat, k ≤ m → pkR code hear k = pkR code hear' k := by
    intro k
    induction k with
    | zero => intro _; rfl
    | succ k ih =>
      intro hk
      rw [pkR, pkR, ih (by omega)]
      unfold stR
      by_cases hc : 0 ≤ code k
      · rcases h.2.2.2 k (by omega) with q | q
        · rw [if_pos hc, if_pos hc, hh (code k / 100) (by omega) (by omega)]
        · omega
      · rw [if_neg hc, if_neg hc]
  unfold plV
  rw [key m (Nat.le_refl m)]
theorem hdM_congr {al f f' : Int → Int} {g s : Int} (h : f s = f' s) : hdM al f g s = hdM al f' g s := by unfold hdM; rw [h]
/-- the least span of windows of so many that end ahead of place i -/
def wmF (need : Nat) (l : List Int) : Nat → Int
  | 0 => 1000000
  | i + 1 => if need ≤ i + 1 then min (wmF need l i) (l.getD i 0 - l.getD (i + 1 - need) 0) else wmF need l i
/-- how many turn at all (the list rises, 1000000 stands for never) -/
def cnF : List Int → Nat
  | [] => 0
  | x :: l => if x = 1000000 then 0 else cnF l + 1
theorem cnF_le : ∀ l : List Int, cnF l ≤ l.length
  | [] => Nat.le_refl 0
  | x :: l => by
    rw [cnF]
    split
    · omega
    · have := cnF_le l; simp; omega
theorem cnF_lt : ∀ (l : List Int) (j : Nat), j < cnF l → l.getD j 0 ≠ 1000000
  | [], j, h => by simp [cnF] at h
  | x :: l, 0, h => by
    rw [cnF] at h
    split at h
    · omega
    · rename_i hx; simpa using hx
  | x :: l, j + 1, h => by
    rw [cnF] at h
    split at h
    · omega
    · have := cnF_lt l j (by omega); simpa using this
theorem cnF_ge : ∀ (l : List Int), srtd l → (∀ x ∈ l, x ≤ 1000000) → ∀ (j : Nat), cnF l ≤ j → j < l.length → l.getD j 0 = 1000000
  | [], _, _, j, _, h => by simp at h
  | x :: l, hs, hb, j, h1, h2 => by
    by_cases hx : x = 1000000
    · have hm : ∀ y ∈ (x :: l), y = 1000000 := fun y hy => by
        rcases List.mem_cons.mp hy with q | q
        · omega
        · have := hs.1 y q; have := hb y hy; omega
      have : (x :: l).getD j 0 ∈ (x :: l) := by
        rw [List.getD_eq_getElem?_getD, List.getElem?_eq_getElem h2]
        exact List.getElem_mem h2
      exact hm _ this
    · rw [cnF, if_neg hx] at h1
      cases j with
      | zero => omega
      | succ j =>
        have := cnF_ge l hs.2 (fun y hy => hb y (List.mem_cons_of_mem _ hy)) j (by omega) (by simpa using h2)
        simpa using this
theorem isF_mem {t : Int → Int} : ∀ (k : Nat) (x : Int), x ∈ isF t k ↔ ∃ j : Nat, j < k ∧ x = t j
  | 0, x => by simp [isF]
  | k + 1, x => by
    rw [isF, ins_mem, isF_mem k x]
    constructor
    · rintro (h | ⟨j, h1, h2⟩)
      · exact ⟨k, by omega, h⟩
      · exact ⟨j, by omega, h2⟩
    · rintro ⟨j, h1, h2⟩
      by_cases hj : j = k
      · subst hj; exact Or.inl h2
      · exact Or.inr ⟨j, by omega, h2⟩
theorem isF_congr {t t' : Int → Int} : ∀ (k : Nat), (∀ j : Int, 0 ≤ j → j < k → t j = t' j) → isF t k = isF t' k
  | 0, _ => rfl
  | k + 1, h => by rw [isF, isF, isF_congr k (fun j h0 hj => h j h0 (by omega)), h k (by omega) (by omega)]
/-- how far those nearest to one another, so many as are needed, are apart; 1000000: fewer turn -/
def apF (need : Int) (t : Int → Int) (k : Nat) : Int := wmF need.toNat (isF t k) (cnF (isF t k))
theorem apF_congr {need : Int} {t t' : Int → Int} {k : Nat} (h : ∀ j : Int, 0 ≤ j → j < k → t j = t' j) : apF need t k = apF need t' k := by unfold apF; rw [isF_congr k h]
theorem getD_ins (l : List Int) (v : Int) (k j : Nat) (hk : k ≤ l.length) : (l.take k ++ v :: l.drop k).getD j 0 = if j < k then l.getD j 0 else if j = k then v else l.getD (j - 1) 0 := by
  simp only [List.getD_eq_getElem?_getD]
  by_cases h1 : j < k
  · rw [if_pos h1, List.getElem?_append_left (by rw [List.length_take]; omega), List.getElem?_take_of_lt h1]
  · rw [if_neg h1, List.getElem?_append_right (by rw [List.length_take]; omega), List.length_take, Nat.min_eq_left hk]
    by_cases h2 : j = k
    · rw [if_pos h2, h2, Nat.sub_self]
      rfl
    · rw [if_neg h2, show j - k = (j - k - 1) + 1 by omega, List.getElem?_cons_succ, List.getElem?_drop, show k + (j - k - 1) = j - 1 by omega]
end
section
/-! the reference: times, plans, turns -/
theorem sI {a b : Int} (h : a = b) : (some (.inl a) : Option AV) = some (.inl b) := by rw [h]
theorem idiv_pos {a b : Int} (ha : 0 ≤ a) (ha2 : a ≤ 2147483647) (hb : 0 < b) (hb2 : b ≤ 2147483647) : idiv a b = a / b := by
  unfold idiv
  rw [Int32.toInt_div, toInt_i32, toInt_i32, i32_id (by omega) ha2, i32_id (by omega) hb2, Int.tdiv_eq_ediv_of_nonneg ha]
  have h1 := Int.ediv_nonneg ha (Int.le_of_lt hb)
  have h2 := Int.ediv_le_self b ha
  generalize a / b = q at *
  show Int.bmod q 4294967296 = q
  simp only [Int.bmod]
  split <;> omega
theorem ofInt_div {a b : Int} (ha : 0 ≤ a) (ha2 : a ≤ 2147483647) (hb : 0 < b) (hb2 : b ≤ 2147483647) : Int32.ofInt a / Int32.ofInt b = Int32.ofInt (a / b) := by
  have h := idiv_pos ha ha2 hb hb2
  unfold idiv at h
  rw [← Int32.ofInt_toInt (Int32.ofInt a / Int32.ofInt b), h]
theorem irem_pos {a b : Int} (ha : 0 ≤ a) (ha2 : a ≤ 2147483647) (hb : 0 < b) (hb2 : b ≤ 2147483647) : irem a b = a % b := by
  unfold irem
  rw [ofInt_div ha ha2 hb hb2, ← Int32.ofInt_mul, ← Int32.ofInt_sub, toInt_i32]
  have h1 : a - a / b * b = a % b := by rw [Int.emod_def, Int.mul_comm]
  rw [h1]
  have h2 := Int.emod_nonneg a (Int.ne_of_gt hb)
  have h3 := Int.emod_lt_of_pos a hb
  exact i32_id (by omega) (by omega)
theorem t_M_heardAt (S : St) (g s : Int) (Q : Option AV → St → Prop) (hg : 0 ≤ g ∧ g < 4) (hs : 0 ≤ s ∧ s < 5) (hb : -1000 ≤ S 22 s ∧ S 22 s ≤ 1000000) (hl : S 19 (5 * g + s) ≤ 9) (hQ : Q (some (.inl (hdM (S 19) (S 22) g s))) S) : Smm H_M_heardAt 0 [some (.inr (.inr 0)), some (.inl g), some (.inl s), none] [] S Q := by
  have e0 : i32 (i32 (5 * g) + s) = 5 * g + s := by unfold i32; omega
  refine sound ok_M_heardAt [] 60 ?_
  refine ⟨by rw [e0]; omega, ?_⟩
  refine ⟨fun h1 => ?_, fun h1 => ?_⟩
  · rw [e0] at h1
    have e1 : hdM (S 19) (S 22) g s = 1000000 := by unfold hdM; rw [if_pos (Or.inl h1)]
    rw [e1] at hQ
    exact hQ
  · rw [e0] at h1
    refine ⟨hs, ?_⟩
    refine ⟨fun h2 => ?_, fun h2 => ?_⟩
    · refine ⟨hs, ?_⟩
      have e1 : hdM (S 19) (S 22) g s = i32 (S 22 s + S 19 (i32 (i32 (5 * g) + s))) := by
        unfold hdM
        rw [if_neg (by omega), e0]
        unfold i32
        omega
      rw [e1] at hQ
      exact hQ
    · have e1 : hdM (S 19) (S 22) g s = 1000000 := by unfold hdM; rw [if_pos (Or.inr h2)]
      rw [e1] at hQ
      exact hQ
/-- the pile holds these, the last on top -/
def plOk (S : St) (l : List Int) : Prop := ∀ j : Nat, j < l.length → S 24 j = l.getD (l.length - 1 - j) 0
set_option maxHeartbeats 4000000 in
theorem t_M_byPlan (S : St) (g p : Int) (m : Nat) (Q : Option AV → St → Prop) (hg : 0 ≤ g ∧ g < 4) (hp : 0 ≤ p ∧ p < 8) (hn : 0 ≤ S 0 20 ∧ S 0 20 ≤ 5)
    (hb : ∀ s, 0 ≤ s → s < S 0 20 → -1000 ≤ S 22 s ∧ S 22 s ≤ 1000000) (hl : ∀ j, 0 ≤ j → j < 20 → -1 ≤ S 19 j ∧ S 19 j ≤ 9)
    (hm : S 16 p = m) (hc : cdOk (fun i => S 15 (160 * p + i)) m)
    (hQ : ∀ S', Fr [24] [] S S' → Q (some (.inl (plV (fun i => S 15 (160 * p + i)) m (hrF (S 0 20) (S 19) (S 22) g)))) S') : Smm H_M_byPlan 0 [some (.inr (.inr 0)), some (.inl g), some (.inl p), none, none, none, none, none, none] [] S Q := by
  generalize hcode : (fun i => S 15 (160 * p + i)) = code at hc hQ
  generalize hhear : hrF (S 0 20) (S 19) (S 22) g = hear at hQ
  have hm160 := hc.2.1
  have loop : ∀ (i : Int) (S' : St), ((0 ≤ i ∧ i ≤ m) ∧ Fr [24] [] S S' ∧ plOk S' (pkR code hear i.toNat)) → Smm H_M_byPlan 9 [some (.inr (.inr 0)), some (.inl g), some (.inl p), some (.inl (dpR code i.toNat : Int)), some (.inl (160 * p + i)), none, none, none, none] [] S' Q := by
    refine lp_up (P := fun i S' => Smm H_M_byPlan 9 [some (.inr (.inr 0)), some (.inl g), some (.inl p), some (.inl (dpR code i.toNat : Int)), some (.inl (160 * p + i)), none, none, none, none] [] S' Q) (fun i S' => (0 ≤ i ∧ i ≤ m) ∧ Fr [24] [] S S' ∧ plOk S' (pkR code hear i.toNat)) m ?_ ?_
    · rintro i S' hi ⟨hi2, hF, hP⟩
      have ei : i = m := by omega
      subst ei
      refine sound ok_M_byPlan [9] 60 ?_
      refine ⟨hp, ?_⟩
      have e16 : S' 16 = S 16 := hF.c 16 rfl
      refine ⟨fun h1 => ?_, fun h1 => ?_⟩
      · have hlen := pkR_len (hear := hear) hc m (Nat.le_refl m)
        rw [hc.2.2.1] at hlen
        have hv := hP 0 (by rw [show ((m : Int)).toNat = m by omega]; omega)
        rw [show ((m : Int)).toNat = m by omega, hlen] at hv
        refine ⟨by omega, ?_⟩
        have hQ' := hQ S' hF
        have e1 : plV code m hear = S' 24 0 := by
          unfold plV
          have hv2 : S' 24 0 = (pkR code hear m).getD 0 0 := by simpa using hv
          rw [hv2]
          match hq : pkR code hear m with
          | [] => rw [hq] at hlen; simp at hlen
          | a :: r => rfl
        rw [e1] at hQ'
        exact hQ'
      · rw [e16, hm] at h1
        exact absurd h1 (by unfold i32; omega)
    · rintro i S' hi ⟨hi2, hF, hP⟩ ih
      obtain ⟨k, rfl⟩ : ∃ k : Nat, i = k := ⟨i.toNat, by omega⟩
      have etn : ((k : Int)).toNat = k := by omega
      have etn1 : ((k : Int) + 1).toNat = k + 1 := by omega
      rw [etn] at hP
      rw [etn1] at ih
      have hdl := dpR_le (code := code) k
      have e16 : S' 16 = S 16 := hF.c 16 rfl
      have e15 : S' 15 = S 15 := hF.c 15 rfl
      have e0 : S' 0 = S 0 := hF.c 0 rfl
      have e19 : S' 19 = S 19 := hF.c 19 rfl
      have e22 : S' 22 = S 22 := hF.c 22 rfl
      have ecode : S' 15 (160 * p + k) = code k := by rw [e15, ← hcode]
      have hlen := pkR_len (hear := hear) hc k (by omega)
      have hstep : pkR code hear (k + 1) = stR hear (code k) (pkR code hear k) := rfl
      have hdstep : dpR code (k + 1) = if 0 ≤ code k then dpR code k + 1 else dpR code k - 1 := rfl
      have e2 : i32 (160 * p + k + 1) = 160 * p + (k + 1) := by unfold i32; omega
      refine sound ok_M_byPlan [9, 69] 200 ?_
      refine ⟨hp, ?_⟩
      refine ⟨fun h1 => ?_, fun h1 => ?_⟩
      · rw [e16, hm] at h1
        exact absurd h1 (by unfold i32; omega)
      · refine ⟨by omega, ?_⟩
        rw [etn]
        -- what a push leaves
        have push : ∀ v : Int, 0 ≤ code k → v = (if hear (code k / 100) = 1000000 then 1000000 else hear (code k / 100) + code k % 100) → ((0 ≤ (k : Int) + 1 ∧ (k : Int) + 1 ≤ m) ∧ Fr [24] [] S (up S' 24 (dpR code k : Int) v) ∧ plOk (up S' 24 (dpR code k : Int) v) (pkR code hear (k + 1))) := by
          intro v hc0 hv
          refine ⟨by omega, hF.up _ _ _ rfl, ?_⟩
          have hs2 : pkR code hear (k + 1) = v :: pkR code hear k := by rw [hstep]; unfold stR; rw [if_pos hc0, ← hv]
          intro j hj
          rw [hs2] at hj ⊢
          rw [List.length_cons] at hj ⊢
          by_cases hjd : j = dpR code k
          · subst hjd
            rw [up_s, hlen, show dpR code k + 1 - 1 - dpR code k = 0 by omega]
            rfl
          · rw [up_n _ _ _ (by omega), hP j (by omega), hlen, show dpR code k + 1 - 1 - j = (dpR code k - 1 - j) + 1 by omega]
            rfl
        refine ⟨fun h2 => ?_, fun h2 => ?_⟩
        · -- an operator
          rw [ecode] at h2
          rcases hc.2.2.2 k (by omega) with q | q
          · omega
          · match hq : pkR code hear k with
            | [] => rw [hq] at hlen; simp at hlen; omega
            | [a] => rw [hq] at hlen; simp at hlen; omega
            | b :: a :: r =>
              have hd2 : dpR code k = r.length + 2 := by rw [← hlen, hq]; rfl
              have hPb : S' 24 ((r.length : Int) + 1) = b := by
                have := hP (r.length + 1) (by rw [hq]; simp)
                rw [hq] at this
                simpa using this
              have hPa : S' 24 (r.length : Int) = a := by
                have := hP r.length (by rw [hq]; simp; omega)
                rw [hq] at this
                simpa using this
              have op : ∀ v : Int, v = (if code k = -1 then max a b else min a b) → ((0 ≤ (k : Int) + 1 ∧ (k : Int) + 1 ≤ m) ∧ Fr [24] [] S (up S' 24 (r.length : Int) v) ∧ plOk (up S' 24 (r.length : Int) v) (pkR code hear (k + 1))) := by
                intro v hv
                refine ⟨by omega, hF.up _ _ _ rfl, ?_⟩
                have hs2 : pkR code hear (k + 1) = v :: r := by rw [hstep, hq]; unfold stR; rw [if_neg (by omega)]; show _ :: r = _; rw [← hv]
                intro j hj
                rw [hs2] at hj ⊢
                rw [List.length_cons] at hj ⊢
                by_cases hjd : j = r.length
                · subst hjd
                  rw [up_s, show r.length + 1 - 1 - r.length = 0 by omega]
                  rfl
                · rw [up_n _ _ _ (by omega), hP j (by rw [hq]; simp; omega), hq]
                  rw [show (b :: a :: r).length - 1 - j = (r.length - 1 - j) + 2 by simp; omega, show r.length + 1 - 1 - j = (r.length - 1 - j) + 1 by omega]
                  rfl
              have et : i32 ((dpR code k : Int) + -1) = (r.length : Int) + 1 := by rw [hd2]; unfold i32; omega
              have et2 : i32 (i32 ((dpR code k : Int) + -1) - 1) = (r.length : Int) := by rw [et]; unfold i32; omega
              have ed : (dpR code (k + 1) : Int) = i32 ((dpR code k : Int) + -1) := by rw [hdstep, if_neg (by omega), et, hd2]; omega
              refine ⟨by rw [et2]; omega, ?_⟩
              refine ⟨by rw [et]; omega, ?_⟩
              rw [et2, et, hPa, hPb]
              have fin : ∀ v : Int, v = (if code k = -1 then max a b else min a b) → ∀ (x5 x6 x7 x8 : Option AV), Smm H_M_byPlan 9 [some (.inr (.inr 0)), some (.inl g), some (.inl p), some (.inl ((r.length : Int) + 1)), some (.inl (i32 (160 * p + k + 1))), x5, x6, x7, x8] [] (up S' 24 (r.length : Int) v) Q := by
                intro v hv x5 x6 x7 x8
                exact Smm.sub (ih _ (op v hv)) ⟨Or.inr rfl, Or.inr rfl, Or.inr rfl, Or.inr (sI (by rw [ed, et])), Or.inr (sI e2.symm), Or.inl rfl, Or.inl rfl, Or.inl rfl, Or.inl rfl, trivial⟩
              have et3 : i32 ((r.length : Int) + 1 - 1) = (r.length : Int) := by unfold i32; omega
              rw [ecode]
              refine ⟨fun h3 => ?_, fun h3 => ?_⟩
              · -- the earliest
                refine ⟨fun h4 => ?_, fun h4 => ?_⟩
                · refine ⟨fun h5 => ?_, fun h5 => absurd rfl h5⟩
                  refine ⟨by rw [et3]; omega, ?_⟩
                  rw [et3]
                  exact fin b (by rw [if_neg h3]; omega) _ _ _ _
                · refine ⟨fun h5 => absurd h5 (by decide), fun h5 => ?_⟩
                  refine ⟨by rw [et3]; omega, ?_⟩
                  rw [et3]
                  exact fin a (by rw [if_neg h3]; omega) _ _ _ _
              · refine ⟨fun h4 => ?_, fun h4 => ?_⟩
                · refine ⟨fun h5 => ?_, fun h5 => absurd rfl h5⟩
                  refine ⟨by rw [et3]; omega, ?_⟩
                  rw [et3]
                  exact fin b (by rw [if_pos h3]; omega) _ _ _ _
                · refine ⟨fun h5 => absurd h5 (by decide), fun h5 => ?_⟩
                  refine ⟨by rw [et3]; omega, ?_⟩
                  rw [et3]
                  exact fin a (by rw [if_pos h3]; omega) _ _ _ _
        · -- a sign
          rw [ecode] at h2
          have hcb : code k ≤ 499 := by
            rcases hc.2.2.2 k (by omega) with q | q
            · exact q.2
            · omega
          rw [ecode]
          have ed : (dpR code (k + 1) : Int) = i32 ((dpR code k : Int) + 1) := by rw [hdstep, if_pos h2]; unfold i32; omega
          have fin : ∀ v : Int, v = (if hear (code k / 100) = 1000000 then 1000000 else hear (code k / 100) + code k % 100) → ∀ (x5 x6 x7 x8 : Option AV), Smm H_M_byPlan 9 [some (.inr (.inr 0)), some (.inl g), some (.inl p), some (.inl (i32 ((dpR code k : Int) + 1))), some (.inl (i32 (160 * p + k + 1))), x5, x6, x7, x8] [] (up S' 24 (dpR code k : Int) v) Q := by
            intro v hv x5 x6 x7 x8
            exact Smm.sub (ih _ (push v h2 hv)) ⟨Or.inr rfl, Or.inr rfl, Or.inr rfl, Or.inr (sI ed), Or.inr (sI e2.symm), Or.inl rfl, Or.inl rfl, Or.inl rfl, Or.inl rfl, trivial⟩
          refine ⟨by decide, ?_⟩
          rw [idiv_pos h2 (by omega) (by omega) (by omega)]
          have hs5 : 0 ≤ code k / 100 ∧ code k / 100 < 5 := by omega
          have rest : ∀ h : Int, h = hear (code k / 100) → -1000 ≤ h → h ≤ 1000009 → Smm H_M_byPlan 69 [some (.inr (.inr 0)), some (.inl g), some (.inl p), some (.inl (dpR code k : Int)), some (.inl (160 * p + k)), some (.inl (code k)), some (.inl (code k / 100)), none, none] [.inl h] S' Q := by
            intro h hh hb1 hb2
            refine sound ok_M_byPlan [9] 100 ?_
            refine ⟨fun h3 => ?_, fun h3 => ?_⟩
            · refine ⟨by decide, ?_⟩
              refine ⟨by omega, ?_⟩
              rw [irem_pos h2 (by omega) (by omega) (by omega)]
              exact fin _ (by rw [← hh, if_neg h3]; unfold i32; omega) _ _ _ _
            · refine ⟨by omega, ?_⟩
              exact fin _ (by rw [← hh, if_pos h3]) _ _ _ _
          refine ⟨fun h3 => ?_, fun h3 => ?_⟩
          · rw [e0] at h3
            exact rest 1000000 (by rw [← hhear]; unfold hrF; rw [if_neg (by omega)]) (by omega) (by omega)
          · rw [e0] at h3
            refine t_M_heardAt _ _ _ _ hg hs5 (by rw [e22]; exact hb _ hs5.1 h3) (by rw [e19]; exact (hl _ (by omega) (by omega)).2) ?_
            have hbb := hb _ hs5.1 h3
            have hll := hl (5 * g + code k / 100) (by omega) (by omega)
            refine rest _ (by rw [e19, e22, ← hhear]; unfold hrF; rw [if_pos h3]) ?_ ?_
            · rw [e19, e22]; unfold hdM; split <;> omega
            · rw [e19, e22]; unfold hdM; split <;> omega
  refine sound ok_M_byPlan [9] 60 ?_
  have h0 := loop 0 S ⟨by omega, Fr.rf _ _ _, fun j hj => by simp [pkR] at hj⟩
  exact Smm.sub h0 ⟨Or.inr rfl, Or.inr rfl, Or.inr rfl, Or.inr rfl, Or.inr (sI (by unfold i32; omega)), Or.inl rfl, Or.inl rfl, Or.inl rfl, Or.inl rfl, trivial⟩
end
section
/-! the reference: a way's times and turns; how near they are -/
/-- the plans told, as the reference holds them -/
def plM (S : St) : Prop := (0 ≤ S 0 31 ∧ S 0 31 ≤ 8) ∧ ∀ p, 0 ≤ p → p < S 0 31 → ∃ m : Nat, S 16 p = m ∧ cdOk (fun i => S 15 (160 * p + i)) m
/-- a land, as the reference tries it -/
def mOk (S : St) : Prop := sgOk (S 0 20) (S 12) (S 13) (S 17) (S 19) ∧ (0 ≤ S 0 19 ∧ S 0 19 ≤ 4) ∧ (∀ g, 0 ≤ g → g < 4 → -1 ≤ S 20 g ∧ S 20 g < S 0 31) ∧ plM S
/-- the times of the signs, by these offs -/
def smM (S : St) (off : Int → Int) : Int → Int := snF (S 12) (S 13) (S 17) (S 19) (S 0 38) off (S 0 20).toNat
/-- when a guard turns, by these times -/
def tnM (S : St) (f : Int → Int) (g : Int) : Int := if S 20 g < 0 then 1000000 else plV (fun i => S 15 (160 * S 20 g + i)) (S 16 (S 20 g)).toNat (hrF (S 0 20) (S 19) f g)
theorem plR_b {code hear : Int → Int} {m : Nat} {B : Int} (h : cdOk code m) (hB : 0 ≤ B) (hh : ∀ s, 0 ≤ s → s < 5 → hear s = 1000000 ∨ (-B ≤ hear s ∧ hear s ≤ B)) : ∀ k : Nat, k ≤ m → ∀ x ∈ pkR code hear k, x = 1000000 ∨ (-B ≤ x ∧ x ≤ B + 99) := by
  intro k
  induction k with
  | zero => intro _ x hx; simp [pkR] at hx
  | succ k ih =>
    intro hk x hx
    have ih := ih (by omega)
    rw [pkR] at hx
    unfold stR at hx
    by_cases hc : 0 ≤ code k
    · rw [if_pos hc] at hx
      rcases List.mem_cons.mp hx with q | q
      · rcases h.2.2.2 k (by omega) with z | z
        · have := hh (code k / 100) (by omega) (by omega)
          split at q
          · exact Or.inl q
          · omega
        · omega
      · exact ih x q
    · rw [if_neg hc] at hx
      split at hx
      · rename_i b a r hp
        rw [hp] at ih
        have ha := ih a (by simp)
        have hb := ih b (by simp)
        rcases List.mem_cons.mp hx with q | q
        · split at q <;> omega
        · exact ih x (by simp [q])
      · exact ih x hx
theorem plV_b {code hear : Int → Int} {m : Nat} {B : Int} (h : cdOk code m) (hB : 0 ≤ B) (hh : ∀ s, 0 ≤ s → s < 5 → hear s = 1000000 ∨ (-B ≤ hear s ∧ hear s ≤ B)) : plV code m hear = 1000000 ∨ (-B ≤ plV code m hear ∧ plV code m hear ≤ B + 99) := by
  unfold plV
  match hq : pkR code hear m with
  | [] => exact Or.inl rfl
  | a :: r => exact plR_b h hB hh m (Nat.le_refl m) a (by rw [hq]; simp)
theorem smM_b {S : St} (h : mOk S) {off : Int → Int} (ho : ofOk (S 0 20) off) {s : Int} (h0 : 0 ≤ s) (h1 : s < S 0 20) : smM S off s = 1000000 ∨ (-500 ≤ smM S off s ∧ smM S off s ≤ 500) := by
  have hn := h.1.1
  have := snF_b (gone := S 0 38) h.1 ho (S 0 20).toNat (by omega) s h0 (by omega)
  unfold smM
  omega
theorem hrF_b {S : St} (h : mOk S) {off : Int → Int} (ho : ofOk (S 0 20) off) {g s : Int} (hg : 0 ≤ g ∧ g < 4) (hs : 0 ≤ s ∧ s < 5) : hrF (S 0 20) (S 19) (smM S off) g s = 1000000 ∨ (-600 ≤ hrF (S 0 20) (S 19) (smM S off) g s ∧ hrF (S 0 20) (S 19) (smM S off) g s ≤ 600) := by
  unfold hrF
  split
  · rename_i hlt
    have := hdM_b (al := S 19) (f := smM S off) (g := g) (s := s) (b := 500) (by omega) (smM_b h ho hs.1 hlt) (h.1.2.2 _ (by omega) (by omega))
    omega
  · exact Or.inl rfl
theorem tnM_b {S : St} (h : mOk S) {off : Int → Int} (ho : ofOk (S 0 20) off) {g : Int} (h0 : 0 ≤ g) (h1 : g < 4) : tnM S (smM S off) g = 1000000 ∨ (-1000 ≤ tnM S (smM S off) g ∧ tnM S (smM S off) g ≤ 1000) := by
  unfold tnM
  split
  · exact Or.inl rfl
  · rename_i hz
    obtain ⟨a1, a2⟩ := h.2.2.1 g h0 h1
    obtain ⟨m, hm, hc⟩ := h.2.2.2.2 (S 20 g) (by omega) a2
    rw [hm, show ((m : Int)).toNat = m by omega]
    rcases plV_b (B := 600) hc (by omega) (fun s hs hs2 => hrF_b h ho ⟨h0, h1⟩ ⟨hs, hs2⟩) with q | q
    · exact Or.inl q
    · exact Or.inr ⟨Int.le_trans (by decide) q.1, Int.le_trans q.2 (by decide)⟩
set_option maxHeartbeats 4000000 in
theorem t_M_goes (S : St) (Q : Option AV → St → Prop) (h : mOk S) (ho : ofOk (S 0 20) (S 21))
    (hQ : ∀ S', Fr [22, 23, 24] [] S S' → (∀ i, 0 ≤ i → i < S 0 20 → S' 22 i = smM S (S 21) i) → (∀ g, 0 ≤ g → g < S 0 19 → S' 23 g = tnM S (smM S (S 21)) g) → Q none S') : Smm H_M_goes 0 [some (.inr (.inr 0)), none, none] [] S Q := by
  have hn := h.1.1
  have hk := h.2.1
  have loop2 : ∀ (g : Int) (S' : St), ((0 ≤ g ∧ g ≤ S 0 19) ∧ Fr [22, 23, 24] [] S S' ∧ (∀ i, 0 ≤ i → i < S 0 20 → S' 22 i = smM S (S 21) i) ∧ (∀ j, 0 ≤ j → j < g → S' 23 j = tnM S (smM S (S 21)) j)) → Smm H_M_goes 94 [some (.inr (.inr 0)), some (.inl g), none] [] S' Q := by
    refine lp_up (P := fun g S' => Smm H_M_goes 94 [some (.inr (.inr 0)), some (.inl g), none] [] S' Q) _ (S 0 19) ?_ ?_
    · rintro g S' hg ⟨hg2, hF, h1, h2⟩
      have e0 : S' 0 = S 0 := hF.c 0 rfl
      have q19 : S' 0 19 = S 0 19 := by rw [e0]
      refine sound ok_M_goes [94] 20 ?_
      refine ⟨fun _ => hQ S' hF h1 (fun j h0 hj => h2 j h0 (by omega)), fun h3 => absurd h3 (by omega)⟩
    · rintro g S' hg ⟨hg2, hF, h1, h2⟩ ih
      have e0 : S' 0 = S 0 := hF.c 0 rfl
      have e20 : S' 20 = S 20 := hF.c 20 rfl
      have e19 : S' 19 = S 19 := hF.c 19 rfl
      have e15 : S' 15 = S 15 := hF.c 15 rfl
      have e16 : S' 16 = S 16 := hF.c 16 rfl
      have e2 : i32 (g + 1) = g + 1 := by unfold i32; omega
      have fin : ∀ (S2 : St) (v : Int), Fr [24] [] S' S2 → v = tnM S (smM S (S 21)) g → Smm H_M_goes 94 [some (.inr (.inr 0)), some (.inl (i32 (g + 1))), none] [] (up S2 23 g v) Q := by
        intro S2 v hF2 hv
        rw [e2]
        have hF3 : Fr [22, 23, 24] [] S S2 := hF.tr (hF2.mo rfl rfl)
        refine ih _ ⟨by omega, hF3.up _ _ _ rfl, fun i h0 hi => ?_, fun j h0 hj => ?_⟩
        · rw [up_o _ _ _ (by decide), hF2.c 22 rfl]
          exact h1 i h0 hi
        · by_cases hjg : j = g
          · subst hjg
            rw [up_s]
            exact hv
          · rw [up_n _ _ _ hjg, hF2.c 23 rfl]
            exact h2 j h0 (by omega)
      have q19 : S' 0 19 = S 0 19 := by rw [e0]
      refine sound ok_M_goes [94] 60 ?_
      refine ⟨fun h3 => absurd h3 (by omega), fun _ => ?_⟩
      refine ⟨by omega, ?_⟩
      refine ⟨fun h3 => ?_, fun h3 => ?_⟩
      · rw [e20] at h3
        refine ⟨by omega, ?_⟩
        obtain ⟨a1, a2⟩ := h.2.2.1 g hg2.1 (by omega)
        obtain ⟨m, hm, hc⟩ := h.2.2.2.2 (S 20 g) h3 a2
        have hpl := h.2.2.2.1
        refine t_M_byPlan S' g (S' 20 g) m _ (by omega) (by rw [e20]; omega) (by rw [e0]; omega) (fun s h0 hs => ?_) (by rw [e19]; exact h.1.2.2) (by rw [e16, e20]; exact hm) (by rw [e15, e20]; exact hc) (fun S2 hF2 => ?_)
        · rw [e0] at hs
          rw [h1 s h0 hs]
          have := smM_b h ho h0 hs
          omega
        · refine ⟨by omega, ?_⟩
          refine fin S2 _ hF2 ?_
          unfold tnM
          rw [if_neg (by omega), e15, e20, e0, e19, hm, show ((m : Int)).toNat = m by omega]
          refine plV_congr hc (fun s h0 hs => ?_)
          unfold hrF
          split
          · rename_i hlt
            exact hdM_congr (h1 s h0 hlt)
          · rfl
      · rw [e20] at h3
        refine ⟨by omega, ?_⟩
        refine fin S' _ (Fr.rf _ _ _) ?_
        unfold tnM
        rw [if_pos h3]
  have loop1 : ∀ (i : Int) (S' : St), ((0 ≤ i ∧ i ≤ S 0 20) ∧ Fr [22, 23, 24] [] S S' ∧ (∀ j, 0 ≤ j → j < i → S' 22 j = snF (S 12) (S 13) (S 17) (S 19) (S 0 38) (S 21) i.toNat j)) → Smm H_M_goes 2 [some (.inr (.inr 0)), some (.inl i), none] [] S' Q := by
    refine lp_up (P := fun i S' => Smm H_M_goes 2 [some (.inr (.inr 0)), some (.inl i), none] [] S' Q) _ (S 0 20) ?_ ?_
    · rintro i S' hi ⟨hi2, hF, h1⟩
      have e0 : S' 0 = S 0 := hF.c 0 rfl
      have q20 : S' 0 20 = S 0 20 := by rw [e0]
      refine sound ok_M_goes [94] 20 ?_
      refine ⟨fun _ => ?_, fun h3 => absurd h3 (by omega)⟩
      refine loop2 0 S' ⟨by omega, hF, fun j h0 hj => ?_, fun j h0 hj => absurd hj (by omega)⟩
      rw [h1 j h0 (by omega)]
      unfold smM
      rw [show i = S 0 20 by omega]
    · rintro i S' hi ⟨hi2, hF, h1⟩ ih
      obtain ⟨k, rfl⟩ : ∃ k : Nat, i = k := ⟨i.toNat, by omega⟩
      rw [show ((k : Int)).toNat = k by omega] at h1
      rw [show ((k : Int) + 1).toNat = k + 1 by omega] at ih
      have e0 : S' 0 = S 0 := hF.c 0 rfl
      have e12 : S' 12 = S 12 := hF.c 12 rfl
      have e13 : S' 13 = S 13 := hF.c 13 rfl
      have e17 : S' 17 = S 17 := hF.c 17 rfl
      have e19 : S' 19 = S 19 := hF.c 19 rfl
      have e21 : S' 21 = S 21 := hF.c 21 rfl
      have e2 : i32 ((k : Int) + 1) = k + 1 := by unfold i32; omega
      obtain ⟨b1, b2, b3, b4, b5, b6⟩ := h.1.2.1 k hi2.1 hi
      have ob := ho k hi2.1 hi
      have hsb := snF_b (gone := S 0 38) h.1 ho k (by omega)
      generalize hsn : snF (S 12) (S 13) (S 17) (S 19) (S 0 38) (S 21) k = f at h1 hsb
      have hsv : snF (S 12) (S 13) (S 17) (S 19) (S 0 38) (S 21) (k + 1) = uf f k (sgv (S 12) (S 13) (S 17) (S 19) (S 0 38) (S 21) f k) := by rw [snF, hsn]
      have fin : ∀ (v : Int) (x2 : Option AV), v = sgv (S 12) (S 13) (S 17) (S 19) (S 0 38) (S 21) f k → Smm H_M_goes 2 [some (.inr (.inr 0)), some (.inl (i32 ((k : Int) + 1))), x2] [] (up S' 22 k v) Q := by
        intro v x2 hv
        refine Smm.sub (ih _ ⟨by omega, hF.up _ _ _ rfl, fun j h0 hj => ?_⟩) ⟨Or.inr rfl, Or.inr (sI e2.symm), Or.inl rfl, trivial⟩
        rw [hsv]
        by_cases hjk : j = k
        · subst hjk
          rw [up_s, uf, if_pos rfl]
          exact hv
        · rw [up_n _ _ _ hjk, uf, if_neg hjk]
          exact h1 j h0 (by omega)
      have rest : ∀ b : Int, b = sgb (S 12) (S 13) (S 19) f k → (b = 1000000 ∨ (-1000 ≤ b ∧ b ≤ 1000)) → Smm H_M_goes 39 [some (.inr (.inr 0)), some (.inl (k : Int)), none] [.inl b] S' Q := by
        intro b hb hbb
        refine sound ok_M_goes [2] 60 ?_
        refine ⟨fun h3 => ?_, fun h3 => ?_⟩
        · refine ⟨by omega, ?_⟩
          refine fin _ _ ?_
          unfold sgv
          rw [← hb, if_pos (Or.inl h3)]
        · refine ⟨fun h4 => ?_, fun h4 => ?_⟩
          · rw [e0] at h4
            refine ⟨by omega, ?_⟩
            refine ⟨by omega, ?_⟩
            refine ⟨by omega, ?_⟩
            refine fin _ _ ?_
            unfold sgv
            rw [← hb, if_neg (fun z => z.elim h3 h4), e17, e21]
            unfold i32
            omega
          · rw [e0] at h4
            refine ⟨by omega, ?_⟩
            refine fin _ _ ?_
            unfold sgv
            rw [← hb, if_pos (Or.inr h4)]
      have q20 : S' 0 20 = S 0 20 := by rw [e0]
      refine sound ok_M_goes [2, 39] 60 ?_
      refine ⟨fun h3 => absurd h3 (by omega), fun _ => ?_⟩
      refine ⟨by omega, ?_⟩
      refine ⟨fun h3 => ?_, fun h3 => ?_⟩
      · rw [e12] at h3
        refine ⟨by omega, ?_⟩
        refine ⟨by omega, ?_⟩
        have hfb := hsb (S 12 k) h3 b2
        have hfe := h1 (S 12 k) h3 b2
        have hll := h.1.2.2 (5 * S 13 k + S 12 k) (by omega) (by omega)
        refine t_M_heardAt S' (S' 13 k) (S' 12 k) _ (by rw [e13]; omega) (by rw [e12]; omega) (by rw [e12, hfe]; omega) (by rw [e19, e13, e12]; omega) ?_
        refine rest _ ?_ ?_
        · unfold sgb
          rw [if_neg (by omega), e12, e13, e19]
          exact hdM_congr hfe
        · rw [e12, e13, e19]
          have := hdM_b (al := S 19) (f := S' 22) (g := S 13 k) (s := S 12 k) (b := 500) (by omega) (by omega) hll
          omega
      · rw [e12] at h3
        refine rest 0 ?_ (by omega)
        unfold sgb
        rw [if_pos h3]
  refine sound ok_M_goes [2] 20 ?_
  exact loop1 0 S ⟨by omega, Fr.rf _ _ _, fun j h0 hj => absurd hj (by omega)⟩
set_option maxHeartbeats 4000000 in
theorem t_M_sorts (S : St) (Q : Option AV → St → Prop) (hk : 0 ≤ S 0 19 ∧ S 0 19 ≤ 4)
    (hQ : ∀ S', Fr [25] [] S S' → (∀ j : Nat, (j : Int) < S 0 19 → S' 25 j = (isF (S 23) (S 0 19).toNat).getD j 0) → Q none S') : Smm H_M_sorts 0 [some (.inr (.inr 0)), none, none, none] [] S Q := by
  have outer : ∀ (g : Int) (S' : St), ((0 ≤ g ∧ g ≤ S 0 19) ∧ Fr [25] [] S S' ∧ (∀ j : Nat, (j : Int) < g → S' 25 j = (isF (S 23) g.toNat).getD j 0)) → Smm H_M_sorts 2 [some (.inr (.inr 0)), some (.inl g), none, none] [] S' Q := by
    refine lp_up (P := fun g S' => Smm H_M_sorts 2 [some (.inr (.inr 0)), some (.inl g), none, none] [] S' Q) _ (S 0 19) ?_ ?_
    · rintro g S' hg ⟨hg2, hF, h1⟩
      have e0 : S' 0 = S 0 := hF.c 0 rfl
      have q19 : S' 0 19 = S 0 19 := by rw [e0]
      refine sound ok_M_sorts [2] 20 ?_
      refine ⟨fun _ => hQ S' hF (fun j hj => ?_), fun h3 => absurd h3 (by omega)⟩
      rw [h1 j (by omega), show g = S 0 19 by omega]
    · rintro g S' hg ⟨hg2, hF, h1⟩ ih
      obtain ⟨k, rfl⟩ : ∃ k : Nat, g = k := ⟨g.toNat, by omega⟩
      rw [show ((k : Int)).toNat = k by omega] at h1
      rw [show ((k : Int) + 1).toNat = k + 1 by omega] at ih
      have e0 : S' 0 = S 0 := hF.c 0 rfl
      have e23 : S' 23 = S 23 := hF.c 23 rfl
      have e2 : i32 ((k : Int) + 1) = k + 1 := by unfold i32; omega
      have hsr := isF_srtd (S 23) k
      have hln := isF_len (S 23) k
      have hst : isF (S 23) (k + 1) = ins (S 23 k) (isF (S 23) k) := rfl
      generalize isF (S 23) k = l at h1 hsr hln hst
      have inner : ∀ (q : Int) (S2 : St), ((0 ≤ q + 1 ∧ q + 1 ≤ k) ∧ Fr [25] [] S S2 ∧ (∀ j : Nat, (j : Int) < q + 1 → S2 25 j = l.getD j 0) ∧ (∀ j : Nat, q + 1 < j → j ≤ k → S2 25 j = l.getD (j - 1) 0) ∧ (∀ j : Nat, q + 1 ≤ j → j < k → S 23 k < l.getD j 0)) → Smm H_M_sorts 19 [some (.inr (.inr 0)), some (.inl (k : Int)), some (.inl (S 23 k)), some (.inl (q + 1))] [] S2 Q := by
        have out : ∀ (q : Int) (S2 : St), (0 ≤ q + 1 ∧ q + 1 ≤ k) → Fr [25] [] S S2 → (∀ j : Nat, (j : Int) < q + 1 → S2 25 j = l.getD j 0) → (∀ j : Nat, q + 1 < j → j ≤ k → S2 25 j = l.getD (j - 1) 0) → (∀ j : Nat, q + 1 ≤ j → j < k → S 23 k < l.getD j 0) → (q + 1 = 0 ∨ l.getD q.toNat 0 ≤ S 23 k) → Smm H_M_sorts 55 [some (.inr (.inr 0)), some (.inl (k : Int)), some (.inl (S 23 k)), some (.inl (q + 1))] [] S2 Q := by
          intro q S2 hq hF2 a1 a2 a3 a4
          refine sound ok_M_sorts [2] 20 ?_
          refine ⟨by omega, ?_⟩
          refine Smm.sub (ih _ ⟨by omega, hF2.up _ _ _ rfl, fun j hj => ?_⟩) ⟨Or.inr rfl, Or.inr (sI e2.symm), Or.inl rfl, Or.inl rfl, trivial⟩
          rw [hst, ins_at (S 23 k) l (q + 1).toNat hsr (by omega) (fun j h4 h5 => a3 j (by omega) (by omega)) (by
            rcases a4 with z | z
            · exact Or.inl (by omega)
            · by_cases hz : q + 1 = 0
              · exact Or.inl (by omega)
              · exact Or.inr (by rw [show (q + 1).toNat - 1 = q.toNat by omega]; exact z)), getD_ins _ _ _ _ (by omega)]
          by_cases hj1 : (j : Int) = q + 1
          · rw [hj1, up_s, if_neg (by omega), if_pos (by omega)]
          · rw [up_n _ _ _ hj1]
            by_cases hj2 : (j : Int) < q + 1
            · rw [if_pos (by omega)]
              exact a1 j hj2
            · rw [if_neg (by omega), if_neg (by omega)]
              exact a2 j (by omega) (by omega)
        refine lp_dn (P := fun q S2 => Smm H_M_sorts 19 [some (.inr (.inr 0)), some (.inl (k : Int)), some (.inl (S 23 k)), some (.inl (q + 1))] [] S2 Q) _ ?_ ?_
        · rintro q S2 hq ⟨b0, hF2, a1, a2, a3⟩
          refine sound ok_M_sorts [55] 20 ?_
          refine ⟨fun _ => out q S2 b0 hF2 a1 a2 a3 (Or.inl (by omega)), fun h3 => absurd h3 (by omega)⟩
        · rintro q S2 hq ⟨b0, hF2, a1, a2, a3⟩ ih2
          have eq1 : i32 (q + 1 - 1) = q := by unfold i32; omega
          have hv : S2 25 q = l.getD q.toNat 0 := by
            have := a1 q.toNat (by omega)
            rwa [show ((q.toNat : Nat) : Int) = q by omega] at this
          refine sound ok_M_sorts [55, 19] 40 ?_
          refine ⟨fun h3 => absurd h3 (by omega), fun _ => ?_⟩
          refine ⟨by rw [eq1]; omega, ?_⟩
          refine ⟨fun h4 => ?_, fun h4 => ?_⟩
          · rw [eq1] at h4
            exact out q S2 b0 hF2 a1 a2 a3 (Or.inr (by rw [← hv]; exact h4))
          · rw [eq1] at h4
            refine ⟨by rw [eq1]; omega, ?_⟩
            refine ⟨by omega, ?_⟩
            rw [eq1]
            refine Smm.sub (ih2 (up S2 25 (q + 1) (S2 25 q)) ⟨by omega, hF2.up _ _ _ rfl, fun j hj => ?_, fun j hj hj2 => ?_, fun j hj hj2 => ?_⟩) ⟨Or.inr rfl, Or.inr rfl, Or.inr rfl, Or.inr (sI (by unfold i32; omega)), trivial⟩
            · rw [up_n _ _ _ (by omega)]
              exact a1 j (by omega)
            · by_cases hjq : (j : Int) = q + 1
              · rw [hjq, up_s, hv, show j - 1 = q.toNat by omega]
              · rw [up_n _ _ _ hjq]
                exact a2 j (by omega) hj2
            · by_cases hjq : (j : Int) = q
              · have := h4
                rw [hv] at this
                rw [show j = q.toNat by omega]
                exact this
              · exact a3 j (by omega) hj2
      have q19 : S' 0 19 = S 0 19 := by rw [e0]
      refine sound ok_M_sorts [19] 40 ?_
      refine ⟨fun h3 => absurd h3 (by omega), fun _ => ?_⟩
      refine ⟨by omega, ?_⟩
      refine Smm.sub (inner (k - 1) S' ⟨by omega, hF, fun j hj => h1 j (by omega), fun j hj hj2 => absurd hj (by omega), fun j hj hj2 => absurd hj (by omega)⟩) ⟨Or.inr rfl, Or.inr rfl, Or.inr (sI (by rw [e23])), Or.inr (sI (by omega)), trivial⟩
  refine sound ok_M_sorts [2] 20 ?_
  exact outer 0 S ⟨by omega, Fr.rf _ _ _, fun j hj => absurd hj (by omega)⟩
end
section
/-! all ways: the offs of each sign, each with each -/
def nxF (err : Int → Int) : Nat → (Int → Int) → Option (Int → Int)
  | 0, _ => none
  | k + 1, f => if f k = err k then nxF err k (uf f k (-err k)) else some (uf f k (f k + 1))
def blF (e : Int) (n : Nat) (f : Int → Int) : List (Int → Int) := (List.range (2 * e + 1).toNat).map (fun (i : Nat) => uf f n ((i : Int) - e))
def wyF (err : Int → Int) : Nat → List (Int → Int)
  | 0 => [fun _ => 0]
  | n + 1 => (wyF err n).flatMap (blF (err n) n)
def fsF (err : Int → Int) : Nat → Int → Int
  | 0 => fun _ => 0
  | n + 1 => uf (fsF err n) n (-err n)
theorem uf_s (f : Int → Int) (i v : Int) : uf f i v i = v := by unfold uf; rw [if_pos rfl]
theorem uf_n (f : Int → Int) {i j : Int} (v : Int) (h : j ≠ i) : uf f i v j = f j := by unfold uf; rw [if_neg h]
theorem uf_uf (f : Int → Int) (i v w : Int) : uf (uf f i v) i w = uf f i w := by
  funext j
  by_cases h : j = i
  · rw [h, uf_s, uf_s]
  · rw [uf_n _ _ h, uf_n _ _ h, uf_n _ _ h]
theorem uf_cm (f : Int → Int) {i j : Int} (v w : Int) (h : i ≠ j) : uf (uf f i v) j w = uf (uf f j w) i v := by
  funext k
  by_cases h1 : k = j
  · subst h1
    rw [uf_s, uf_n _ _ (Ne.symm h), uf_s]
  · rw [uf_n _ _ h1]
    by_cases h2 : k = i
    · rw [h2, uf_s, uf_s]
    · rw [uf_n _ _ h2, uf_n _ _ h2, uf_n _ _ h1]
theorem nxF_up {err : Int → Int} : ∀ (n : Nat) (f : Int → Int) (m : Int) (v : Int), n ≤ m → nxF err n (uf f m v) = (nxF err n f).map (fun g => uf g m v)
  | 0, f, m, v, _ => rfl
  | n + 1, f, m, v, h => by
    have hne : ((n : Int)) ≠ m := by omega
    rw [nxF, nxF, uf_n _ _ hne]
    by_cases hf : f n = err n
    · rw [if_pos hf, if_pos hf, uf_cm _ _ _ (Ne.symm hne), nxF_up n _ m v (by omega)]
    · rw [if_neg hf, if_neg hf, Option.map_some, uf_cm _ _ _ (Ne.symm hne)]
theorem blF_len (e : Int) (n : Nat) (f : Int → Int) : (blF e n f).length = (2 * e + 1).toNat := by simp [blF]
/-- in a list that was put together of blocks: where a place lies -/
theorem fm_split {α β : Type} (g : α → List β) : ∀ (l : List α) (pre : List β) (b : β) (post : List β), l.flatMap g = pre ++ b :: post → ∃ l1 a l2 p1 p2, l = l1 ++ a :: l2 ∧ g a = p1 ++ b :: p2 ∧ pre = l1.flatMap g ++ p1 ∧ post = p2 ++ l2.flatMap g
  | [], pre, b, post, h => by simp at h
  | a :: l, pre, b, post, h => by
    rw [List.flatMap_cons] at h
    rcases List.append_eq_append_iff.mp h with ⟨m, h1, h2⟩ | ⟨m, h1, h2⟩
    · obtain ⟨l1, a', l2, p1, p2, e1, e2, e3, e4⟩ := fm_split g l m b post h2
      exact ⟨a :: l1, a', l2, p1, p2, by rw [e1]; rfl, e2, by rw [h1, e3, List.flatMap_cons, List.append_assoc], e4⟩
    · cases m with
      | nil =>
        rw [List.append_nil] at h1
        have h2' : l.flatMap g = [] ++ b :: post := by simpa using h2.symm
        obtain ⟨l1, a', l2, p1, p2, e1, e2, e3, e4⟩ := fm_split g l [] b post h2'
        exact ⟨a :: l1, a', l2, p1, p2, by rw [e1]; rfl, e2, by rw [List.flatMap_cons, List.append_assoc, ← e3, List.append_nil]; exact h1.symm, e4⟩
      | cons x m =>
        have h3 : b :: post = x :: (m ++ l.flatMap g) := by simpa using h2
        cases h3
        exact ⟨[], a, l, pre, m, rfl, h1, rfl, rfl⟩
theorem blF_split {e : Int} (he : 0 ≤ e) {n : Nat} {f b : Int → Int} {p1 p2 : List (Int → Int)} (h : blF e n f = p1 ++ b :: p2) : b = uf f n (p1.length - e) ∧ (p1.length : Int) ≤ 2 * e ∧ (p2 = [] → (p1.length : Int) = 2 * e) ∧ ∀ c p3, p2 = c :: p3 → c = uf f n (p1.length + 1 - e) ∧ (p1.length : Int) < 2 * e := by
  have hl := blF_len e n f
  rw [h] at hl
  simp only [List.length_append, List.length_cons] at hl
  have key : ∀ (j : Nat) (x : Int → Int), (p1 ++ b :: p2)[j]? = some x → x = uf f n (j - e) := by
    intro j x hx
    rw [← h] at hx
    unfold blF at hx
    rw [List.getElem?_map] at hx
    cases hq : (List.range (2 * e + 1).toNat)[j]? with
    | none => rw [hq] at hx; cases hx
    | some i =>
      rw [hq] at hx
      have hi : i = j := by
        have := List.getElem?_eq_some_iff.mp hq
        obtain ⟨h1, h2⟩ := this
        rw [List.getElem_range] at h2
        exact h2.symm
      subst hi
      exact (Option.some.inj hx).symm
  refine ⟨key p1.length b (by simp), by omega, fun hp => by rw [hp] at hl; simp at hl; omega, fun c p3 hp => ?_⟩
  subst hp
  refine ⟨?_, by simp at hl; omega⟩
  have := key (p1.length + 1) c (by simp)
  rw [this]
  congr 1
theorem blF_cons {e : Int} (he : 0 ≤ e) (n : Nat) (f : Int → Int) : ∃ r, blF e n f = uf f n (-e) :: r := by
  unfold blF
  obtain ⟨m, hm⟩ : ∃ m, (2 * e + 1).toNat = m + 1 := ⟨(2 * e).toNat, by omega⟩
  rw [hm, List.range_succ_eq_map]
  exact ⟨_, by simp; congr 1⟩
/-- one way behind the other -/
theorem wy_next {err : Int → Int} : ∀ (n : Nat), (∀ i : Nat, i < n → 0 ≤ err i) → ∀ (pre : List (Int → Int)) (f : Int → Int) (post : List (Int → Int)), wyF err n = pre ++ f :: post → nxF err n f = post.head?
  | 0, _, pre, f, post, h => by
    cases pre with
    | nil =>
      have : (fun _ => (0 : Int)) = f ∧ post = [] := by simpa [wyF] using h
      rw [this.2]
      rfl
    | cons a pre => simp [wyF] at h
  | n + 1, he, pre, f, post, h => by
    rw [wyF] at h
    have he0 := he n (by omega)
    obtain ⟨l1, g, l2, p1, p2, e1, e2, e3, e4⟩ := fm_split _ _ _ _ _ h
    obtain ⟨b1, b2, b3, b4⟩ := blF_split he0 e2
    have hfn : f n = p1.length - err n := by rw [b1, uf_s]
    rw [nxF]
    cases p2 with
    | cons c p3 =>
      obtain ⟨c1, c2⟩ := b4 c p3 rfl
      rw [if_neg (by omega), e4, List.cons_append, List.head?_cons, c1, hfn, b1, uf_uf]
      congr 2
      omega
    | nil =>
      have hp := b3 rfl
      rw [if_pos (by omega), b1, uf_uf, nxF_up n g n _ (by omega), wy_next n (fun i hi => he i (by omega)) l1 g l2 e1, e4, List.nil_append]
      cases l2 with
      | nil => rfl
      | cons g' l3 =>
        obtain ⟨r, hr⟩ := blF_cons he0 n g'
        rw [List.flatMap_cons, hr]
        rfl
theorem wy_first {err : Int → Int} : ∀ (n : Nat), (∀ i : Nat, i < n → 0 ≤ err i) → ∃ r, wyF err n = fsF err n :: r
  | 0, _ => ⟨[], rfl⟩
  | n + 1, he => by
    obtain ⟨r, hr⟩ := wy_first n (fun i hi => he i (by omega))
    obtain ⟨r2, hr2⟩ := blF_cons (he n (by omega)) n (fsF err n)
    exact ⟨_, by rw [wyF, hr, List.flatMap_cons, hr2]; rfl⟩
/-- a way's offs are within their bounds, and 0 where there is no sign -/
theorem wy_mem {err : Int → Int} : ∀ (n : Nat), (∀ i : Nat, i < n → 0 ≤ err i) → ∀ f ∈ wyF err n, (∀ i : Int, 0 ≤ i → i < n → -err i ≤ f i ∧ f i ≤ err i) ∧ ∀ i : Int, (i < 0 ∨ n ≤ i) → f i = 0
  | 0, _, f, hf => by
    have : f = fun _ => 0 := by simpa [wyF] using hf
    subst this
    exact ⟨fun i h0 h1 => absurd h1 (by omega), fun i _ => rfl⟩
  | n + 1, he, f, hf => by
    rw [wyF] at hf
    obtain ⟨g, hg, hb⟩ := List.mem_flatMap.mp hf
    obtain ⟨i, hi, rfl⟩ := List.mem_map.mp hb
    have hi := List.mem_range.mp hi
    obtain ⟨h1, h2⟩ := wy_mem n (fun i hi => he i (by omega)) g hg
    have he0 := he n (by omega)
    refine ⟨fun j h0 hj => ?_, fun j hj => ?_⟩
    · by_cases hjn : j = n
      · subst hjn
        rw [uf_s]
        omega
      · rw [uf_n _ _ hjn]
        exact h1 j h0 (by omega)
    · rw [uf_n _ _ (by omega)]
      exact h2 j (by omega)
theorem wy_len {err : Int → Int} : ∀ (n : Nat), (∀ i : Nat, i < n → 0 ≤ err i ∧ err i ≤ 3) → 1 ≤ (wyF err n).length ∧ (wyF err n).length ≤ 7 ^ n
  | 0, _ => ⟨Nat.le_refl 1, Nat.le_refl 1⟩
  | n + 1, he => by
    obtain ⟨h1, h2⟩ := wy_len n (fun i hi => he i (by omega))
    have he0 := he n (by omega)
    have e : (wyF err (n + 1)).length = (wyF err n).length * (2 * err n + 1).toNat := by
      rw [wyF]
      generalize wyF err n = l
      induction l with
      | nil => simp
      | cons a l ih => rw [List.flatMap_cons, List.length_append, ih, blF_len, List.length_cons, Nat.succ_mul, Nat.add_comm]
    rw [e, Nat.pow_succ]
    have h3 : 1 ≤ (2 * err n + 1).toNat ∧ (2 * err n + 1).toNat ≤ 7 := by omega
    exact ⟨Nat.le_trans h3.1 (Nat.le_mul_of_pos_left _ (by omega)), Nat.mul_le_mul h2 h3.2⟩
theorem wy_lenS {err : Int → Int} (n : Nat) : (wyF err (n + 1)).length = (wyF err n).length * (2 * err n + 1).toNat := by
  rw [wyF]
  generalize wyF err n = l
  induction l with
  | nil => simp
  | cons a l ih => rw [List.flatMap_cons, List.length_append, ih, blF_len, List.length_cons, Nat.succ_mul, Nat.add_comm]
theorem wy_congr {err err' : Int → Int} : ∀ (n : Nat), (∀ i : Nat, i < n → err i = err' i) → wyF err n = wyF err' n
  | 0, _ => rfl
  | n + 1, h => by rw [wyF, wyF, wy_congr n (fun i hi => h i (by omega)), h n (by omega)]
/-- a loop over all ways -/
theorem lp_wy {α σ : Type} {P : α → σ → Prop} {l : List α} (I : List α → α → σ → Prop) (hs : ∀ pre f post s, l = pre ++ f :: post → I pre f s → (∀ f' post' s', post = f' :: post' → I (pre ++ [f]) f' s' → P f' s') → P f s) : ∀ (post : List α) (pre : List α) (f : α) (s : σ), l = pre ++ f :: post → I pre f s → P f s
  | [], pre, f, s, hl, hI => hs pre f [] s hl hI (fun f' post' s' h => by cases h)
  | f2 :: post, pre, f, s, hl, hI => hs pre f (f2 :: post) s hl hI (fun f' post' s' h hI' => by
    cases h
    exact lp_wy I hs post (pre ++ [f]) f2 s' (by rw [hl]; simp) hI')
theorem snF_congr {beh snd ap al : Int → Int} {gone : Int} {off off' : Int → Int} : ∀ (k : Nat), (∀ i : Nat, i < k → off i = off' i) → snF beh snd ap al gone off k = snF beh snd ap al gone off' k
  | 0, _ => rfl
  | k + 1, h => by
    rw [snF, snF, snF_congr k (fun i hi => h i (by omega))]
    unfold sgv
    rw [h k (by omega)]
end
section
/-! the reference: nearness, ways -/
/-- the cells that say what land is tried are the same -/
def Sm (S S' : St) : Prop := S' 0 = S 0 ∧ S' 12 = S 12 ∧ S' 13 = S 13 ∧ S' 15 = S 15 ∧ S' 16 = S 16 ∧ S' 17 = S 17 ∧ S' 18 = S 18 ∧ S' 19 = S 19 ∧ S' 20 = S 20
theorem Sm.of {X : List Nat} {S S' : St} (h : Fr X [] S S') (hX : ([0, 12, 13, 15, 16, 17, 18, 19, 20].all (fun c => !(X.contains c))) = true) : Sm S S' := by
  have key : ∀ c ∈ ([0, 12, 13, 15, 16, 17, 18, 19, 20] : List Nat), S' c = S c := by
    intro c hc
    have := List.all_eq_true.mp hX c hc
    exact h.c c (by simpa using this)
  exact ⟨key _ (by simp), key _ (by simp), key _ (by simp), key _ (by simp), key _ (by simp), key _ (by simp), key _ (by simp), key _ (by simp), key _ (by simp)⟩
/-- a land tried, with its errors, need and breath -/
def mAs (S : St) : Prop := mOk S ∧ (1 ≤ S 0 20 ∧ 2 ≤ S 0 21 ∧ S 0 21 ≤ 4 ∧ 0 ≤ S 0 22 ∧ S 0 22 ≤ 9) ∧ ∀ i, 0 ≤ i → i < S 0 20 → 0 ≤ S 18 i ∧ S 18 i ≤ 3
theorem mOk_sm {S S' : St} (h : Sm S S') (k : mOk S) : mOk S' := by
  obtain ⟨h0, h1, h2, h3, h4, h5, h6, h7, h8⟩ := h
  unfold mOk plM at *
  rw [h0, h1, h2, h3, h4, h5, h7, h8]
  exact k
theorem mAs_sm {S S' : St} (h : Sm S S') (k : mAs S) : mAs S' := by
  have k1 := mOk_sm h k.1
  refine ⟨k1, ?_, ?_⟩
  · rw [h.1]; exact k.2.1
  · rw [h.1, h.2.2.2.2.2.2.1]; exact k.2.2
theorem smM_sm {S S' : St} (h : Sm S S') : smM S' = smM S := by
  obtain ⟨h0, h1, h2, h3, h4, h5, h6, h7, h8⟩ := h
  funext off
  unfold smM
  rw [h0, h1, h2, h5, h7]
theorem tnM_sm {S S' : St} (h : Sm S S') : tnM S' = tnM S := by
  obtain ⟨h0, h1, h2, h3, h4, h5, h6, h7, h8⟩ := h
  funext f g
  unfold tnM
  rw [h0, h3, h4, h7, h8]
/-- all ways of the land tried -/
def wyM (S : St) : List (Int → Int) := wyF (S 18) (S 0 20).toNat
theorem wyM_sm {S S' : St} (h : Sm S S') : wyM S' = wyM S := by unfold wyM; rw [h.1, h.2.2.2.2.2.2.1]
/-- how near the turns are on a way; whether it opens -/
def apM (S : St) (f : Int → Int) : Int := apF (S 0 21) (tnM S (smM S f)) (S 0 19).toNat
theorem apM_sm {S S' : St} (h : Sm S S') : apM S' = apM S := by funext f; unfold apM; rw [h.1, tnM_sm h, smM_sm h]
def opM (S : St) (f : Int → Int) : Bool := decide (apM S f ≤ S 0 22)
theorem opM_sm {S S' : St} (h : Sm S S') : opM S' = opM S := by funext f; unfold opM; rw [h.1, apM_sm h]
/-- the reference stands at this way -/
def Wy (S : St) (f : Int → Int) : Prop := (∀ i, 0 ≤ i → i < S 0 20 → S 21 i = f i) ∧ (∀ i, 0 ≤ i → i < S 0 20 → S 22 i = smM S f i) ∧ ∀ g, 0 ≤ g → g < S 0 19 → S 23 g = tnM S (smM S f) g
theorem wyM_of {S : St} (h : mAs S) {f : Int → Int} (hf : f ∈ wyM S) : ofOk (S 0 20) f := by
  have hn := h.1.1.1
  have h1 := (wy_mem (S 0 20).toNat (fun i hi => (h.2.2 i (by omega) (by omega)).1) f hf).1
  intro i h0 hi
  have := h1 i h0 (by omega)
  have := h.2.2 i h0 hi
  omega
theorem t_M_isPart (S : St) (a b : Int) (Q : Option AV → St → Prop) (h1 : 0 ≤ a ∧ a ≤ b → Q (some (.inl 1)) S) (h0 : ¬ (0 ≤ a ∧ a ≤ b) → Q (some (.inl 0)) S) : Smm H_M_isPart 0 [some (.inl a), some (.inl b)] [] S Q := by
  refine sound ok_M_isPart [] 40 ?_
  refine ⟨fun h2 => ⟨Or.inl rfl, h0 (by omega)⟩, fun h2 => ?_⟩
  exact ⟨fun h3 => ⟨Or.inl rfl, h0 (by omega)⟩, fun h3 => ⟨Or.inr rfl, h1 (by omega)⟩⟩
theorem t_M_isGuard (S : St) (g : Int) (Q : Option AV → St → Prop) (h1 : ¬ S 0 18 = 0 ∧ 0 ≤ g ∧ g < S 0 19 → Q (some (.inl 1)) S) (h0 : ¬ (¬ S 0 18 = 0 ∧ 0 ≤ g ∧ g < S 0 19) → Q (some (.inl 0)) S) : Smm H_M_isGuard 0 [some (.inr (.inr 0)), some (.inl g)] [] S Q := by
  refine sound ok_M_isGuard [] 40 ?_
  refine ⟨fun h2 => ⟨Or.inl rfl, h0 (by omega)⟩, fun h2 => ?_⟩
  refine ⟨fun h3 => ⟨Or.inl rfl, h0 (by omega)⟩, fun h3 => ?_⟩
  exact ⟨fun h4 => ⟨Or.inl rfl, h0 (by omega)⟩, fun h4 => ⟨Or.inr rfl, h1 (by omega)⟩⟩
theorem t_M_isSign (S : St) (g : Int) (Q : Option AV → St → Prop) (h1 : ¬ S 0 18 = 0 ∧ 0 ≤ g ∧ g < S 0 20 → Q (some (.inl 1)) S) (h0 : ¬ (¬ S 0 18 = 0 ∧ 0 ≤ g ∧ g < S 0 20) → Q (some (.inl 0)) S) : Smm H_M_isSign 0 [some (.inr (.inr 0)), some (.inl g)] [] S Q := by
  refine sound ok_M_isSign [] 40 ?_
  refine ⟨fun h2 => ⟨Or.inl rfl, h0 (by omega)⟩, fun h2 => ?_⟩
  refine ⟨fun h3 => ⟨Or.inl rfl, h0 (by omega)⟩, fun h3 => ?_⟩
  exact ⟨fun h4 => ⟨Or.inl rfl, h0 (by omega)⟩, fun h4 => ⟨Or.inr rfl, h1 (by omega)⟩⟩
theorem t_M_allWays (S : St) (Q : Option AV → St → Prop) (h : mAs S) (hQ : Q (some (.inl (wyM S).length)) S) : Smm H_M_allWays 0 [some (.inr (.inr 0)), none, none] [] S Q := by
  have hn := h.1.1.1
  have loop : ∀ (i : Int) (_ : Unit), (0 ≤ i ∧ i ≤ S 0 20) → Smm H_M_allWays 4 [some (.inr (.inr 0)), some (.inl ((wyF (S 18) i.toNat).length : Int)), some (.inl i)] [] S Q := by
    refine lp_up (P := fun i _ => Smm H_M_allWays 4 [some (.inr (.inr 0)), some (.inl ((wyF (S 18) i.toNat).length : Int)), some (.inl i)] [] S Q) (fun i _ => 0 ≤ i ∧ i ≤ S 0 20) (S 0 20) ?_ ?_
    · rintro i - hi hi2
      refine sound ok_M_allWays [4] 20 ?_
      refine ⟨fun _ => ?_, fun h3 => absurd h3 (by omega)⟩
      have e : i = S 0 20 := by omega
      subst e
      exact hQ
    · rintro i - hi hi2 ih
      obtain ⟨k, rfl⟩ : ∃ k : Nat, i = k := ⟨i.toNat, by omega⟩
      have ih := ih () (by omega)
      rw [show ((k : Int) + 1).toNat = k + 1 by omega, wy_lenS] at ih
      have hl := wy_len (err := S 18) k (fun j hj => h.2.2 j (by omega) (by omega))
      have he := h.2.2 k (by omega) hi
      have h7 : 7 ^ k ≤ 7 ^ 5 := Nat.pow_le_pow_right (by omega) (by omega)
      have h75 : 7 ^ 5 = 16807 := rfl
      refine sound ok_M_allWays [4] 40 ?_
      refine ⟨fun h3 => absurd h3 (by omega), fun _ => ?_⟩
      refine ⟨by omega, ?_⟩
      refine Smm.sub ih ⟨Or.inr rfl, Or.inr (sI ?_), Or.inr (sI (by unfold i32; omega)), trivial⟩
      rw [show ((k : Int)).toNat = k by omega]
      have e1 : i32 (i32 (2 * S 18 k) + 1) = 2 * S 18 k + 1 := by unfold i32; omega
      rw [e1]
      have e2 : ((2 * S 18 k + 1).toNat : Int) = 2 * S 18 k + 1 := by omega
      have hm : (wyF (S 18) k).length * (2 * S 18 k + 1).toNat ≤ 16807 * 7 := Nat.mul_le_mul (by omega) (by omega)
      have e3 : (((wyF (S 18) k).length * (2 * S 18 k + 1).toNat : Nat) : Int) = ((wyF (S 18) k).length : Int) * (2 * S 18 k + 1) := by rw [Int.natCast_mul, e2]
      rw [← e3]
      generalize (wyF (S 18) k).length * (2 * S 18 k + 1).toNat = z at hm ⊢
      unfold i32
      omega
  refine sound ok_M_allWays [4] 20 ?_
  exact loop 0 () (by omega)
set_option maxHeartbeats 4000000 in
theorem t_M_apart (S : St) (Q : Option AV → St → Prop) (hk : 0 ≤ S 0 19 ∧ S 0 19 ≤ 4) (hn : 2 ≤ S 0 21 ∧ S 0 21 ≤ 4) (hb : ∀ g, 0 ≤ g → g < S 0 19 → S 23 g = 1000000 ∨ (-1000 ≤ S 23 g ∧ S 23 g ≤ 2000))
    (hQ : ∀ S', Fr [25] [] S S' → Q (some (.inl (apF (S 0 21) (S 23) (S 0 19).toNat))) S') : Smm H_M_apart 0 [some (.inr (.inr 0)), none, none, none] [] S Q := by
  refine sound ok_M_apart [15] 40 ?_
  refine t_M_sorts S _ hk (fun S' hF hr => ?_)
  have e0 : S' 0 = S 0 := hF.c 0 rfl
  have q19 : S' 0 19 = S 0 19 := by rw [e0]
  have q21 : S' 0 21 = S 0 21 := by rw [e0]
  have hs := isF_srtd (S 23) (S 0 19).toNat
  have hl := isF_len (S 23) (S 0 19).toNat
  have hm : ∀ x ∈ isF (S 23) (S 0 19).toNat, x = 1000000 ∨ (-1000 ≤ x ∧ x ≤ 2000) := fun x hx => by
    obtain ⟨j, h1, h2⟩ := (isF_mem _ _).mp hx
    rw [h2]
    exact hb j (by omega) (by omega)
  have hQ' := hQ S' hF
  unfold apF at hQ'
  generalize isF (S 23) (S 0 19).toNat = l at hr hs hl hm hQ'
  have hcl := cnF_le l
  have hlt := cnF_lt l
  have hge := cnF_ge l hs (fun x hx => by have := hm x hx; omega)
  have hbd : ∀ j : Nat, j < l.length → l.getD j 0 = 1000000 ∨ (-1000 ≤ l.getD j 0 ∧ l.getD j 0 ≤ 2000) := fun j hj => hm _ (by
    rw [List.getD_eq_getElem?_getD, List.getElem?_eq_getElem hj]
    exact List.getElem_mem hj)
  have wb : ∀ i : Nat, i ≤ cnF l → wmF (S 0 21).toNat l i ≤ 1000000 ∧ -5000 ≤ wmF (S 0 21).toNat l i := by
    intro i
    induction i with
    | zero => intro _; rw [wmF]; omega
    | succ i ih =>
      intro hi
      have ih := ih (by omega)
      rw [wmF]
      split
      · have h1 := hbd i (by omega)
        have h2 := hbd (i + 1 - (S 0 21).toNat) (by omega)
        have h3 := hlt i (by omega)
        have h4 := hlt (i + 1 - (S 0 21).toNat) (by omega)
        omega
      · exact ih
  have wz : ∀ i : Nat, i + 1 ≤ (S 0 21).toNat → wmF (S 0 21).toNat l i = 1000000 := by
    intro i
    induction i with
    | zero => intro _; rfl
    | succ i ih => intro hi; rw [wmF, if_neg (by omega)]; exact ih (by omega)
  have loop : ∀ (i : Int) (_ : Unit), (S 0 21 - 1 ≤ i ∧ i ≤ l.length ∨ i = S 0 21 - 1) ∧ (i ≤ cnF l ∨ i = S 0 21 - 1) → Smm H_M_apart 15 [some (.inr (.inr 0)), some (.inl (wmF (S 0 21).toNat l (min i.toNat (cnF l)))), some (.inl i), none] [] S' Q := by
    refine lp_up (P := fun i _ => Smm H_M_apart 15 [some (.inr (.inr 0)), some (.inl (wmF (S 0 21).toNat l (min i.toNat (cnF l)))), some (.inl i), none] [] S' Q) (fun i _ => (S 0 21 - 1 ≤ i ∧ i ≤ l.length ∨ i = S 0 21 - 1) ∧ (i ≤ cnF l ∨ i = S 0 21 - 1)) (S 0 19) ?_ ?_
    · rintro i - hi ⟨hi2, hi3⟩
      refine sound ok_M_apart [15] 20 ?_
      refine ⟨fun _ => ?_, fun h3 => absurd h3 (by omega)⟩
      rw [show min i.toNat (cnF l) = cnF l by omega]
      exact hQ'
    · rintro i - hi ⟨hi2, hi3⟩ ih
      have hri := hr i.toNat (by omega)
      rw [show ((i.toNat : Nat) : Int) = i by omega] at hri
      refine sound ok_M_apart [15] 60 ?_
      refine ⟨fun h3 => absurd h3 (by omega), fun _ => ?_⟩
      refine ⟨by omega, ?_⟩
      refine ⟨fun h3 => ?_, fun h3 => ?_⟩
      · refine ⟨by omega, ?_⟩
        have e1 : i32 (i32 (i - S' 0 21) + 1) = i - S 0 21 + 1 := by rw [q21]; unfold i32; omega
        refine ⟨by rw [e1]; omega, ?_⟩
        have hri2 := hr (i - S 0 21 + 1).toNat (by omega)
        rw [show (((i - S 0 21 + 1).toNat : Nat) : Int) = i - S 0 21 + 1 by omega] at hri2
        have hic : i < cnF l := by
          rcases Int.lt_or_le i (cnF l) with q | q
          · exact q
          · have := hge i.toNat (by omega) (by omega)
            rw [hri] at h3
            exact absurd this h3
        have hb1 := hbd i.toNat (by omega)
        have hb2 := hbd (i - S 0 21 + 1).toNat (by omega)
        have hn1 := hlt i.toNat (by omega)
        have hn2 := hlt (i - S 0 21 + 1).toNat (by omega)
        have hw := wb i.toNat (by omega)
        have e2 : i32 (S' 25 i - S' 25 (i32 (i32 (i - S' 0 21) + 1))) = l.getD i.toNat 0 - l.getD (i - S 0 21 + 1).toNat 0 := by rw [e1, hri, hri2]; unfold i32; omega
        have e3 : wmF (S 0 21).toNat l (min (i + 1).toNat (cnF l)) = min (wmF (S 0 21).toNat l (min i.toNat (cnF l))) (l.getD i.toNat 0 - l.getD (i - S 0 21 + 1).toNat 0) := by
          rw [show min (i + 1).toNat (cnF l) = i.toNat + 1 by omega, show min i.toNat (cnF l) = i.toNat by omega, wmF, if_pos (by omega), show i.toNat + 1 - (S 0 21).toNat = (i - S 0 21 + 1).toNat by omega]
        have ih := ih () (by omega)
        rw [e3] at ih
        refine ⟨fun h4 => ?_, fun h4 => ?_⟩
        · rw [e2] at h4
          exact Smm.sub ih ⟨Or.inr rfl, Or.inr (sI (by omega)), Or.inr (sI (by unfold i32; omega)), Or.inl rfl, trivial⟩
        · rw [e2] at h4
          exact Smm.sub ih ⟨Or.inr rfl, Or.inr (sI (by rw [e2]; omega)), Or.inr (sI (by unfold i32; omega)), Or.inl rfl, trivial⟩
      · have hic : cnF l ≤ i.toNat := by
          rcases Nat.lt_or_ge i.toNat (cnF l) with q | q
          · rw [hri] at h3
            exact absurd h3 (hlt _ q)
          · exact q
        rw [show min i.toNat (cnF l) = cnF l by omega]
        exact hQ'
  refine Smm.sub (loop (S 0 21 - 1) () ⟨Or.inr rfl, Or.inr rfl⟩) ⟨Or.inr rfl, Or.inr (sI (wz _ (by omega))), Or.inr (sI (by rw [q21]; unfold i32; omega)), Or.inl rfl, trivial⟩
theorem t_M_doesOpen (S : St) (Q : Option AV → St → Prop) (hk : 0 ≤ S 0 19 ∧ S 0 19 ≤ 4) (hn : 2 ≤ S 0 21 ∧ S 0 21 ≤ 4) (hb : ∀ g, 0 ≤ g → g < S 0 19 → S 23 g = 1000000 ∨ (-1000 ≤ S 23 g ∧ S 23 g ≤ 2000))
    (h1 : ∀ S', Fr [25] [] S S' → apF (S 0 21) (S 23) (S 0 19).toNat ≤ S 0 22 → Q (some (.inl 1)) S')
    (h0 : ∀ S', Fr [25] [] S S' → ¬ apF (S 0 21) (S 23) (S 0 19).toNat ≤ S 0 22 → Q (some (.inl 0)) S') : Smm H_M_doesOpen 0 [some (.inr (.inr 0))] [] S Q := by
  refine sound ok_M_doesOpen [] 40 ?_
  refine t_M_apart S _ hk hn hb (fun S' hF => ?_)
  have e0 : S' 0 = S 0 := hF.c 0 rfl
  have q22 : S' 0 22 = S 0 22 := by rw [e0]
  refine ⟨fun h2 => ⟨Or.inl rfl, h0 S' hF (by omega)⟩, fun h2 => ⟨Or.inr rfl, h1 S' hF (by omega)⟩⟩
theorem fsF_v {err : Int → Int} : ∀ (n : Nat) (i : Int), 0 ≤ i → i < n → fsF err n i = -err i
  | 0, i, h0, h => absurd h (by omega)
  | n + 1, i, h0, h => by
    rw [fsF]
    by_cases hi : i = n
    · rw [hi, uf_s]
    · rw [uf_n _ _ hi]
      exact fsF_v n i h0 (by omega)
/-- goes, at a way -/
theorem t_M_goesW (S : St) (f : Int → Int) (Q : Option AV → St → Prop) (h : mAs S) (hf : f ∈ wyM S) (ho : ∀ i, 0 ≤ i → i < S 0 20 → S 21 i = f i) (hQ : ∀ S', Fr [22, 23, 24] [] S S' → Wy S' f → Q none S') : Smm H_M_goes 0 [some (.inr (.inr 0)), none, none] [] S Q := by
  have hn := h.1.1.1
  have hof : ofOk (S 0 20) (S 21) := fun i h0 hi => by rw [ho i h0 hi]; exact wyM_of h hf i h0 hi
  have hsm : smM S (S 21) = smM S f := by
    unfold smM
    exact snF_congr _ (fun i hi => ho i (by omega) (by omega))
  refine t_M_goes S Q h.1 hof (fun S' hF h1 h2 => hQ S' hF ?_)
  have hSm : Sm S S' := Sm.of hF rfl
  refine ⟨fun i h0 hi => ?_, fun i h0 hi => ?_, fun g h0 hg => ?_⟩
  · rw [hSm.1] at hi
    rw [hF.c 21 rfl]
    exact ho i h0 hi
  · rw [hSm.1] at hi
    rw [smM_sm hSm, h1 i h0 hi, hsm]
  · rw [hSm.1] at hg
    rw [smM_sm hSm, tnM_sm hSm, h2 g h0 hg, hsm]
theorem t_M_firstWay (S : St) (Q : Option AV → St → Prop) (h : mAs S) (hQ : ∀ S', Fr [21, 22, 23, 24] [] S S' → Wy S' (fsF (S 18) (S 0 20).toNat) → Q none S') : Smm H_M_firstWay 0 [some (.inr (.inr 0)), none] [] S Q := by
  have hn := h.1.1.1
  have loop : ∀ (i : Int) (S' : St), ((0 ≤ i ∧ i ≤ S 0 20) ∧ Fr [21] [] S S' ∧ ∀ j, 0 ≤ j → j < i → S' 21 j = -S 18 j) → Smm H_M_firstWay 2 [some (.inr (.inr 0)), some (.inl i)] [] S' Q := by
    refine lp_up (P := fun i S' => Smm H_M_firstWay 2 [some (.inr (.inr 0)), some (.inl i)] [] S' Q) _ (S 0 20) ?_ ?_
    · rintro i S' hi ⟨hi2, hF, h1⟩
      have hSm : Sm S S' := Sm.of hF rfl
      have q20 : S' 0 20 = S 0 20 := by rw [hSm.1]
      refine sound ok_M_firstWay [2] 20 ?_
      refine ⟨fun _ => ?_, fun h3 => absurd h3 (by omega)⟩
      refine t_M_goesW S' (fsF (S 18) (S 0 20).toNat) _ (mAs_sm hSm h) ?_ (fun j h0 hj => ?_) (fun S2 hF2 hW => ?_)
      · rw [wyM_sm hSm]
        obtain ⟨r, hr⟩ := wy_first (err := S 18) (S 0 20).toNat (fun i hi => (h.2.2 i (by omega) (by omega)).1)
        unfold wyM
        rw [hr]
        exact List.mem_cons_self
      · rw [h1 j h0 (by omega), fsF_v _ _ h0 (by omega)]
      · exact hQ S2 ((hF.mo rfl rfl).tr (hF2.mo rfl rfl)) hW
    · rintro i S' hi ⟨hi2, hF, h1⟩ ih
      have hSm : Sm S S' := Sm.of hF rfl
      have q20 : S' 0 20 = S 0 20 := by rw [hSm.1]
      have he := h.2.2 i hi2.1 hi
      refine sound ok_M_firstWay [2] 40 ?_
      refine ⟨fun h3 => absurd h3 (by omega), fun _ => ?_⟩
      refine ⟨by omega, ?_⟩
      refine ⟨by omega, ?_⟩
      refine Smm.sub (ih _ ⟨by omega, hF.up _ _ _ rfl, fun j h0 hj => ?_⟩) ⟨Or.inr rfl, Or.inr (sI (by unfold i32; omega)), trivial⟩
      by_cases hji : j = i
      · rw [hji, up_s, hF.c 18 rfl]
        unfold i32
        omega
      · rw [up_n _ _ _ hji]
        exact h1 j h0 (by omega)
  refine sound ok_M_firstWay [2] 20 ?_
  exact loop 0 S ⟨by omega, Fr.rf _ _ _, fun j h0 hj => absurd hj (by omega)⟩
theorem t_M_nextWay (S : St) (f : Int → Int) (Q : Option AV → St → Prop) (h : mAs S) (hW : ∀ i, 0 ≤ i → i < S 0 20 → S 21 i = f i) (hb : ∀ i, 0 ≤ i → i < S 0 20 → -3 ≤ f i ∧ f i ≤ 3) (hm : ∀ f', nxF (S 18) (S 0 20).toNat f = some f' → f' ∈ wyM S)
    (h1 : ∀ f' S', nxF (S 18) (S 0 20).toNat f = some f' → Fr [21, 22, 23, 24] [] S S' → Wy S' f' → Q (some (.inl 1)) S') (h0 : ∀ S', nxF (S 18) (S 0 20).toNat f = none → Fr [21, 22, 23, 24] [] S S' → Q (some (.inl 0)) S') : Smm H_M_nextWay 0 [some (.inr (.inr 0)), none] [] S Q := by
  have hn := h.1.1.1
  have out : ∀ (s : Int) (S' : St) (g : Int → Int), (-1 ≤ s ∧ s < S 0 20) → Fr [21] [] S S' → (∀ i, 0 ≤ i → i < S 0 20 → S' 21 i = g i) → (∀ i, 0 ≤ i → i < S 0 20 → -3 ≤ g i ∧ g i ≤ 3) → nxF (S 18) (s + 1).toNat g = nxF (S 18) (S 0 20).toNat f → (s = -1 ∨ ¬ g s = S 18 s) → Smm H_M_nextWay 45 [some (.inr (.inr 0)), some (.inl s)] [] S' Q := by
    intro s S' g hs hF hg hgb hx hz
    have hSm : Sm S S' := Sm.of hF rfl
    refine sound ok_M_nextWay [] 60 ?_
    refine ⟨fun h2 => ?_, fun h2 => ?_⟩
    · refine ⟨by omega, ?_⟩
      refine ⟨by omega, ?_⟩
      obtain ⟨k, hk⟩ : ∃ k : Nat, s = k := ⟨s.toNat, by omega⟩
      subst hk
      rw [show ((k : Int) + 1).toNat = k + 1 by omega, nxF, if_neg (hz.resolve_left (by omega))] at hx
      have hF2 : Fr [21] [] S (up S' 21 k (i32 (S' 21 k + 1))) := hF.up _ _ _ rfl
      have hSm2 : Sm S (up S' 21 k (i32 (S' 21 k + 1))) := Sm.of hF2 rfl
      refine t_M_goesW _ (uf g k (g k + 1)) _ (mAs_sm hSm2 h) (by rw [wyM_sm hSm2]; exact hm _ hx.symm) (fun i i0 i1 => ?_) (fun S3 hF3 hW3 => ?_)
      · rw [hSm2.1] at i1
        by_cases hik : i = k
        · rw [hik, up_s, uf_s, hg k (by omega) (by omega)]
          have := hgb k (by omega) (by omega)
          unfold i32
          omega
        · rw [up_n _ _ _ hik, uf_n _ _ hik]
          exact hg i i0 i1
      · exact ⟨Or.inr rfl, h1 _ S3 hx.symm ((hF2.mo rfl rfl).tr (hF3.mo rfl rfl)) hW3⟩
    · rw [show s = -1 by omega] at hx
      exact ⟨Or.inl rfl, h0 S' hx.symm (hF.mo rfl rfl)⟩
  have loop : ∀ (s : Int) (q : St × (Int → Int)), ((-1 ≤ s ∧ s < S 0 20) ∧ Fr [21] [] S q.1 ∧ (∀ i, 0 ≤ i → i < S 0 20 → q.1 21 i = q.2 i) ∧ (∀ i, 0 ≤ i → i < S 0 20 → -3 ≤ q.2 i ∧ q.2 i ≤ 3) ∧ nxF (S 18) (s + 1).toNat q.2 = nxF (S 18) (S 0 20).toNat f) → Smm H_M_nextWay 7 [some (.inr (.inr 0)), some (.inl s)] [] q.1 Q := by
    refine lp_dn (P := fun s (q : St × (Int → Int)) => Smm H_M_nextWay 7 [some (.inr (.inr 0)), some (.inl s)] [] q.1 Q) _ ?_ ?_
    · rintro s ⟨S', g⟩ hs ⟨hs2, hF, hg, hgb, hx⟩
      refine sound ok_M_nextWay [45] 20 ?_
      exact ⟨fun _ => out s S' g hs2 hF hg hgb hx (Or.inl (by omega)), fun h3 => absurd h3 (by omega)⟩
    · rintro s ⟨S', g⟩ hs ⟨hs2, hF, hg, hgb, hx⟩ ih
      dsimp only at hF hg hgb hx ih ⊢
      have e18 : S' 18 = S 18 := hF.c 18 rfl
      have hgs := hg s hs hs2.2
      refine sound ok_M_nextWay [45, 7] 40 ?_
      refine ⟨fun h3 => absurd h3 (by omega), fun _ => ?_⟩
      refine ⟨by omega, ?_⟩
      refine ⟨by omega, ?_⟩
      refine ⟨fun h3 => ?_, fun h3 => ?_⟩
      · rw [hgs, e18] at h3
        exact out s S' g hs2 hF hg hgb hx (Or.inr h3)
      · rw [hgs, e18] at h3
        have he := h.2.2 s hs hs2.2
        have e1 : i32 (-S' 18 s) = -S 18 s := by rw [e18]; unfold i32; omega
        refine ⟨by omega, ?_⟩
        refine ⟨by omega, ?_⟩
        obtain ⟨k, hk⟩ : ∃ k : Nat, s = k := ⟨s.toNat, by omega⟩
        subst hk
        rw [show ((k : Int) + 1).toNat = k + 1 by omega, nxF, if_pos h3] at hx
        refine Smm.sub (ih (up S' 21 k (i32 (-S' 18 k)), uf g k (-S 18 k)) ⟨by omega, hF.up _ _ _ rfl, fun i i0 i1 => ?_, fun i i0 i1 => ?_, ?_⟩) ⟨Or.inr rfl, Or.inr (sI (by unfold i32; omega)), trivial⟩
        · dsimp only
          by_cases hik : i = k
          · rw [hik, up_s, uf_s, e1]
          · rw [up_n _ _ _ hik, uf_n _ _ hik]
            exact hg i i0 i1
        · by_cases hik : i = k
          · rw [hik]
            show -3 ≤ uf g k _ k ∧ uf g k _ k ≤ 3
            rw [uf_s]
            omega
          · show -3 ≤ uf g k _ i ∧ uf g k _ i ≤ 3
            rw [uf_n _ _ hik]
            exact hgb i i0 i1
        · rw [show ((k : Int) - 1 + 1).toNat = k by omega]
          exact hx
  refine sound ok_M_nextWay [7] 20 ?_
  refine Smm.sub (loop (S 0 20 - 1) (S, f) ⟨by omega, Fr.rf _ _ _, hW, hb, by rw [show S 0 20 - 1 + 1 = S 0 20 by omega]⟩) ⟨Or.inr rfl, Or.inr (sI (by unfold i32; omega)), trivial⟩
/-- a loop over all ways of the reference: at its end the next way, or none -/
theorem t_M_nextW (S : St) (pre : List (Int → Int)) (f : Int → Int) (post : List (Int → Int)) (Q : Option AV → St → Prop) (h : mAs S) (hl : wyM S = pre ++ f :: post) (hW : ∀ i, 0 ≤ i → i < S 0 20 → S 21 i = f i)
    (h1 : ∀ f' post' S', post = f' :: post' → Fr [21, 22, 23, 24] [] S S' → Wy S' f' → Q (some (.inl 1)) S') (h0 : ∀ S', post = [] → Fr [21, 22, 23, 24] [] S S' → Q (some (.inl 0)) S') : Smm H_M_nextWay 0 [some (.inr (.inr 0)), none] [] S Q := by
  have hn := h.1.1.1
  have hx := wy_next (err := S 18) (S 0 20).toNat (fun i hi => (h.2.2 i (by omega) (by omega)).1) pre f post hl
  have hfm : f ∈ wyM S := by rw [hl]; exact List.mem_append_right _ List.mem_cons_self
  refine t_M_nextWay S f Q h hW (wyM_of h hfm) (fun f' hf' => ?_) (fun f' S' hf' hF hW' => ?_) (fun S' hf' hF => ?_)
  · rw [hx] at hf'
    cases post with
    | nil => cases hf'
    | cons a r =>
      have : a = f' := Option.some.inj hf'
      rw [hl, this]
      exact List.mem_append_right _ (List.mem_cons_of_mem _ List.mem_cons_self)
  · rw [hx] at hf'
    cases post with
    | nil => cases hf'
    | cons a r =>
      have : a = f' := Option.some.inj hf'
      subst this
      exact h1 a r S' rfl hF hW'
  · rw [hx] at hf'
    cases post with
    | nil => exact h0 S' rfl hF
    | cons a r => cases hf'
theorem Wy_b {S : St} (h : mAs S) {f : Int → Int} (hf : f ∈ wyM S) (hW : Wy S f) : ∀ g, 0 ≤ g → g < S 0 19 → S 23 g = 1000000 ∨ (-1000 ≤ S 23 g ∧ S 23 g ≤ 2000) := fun g h0 hg => by
  rw [hW.2.2 g h0 hg]
  have hk := h.1.2.1
  have := tnM_b h.1 (wyM_of h hf) h0 (by omega)
  omega
theorem Wy_ap {S : St} (h : mAs S) {f : Int → Int} (hW : Wy S f) : apF (S 0 21) (S 23) (S 0 19).toNat = apM S f := by
  have hk := h.1.2.1
  exact apF_congr (fun j h0 hj => hW.2.2 j h0 (by omega))
theorem wyM_len {S : St} (h : mAs S) : 1 ≤ (wyM S).length ∧ (wyM S).length ≤ 16807 := by
  have hn := h.1.1.1
  obtain ⟨h1, h2⟩ := wy_len (err := S 18) (S 0 20).toNat (fun j hj => h.2.2 j (by omega) (by omega))
  have h7 : 7 ^ (S 0 20).toNat ≤ 7 ^ 5 := Nat.pow_le_pow_right (by omega) (by omega)
  have h75 : 7 ^ 5 = 16807 := rfl
  exact ⟨h1, by unfold wyM; omega⟩
theorem Wy_sm {S S' : St} (h : Sm S S') (h1 : S' 21 = S 21) (h2 : S' 22 = S 22) (h3 : S' 23 = S 23) {f : Int → Int} (hW : Wy S f) : Wy S' f := by
  unfold Wy
  rw [smM_sm h, tnM_sm h, h1, h2, h3, h.1]
  exact hW
theorem t_M_openings (S : St) (Q : Option AV → St → Prop) (h : mAs S) (hQ : ∀ S', Fr [21, 22, 23, 24, 25] [] S S' → Q (some (.inl ((wyM S).countP (opM S)))) S') : Smm H_M_openings 0 [some (.inr (.inr 0)), none] [] S Q := by
  have hlen := wyM_len h
  have loop : ∀ (post pre : List (Int → Int)) (f : Int → Int) (q : St × Int), wyM S = pre ++ f :: post → (Fr [21, 22, 23, 24, 25] [] S q.1 ∧ Wy q.1 f ∧ q.2 = pre.countP (opM S)) → Smm H_M_openings 6 [some (.inr (.inr 0)), some (.inl q.2)] [] q.1 Q := by
    refine lp_wy (P := fun _ (q : St × Int) => Smm H_M_openings 6 [some (.inr (.inr 0)), some (.inl q.2)] [] q.1 Q) (fun pre f q => Fr [21, 22, 23, 24, 25] [] S q.1 ∧ Wy q.1 f ∧ q.2 = pre.countP (opM S)) ?_
    rintro pre f post ⟨S', a⟩ hl ⟨hF, hW, ha⟩ ih
    dsimp only at hF hW ha ⊢
    have hSm : Sm S S' := Sm.of hF rfl
    have hA := mAs_sm hSm h
    have hfm : f ∈ wyM S' := by rw [wyM_sm hSm, hl]; exact List.mem_append_right _ List.mem_cons_self
    have hcn := List.countP_le_length (p := opM S) (l := wyM S)
    have hcn2 : (wyM S).countP (opM S) = pre.countP (opM S) + (f :: post).countP (opM S) := by rw [hl, List.countP_append]
    have hcn3 := List.countP_cons (p := opM S) (a := f) (l := post)
    have next : ∀ (S2 : St) (b : Int), Fr [25] [] S' S2 → b = (pre ++ [f]).countP (opM S) → Smm H_M_openings 16 [some (.inr (.inr 0)), some (.inl b)] [] S2 Q := by
      intro S2 b hF2 hb
      have hSm2 : Sm S S2 := Sm.of (hF.tr (hF2.mo rfl rfl)) rfl
      refine sound ok_M_openings [6] 20 ?_
      refine t_M_nextW S2 pre f post _ (mAs_sm hSm2 h) (by rw [wyM_sm hSm2]; exact hl) (fun i i0 i1 => ?_) (fun f' post' S3 hp hF3 hW3 => ?_) (fun S3 hp hF3 => ?_)
      · rw [hF2.c 21 rfl]
        exact hW.1 i i0 (by rw [hSm2.1] at i1; rw [hSm.1]; exact i1)
      · refine ⟨fun _ => ?_, fun z => absurd z (by decide)⟩
        exact ih f' post' (S3, b) hp ⟨(hF.tr (hF2.mo rfl rfl)).tr (hF3.mo rfl rfl), hW3, hb⟩
      · refine ⟨fun z => absurd rfl z, fun _ => ?_⟩
        rw [hb, ← hp, ← hl]
        exact hQ S3 ((hF.tr (hF2.mo rfl rfl)).tr (hF3.mo rfl rfl))
    have hap := Wy_ap hA hW
    rw [apM_sm hSm] at hap
    refine sound ok_M_openings [16] 40 ?_
    refine t_M_doesOpen S' _ hA.1.2.1 ⟨hA.2.1.2.1, hA.2.1.2.2.1⟩ (Wy_b hA hfm hW) (fun S2 hF2 hop => ?_) (fun S2 hF2 hop => ?_)
    · refine ⟨fun z => absurd z (by decide), fun _ => ?_⟩
      refine next S2 _ hF2 ?_
      rw [hap, hSm.1] at hop
      have ho : opM S f = true := decide_eq_true hop
      rw [List.countP_append, List.countP_cons, ho, List.countP_nil, ha]
      simp only [if_true]
      unfold i32
      omega
    · refine ⟨fun _ => ?_, fun z => absurd rfl z⟩
      refine next S2 _ hF2 ?_
      rw [hap, hSm.1] at hop
      have ho : opM S f = false := decide_eq_false hop
      rw [List.countP_append, List.countP_cons, ho, List.countP_nil, ha]
      simp
  refine sound ok_M_openings [6] 20 ?_
  refine t_M_firstWay S _ h (fun S' hF hW => ?_)
  obtain ⟨r, hr⟩ := wy_first (err := S 18) (S 0 20).toNat (fun i hi => (h.2.2 i (by omega) (by have := h.1.1.1; omega)).1)
  exact loop r [] _ (S', 0) hr ⟨hF.mo rfl rfl, hW, rfl⟩
end
section
/-! the reference: the land as it is told is tried; divisors -/
def stC (S : St) (c : Nat) (f : Int → Int) : St := fun c' => if c' = c then f else S c'
def cpI (f g : Int → Int) (n : Int) : Int → Int := fun j => if 0 ≤ j ∧ j < n then f j else g j
theorem stC_s (S : St) (c : Nat) (f : Int → Int) : stC S c f c = f := by unfold stC; rw [if_pos rfl]
theorem stC_o (S : St) {c c' : Nat} (f : Int → Int) (h : c' ≠ c) : stC S c f c' = S c' := by unfold stC; rw [if_neg h]
theorem up_st (S : St) (c : Nat) (j v : Int) : up S c j v = stC S c (uf (S c) j v) := rfl
theorem stC_stC (S : St) (c : Nat) (f g : Int → Int) : stC (stC S c f) c g = stC S c g := by
  funext c'
  by_cases h : c' = c
  · rw [h, stC_s, stC_s]
  · rw [stC_o _ _ h, stC_o _ _ h, stC_o _ _ h]
theorem stC_cm (S : St) {c d : Nat} (f g : Int → Int) (h : c ≠ d) : stC (stC S c f) d g = stC (stC S d g) c f := by
  funext k
  by_cases h1 : k = d
  · subst h1
    rw [stC_s, stC_o _ _ (Ne.symm h), stC_s]
  · rw [stC_o _ _ h1]
    by_cases h2 : k = c
    · rw [h2, stC_s, stC_s]
    · rw [stC_o _ _ h2, stC_o _ _ h2, stC_o _ _ h1]
theorem up_stC_s (S : St) (c : Nat) (f : Int → Int) (j v : Int) : up (stC S c f) c j v = stC S c (uf f j v) := by rw [up_st, stC_s, stC_stC]
theorem up_stC_o (S : St) {c d : Nat} (f : Int → Int) (j v : Int) (h : d ≠ c) : up (stC S c f) d j v = stC (up S d j v) c f := by rw [up_st, up_st, stC_o _ _ h, stC_cm _ _ _ (Ne.symm h)]
theorem stC_id (S : St) (c : Nat) : stC S c (S c) = S := by
  funext k
  by_cases h : k = c
  · rw [h, stC_s]
  · rw [stC_o _ _ h]
theorem cpI_0 (f g : Int → Int) : cpI f g 0 = g := by
  funext j
  unfold cpI
  rw [if_neg (by omega)]
theorem cpI_s (f g : Int → Int) {i : Int} (h : 0 ≤ i) : uf (cpI f g i) i (f i) = cpI f g (i + 1) := by
  funext j
  by_cases hj : j = i
  · rw [hj, uf_s]
    unfold cpI
    rw [if_pos (by omega)]
  · rw [uf_n _ _ hj]
    unfold cpI
    by_cases h2 : 0 ≤ j ∧ j < i
    · rw [if_pos h2, if_pos (by omega)]
    · rw [if_neg h2, if_neg (by omega)]
theorem cpI_in (f g : Int → Int) {n i : Int} (h0 : 0 ≤ i) (h1 : i < n) : cpI f g n i = f i := by unfold cpI; rw [if_pos ⟨h0, h1⟩]
/-- the state behind asTold -/
def asS (S : St) : St := stC (stC (stC (stC (up S 0 38 0) 20 (cpI (fun g => if g < S 0 19 then S 9 g else -1) (S 20) 4)) 19 (cpI (S 14) (S 19) 20)) 18 (cpI (S 11) (S 18) (S 0 20))) 17 (cpI (S 10) (S 17) (S 0 20))
set_option maxHeartbeats 4000000 in
theorem t_M_asTold (S : St) (Q : Option AV → St → Prop) (hn : 0 ≤ S 0 20 ∧ S 0 20 ≤ 5) (hk : 0 ≤ S 0 19 ∧ S 0 19 ≤ 4) (hQ : Q none (asS S)) : Smm H_M_asTold 0 [some (.inr (.inr 0)), none] [] S Q := by
  have loop3 : ∀ (i : Int) (T : St), ((0 ≤ i ∧ i ≤ 4) ∧ T = stC (stC (stC (stC S 20 (cpI (fun g => if g < S 0 19 then S 9 g else -1) (S 20) i)) 19 (cpI (S 14) (S 19) 20)) 18 (cpI (S 11) (S 18) (S 0 20))) 17 (cpI (S 10) (S 17) (S 0 20))) → Smm H_M_asTold 68 [some (.inr (.inr 0)), some (.inl i)] [] T Q := by
    refine lp_up (P := fun i T => Smm H_M_asTold 68 [some (.inr (.inr 0)), some (.inl i)] [] T Q) _ 4 ?_ ?_
    · rintro i T hi ⟨hi2, hT⟩
      refine sound ok_M_asTold [68] 20 ?_
      refine ⟨fun _ => ?_, fun h3 => absurd h3 (by omega)⟩
      have e : up T 0 38 0 = asS S := by
        rw [hT, show i = 4 by omega]
        unfold asS
        rw [up_stC_o _ _ _ _ (by decide), up_stC_o _ _ _ _ (by decide), up_stC_o _ _ _ _ (by decide), up_stC_o _ _ _ _ (by decide)]
      rw [← e] at hQ
      exact hQ
    · rintro i T hi ⟨hi2, hT⟩ ih
      have t9 : T 9 = S 9 := by rw [hT, stC_o _ _ (by decide), stC_o _ _ (by decide), stC_o _ _ (by decide), stC_o _ _ (by decide)]
      have t0 : T 0 = S 0 := by rw [hT, stC_o _ _ (by decide), stC_o _ _ (by decide), stC_o _ _ (by decide), stC_o _ _ (by decide)]
      have q19 : T 0 19 = S 0 19 := by rw [t0]
      have fin : ∀ v : Int, v = (if i < S 0 19 then S 9 i else -1) → Smm H_M_asTold 68 [some (.inr (.inr 0)), some (.inl (i32 (i + 1)))] [] (up T 20 i v) Q := by
        intro v hv
        refine Smm.sub (ih (up T 20 i v) ⟨by omega, ?_⟩) ⟨Or.inr rfl, Or.inr (sI (by unfold i32; omega)), trivial⟩
        rw [hT, up_stC_o _ _ _ _ (by decide), up_stC_o _ _ _ _ (by decide), up_stC_o _ _ _ _ (by decide), up_stC_s, hv]
        rw [← cpI_s (fun g => if g < S 0 19 then S 9 g else -1) _ hi2.1]
      refine sound ok_M_asTold [68] 40 ?_
      refine ⟨fun h3 => absurd h3 (by omega), fun _ => ?_⟩
      refine ⟨fun h3 => ?_, fun h3 => ?_⟩
      · refine ⟨by omega, ?_⟩
        exact fin _ (by rw [if_neg (by omega)])
      · refine ⟨by omega, ?_⟩
        refine ⟨by omega, ?_⟩
        exact fin _ (by rw [if_pos (by omega), t9])
  have loop2 : ∀ (i : Int) (T : St), ((0 ≤ i ∧ i ≤ 20) ∧ T = stC (stC (stC S 19 (cpI (S 14) (S 19) i)) 18 (cpI (S 11) (S 18) (S 0 20))) 17 (cpI (S 10) (S 17) (S 0 20))) → Smm H_M_asTold 42 [some (.inr (.inr 0)), some (.inl i)] [] T Q := by
    refine lp_up (P := fun i T => Smm H_M_asTold 42 [some (.inr (.inr 0)), some (.inl i)] [] T Q) _ 20 ?_ ?_
    · rintro i T hi ⟨hi2, hT⟩
      refine sound ok_M_asTold [68] 20 ?_
      refine ⟨fun _ => ?_, fun h3 => absurd h3 (by omega)⟩
      refine loop3 0 T ⟨by omega, ?_⟩
      rw [hT, show i = 20 by omega, cpI_0, stC_id]
    · rintro i T hi ⟨hi2, hT⟩ ih
      have t14 : T 14 = S 14 := by rw [hT, stC_o _ _ (by decide), stC_o _ _ (by decide), stC_o _ _ (by decide)]
      refine sound ok_M_asTold [42] 40 ?_
      refine ⟨fun h3 => absurd h3 (by omega), fun _ => ?_⟩
      refine ⟨by omega, ?_⟩
      refine ⟨by omega, ?_⟩
      refine Smm.sub (ih _ ⟨by omega, ?_⟩) ⟨Or.inr rfl, Or.inr (sI (by unfold i32; omega)), trivial⟩
      rw [t14, hT, up_stC_o _ _ _ _ (by decide), up_stC_o _ _ _ _ (by decide), up_stC_s, cpI_s _ _ hi2.1]
  have loop1 : ∀ (i : Int) (T : St), ((0 ≤ i ∧ i ≤ S 0 20) ∧ T = stC (stC S 18 (cpI (S 11) (S 18) i)) 17 (cpI (S 10) (S 17) i)) → Smm H_M_asTold 2 [some (.inr (.inr 0)), some (.inl i)] [] T Q := by
    refine lp_up (P := fun i T => Smm H_M_asTold 2 [some (.inr (.inr 0)), some (.inl i)] [] T Q) _ (S 0 20) ?_ ?_
    · rintro i T hi ⟨hi2, hT⟩
      have t0 : T 0 = S 0 := by rw [hT, stC_o _ _ (by decide), stC_o _ _ (by decide)]
      have q20 : T 0 20 = S 0 20 := by rw [t0]
      refine sound ok_M_asTold [42] 20 ?_
      refine ⟨fun _ => ?_, fun h3 => absurd h3 (by omega)⟩
      refine loop2 0 T ⟨by omega, ?_⟩
      rw [hT, show i = S 0 20 by omega, cpI_0, stC_id]
    · rintro i T hi ⟨hi2, hT⟩ ih
      have t0 : T 0 = S 0 := by rw [hT, stC_o _ _ (by decide), stC_o _ _ (by decide)]
      have q20 : T 0 20 = S 0 20 := by rw [t0]
      have t10 : T 10 = S 10 := by rw [hT, stC_o _ _ (by decide), stC_o _ _ (by decide)]
      have t11 : T 11 = S 11 := by rw [hT, stC_o _ _ (by decide), stC_o _ _ (by decide)]
      refine sound ok_M_asTold [2] 60 ?_
      refine ⟨fun h3 => absurd h3 (by omega), fun _ => ?_⟩
      refine ⟨by omega, ?_⟩
      refine ⟨by omega, ?_⟩
      refine ⟨by omega, ?_⟩
      refine ⟨by omega, ?_⟩
      refine Smm.sub (ih _ ⟨by omega, ?_⟩) ⟨Or.inr rfl, Or.inr (sI (by unfold i32; omega)), trivial⟩
      rw [up_o T _ _ (by decide : (11 : Nat) ≠ 17), t10, t11, hT, up_stC_s, up_stC_o _ _ _ _ (by decide), up_stC_s, cpI_s _ _ hi2.1, cpI_s _ _ hi2.1]
  refine sound ok_M_asTold [2] 20 ?_
  refine loop1 0 S ⟨by omega, ?_⟩
  rw [cpI_0, cpI_0, stC_id, stC_id]
end
section
/-! the reference: what is asked of the land told, by counting openings -/
def th (S : St) : St := up S 0 0 0
theorem th_0 (S : St) {j : Int} (h : j ≠ 0) : th S 0 j = S 0 j := up_n _ _ _ h
theorem th_c (S : St) {c : Nat} (h : c ≠ 0) : th S c = S c := up_o _ _ _ h
/-- the land told, within its bounds -/
def ldM (S : St) : Prop := (2 ≤ S 0 19 ∧ S 0 19 ≤ 4) ∧ (1 ≤ S 0 20 ∧ S 0 20 ≤ 5) ∧ (2 ≤ S 0 21 ∧ S 0 21 ≤ 4 ∧ 0 ≤ S 0 22 ∧ S 0 22 ≤ 9) ∧ (∀ i, 0 ≤ i → i < S 0 20 → 0 ≤ S 10 i ∧ S 10 i ≤ 59 ∧ 0 ≤ S 11 i ∧ S 11 i ≤ 3 ∧ -1 ≤ S 12 i ∧ S 12 i < i ∧ 0 ≤ S 13 i ∧ S 13 i ≤ 3) ∧ (∀ j, 0 ≤ j → j < 20 → -1 ≤ S 14 j ∧ S 14 j ≤ 9) ∧ (∀ g, 0 ≤ g → g < 4 → -1 ≤ S 9 g ∧ S 9 g < S 0 31) ∧ (∀ g, 0 ≤ g → g < S 0 19 → 0 ≤ S 7 g ∧ S 7 g ≤ 99 ∧ 0 ≤ S 8 g ∧ S 8 g ≤ 99)
/-- the state in which the land told is asked -/
def tl (S : St) : St := asS (th S)
theorem asS_c (S : St) {c : Nat} (h : c ≠ 0 ∧ c ≠ 20 ∧ c ≠ 19 ∧ c ≠ 18 ∧ c ≠ 17) : asS S c = S c := by
  unfold asS
  rw [stC_o _ _ h.2.2.2.2, stC_o _ _ h.2.2.2.1, stC_o _ _ h.2.2.1, stC_o _ _ h.2.1, up_o _ _ _ h.1]
theorem asS_0 (S : St) {j : Int} (h : j ≠ 38) : asS S 0 j = S 0 j := by
  unfold asS
  rw [stC_o _ _ (by decide), stC_o _ _ (by decide), stC_o _ _ (by decide), stC_o _ _ (by decide), up_n _ _ _ h]
theorem asS_ap (S : St) : asS S 17 = cpI (S 10) (S 17) (S 0 20) := by unfold asS; rw [stC_s]
theorem asS_ae (S : St) : asS S 18 = cpI (S 11) (S 18) (S 0 20) := by unfold asS; rw [stC_o _ _ (by decide), stC_s]
theorem asS_al (S : St) : asS S 19 = cpI (S 14) (S 19) 20 := by unfold asS; rw [stC_o _ _ (by decide), stC_o _ _ (by decide), stC_s]
theorem asS_pl (S : St) : asS S 20 = cpI (fun g => if g < S 0 19 then S 9 g else -1) (S 20) 4 := by unfold asS; rw [stC_o _ _ (by decide), stC_o _ _ (by decide), stC_o _ _ (by decide), stC_s]
theorem asS_gone (S : St) : asS S 0 38 = 0 := by unfold asS; rw [stC_o _ _ (by decide), stC_o _ _ (by decide), stC_o _ _ (by decide), stC_o _ _ (by decide), up_s]
theorem asS_fr (S : St) : Fr [17, 18, 19, 20, 21, 22, 23, 24, 25, 26, 27, 28, 29, 31] [(0, 0), (0, 38)] S (asS S) := by
  intro c j hx hy
  by_cases hc : c = 0
  · subst hc
    exact asS_0 S (fun z => hy (by rw [z]; decide))
  · rw [asS_c S ⟨hc, fun z => hx (by rw [z]; decide), fun z => hx (by rw [z]; decide), fun z => hx (by rw [z]; decide), fun z => hx (by rw [z]; decide)⟩]
theorem asS_mAs {S : St} (h : ldM S) (hp : plM S) : mAs (asS S) := by
  obtain ⟨h1, h2, h3, h4, h5, h6, h7⟩ := h
  have e15 : asS S 15 = S 15 := asS_c S (by decide)
  have e16 : asS S 16 = S 16 := asS_c S (by decide)
  have e12 : asS S 12 = S 12 := asS_c S (by decide)
  have e13 : asS S 13 = S 13 := asS_c S (by decide)
  refine ⟨⟨⟨?_, ?_, ?_⟩, ?_, ?_, ?_⟩, ?_, ?_⟩
  · rw [asS_0 S (by decide)]; omega
  · intro i i0 i1
    rw [asS_0 S (by decide)] at i1
    rw [asS_ap, cpI_in _ _ i0 i1, e12, e13]
    have := h4 i i0 i1
    omega
  · intro j j0 j1
    rw [asS_al, cpI_in _ _ j0 j1]
    exact h5 j j0 j1
  · rw [asS_0 S (by decide)]; omega
  · intro g g0 g1
    rw [asS_pl, cpI_in _ _ g0 g1, asS_0 S (by decide)]
    have := h6 g g0 g1
    have := hp.1
    split <;> omega
  · unfold plM
    rw [asS_0 S (by decide), e15, e16]
    exact hp
  · rw [asS_0 S (by decide), asS_0 S (by decide), asS_0 S (by decide)]
    omega
  · intro i i0 i1
    rw [asS_0 S (by decide)] at i1
    rw [asS_ae, cpI_in _ _ i0 i1]
    have := h4 i i0 i1
    omega
theorem ldM_th {S : St} (h : ldM S) : ldM (th S) := by
  unfold ldM at *
  rw [th_0 S (by decide), th_0 S (by decide), th_0 S (by decide), th_0 S (by decide), th_0 S (by decide), th_c S (by decide), th_c S (by decide), th_c S (by decide), th_c S (by decide), th_c S (by decide), th_c S (by decide), th_c S (by decide), th_c S (by decide)]
  exact h
theorem plM_th {S : St} (h : plM S) : plM (th S) := by
  unfold plM at *
  rw [th_0 S (by decide), th_c S (by decide), th_c S (by decide)]
  exact h
theorem tl_mAs {S : St} (h : ldM S) (hp : plM S) : mAs (tl S) := asS_mAs (ldM_th h) (plM_th hp)
theorem tl_0 (S : St) {j : Int} (h0 : j ≠ 0) (h : j ≠ 38) : tl S 0 j = S 0 j := by unfold tl; rw [asS_0 _ h, th_0 _ h0]
theorem th_fr (S : St) : Fr [17, 18, 19, 20, 21, 22, 23, 24, 25, 26, 27, 28, 29, 31] [(0, 0), (0, 38)] S (th S) := (Fr.rf _ _ S).up _ _ _ rfl
theorem tl_fr (S : St) : Fr [17, 18, 19, 20, 21, 22, 23, 24, 25, 26, 27, 28, 29, 31] [(0, 0), (0, 38)] S (tl S) := (th_fr S).tr (asS_fr (th S))
/-- in how many ways it opens -/
def cntM (T : St) : Int := (wyM T).countP (opM T)
def lenM (T : St) : Int := (wyM T).length
theorem cntM_sm {S S' : St} (h : Sm S S') : cntM S' = cntM S := by unfold cntM; rw [wyM_sm h, opM_sm h]
theorem lenM_sm {S S' : St} (h : Sm S S') : lenM S' = lenM S := by unfold lenM; rw [wyM_sm h]
theorem cntM_b {T : St} (h : mAs T) : 0 ≤ cntM T ∧ cntM T ≤ lenM T ∧ 1 ≤ lenM T ∧ lenM T ≤ 16807 := by
  have h1 := wyM_len h
  have h2 := List.countP_le_length (p := opM T) (l := wyM T)
  unfold cntM lenM
  omega
theorem t_M_divisor (S : St) (a b : Nat) (Q : Option AV → St → Prop) (ha : a ≤ 2147483647) (hb : b ≤ 2147483647) (hQ : Q (some (.inl (Nat.gcd a b))) S) : Smm H_M_divisor 0 [some (.inl (a : Int)), some (.inl (b : Int)), none, none, none] [] S Q := by
  have loop : ∀ (q : Nat × Nat), (q.1 ≤ 2147483647 ∧ q.2 ≤ 2147483647 ∧ Nat.gcd q.1 q.2 = Nat.gcd a b) → Smm H_M_divisor 4 [some (.inl (a : Int)), some (.inl (b : Int)), some (.inl (q.1 : Int)), some (.inl (q.2 : Int)), none] [] S Q := by
    refine lp_me (P := fun q : Nat × Nat => Smm H_M_divisor 4 [some (.inl (a : Int)), some (.inl (b : Int)), some (.inl (q.1 : Int)), some (.inl (q.2 : Int)), none] [] S Q) _ (fun q => q.2) ?_
    rintro ⟨x, y⟩ ⟨hx, hy, hg⟩ ih
    dsimp only at hx hy hg ih ⊢
    refine sound ok_M_divisor [4] 40 ?_
    refine ⟨fun h2 => ?_, fun h2 => ?_⟩
    · have : y = 0 := by omega
      subst this
      rw [Nat.gcd_zero_right] at hg
      rw [hg]
      exact hQ
    · have hy0 : 0 < y := by omega
      have hlt := Nat.mod_lt x hy0
      refine ⟨h2, ?_⟩
      refine Smm.sub (ih (y, x % y) ⟨hy, by dsimp only; omega, ?_⟩ hlt) ⟨Or.inr rfl, Or.inr rfl, Or.inr rfl, Or.inr (sI ?_), Or.inl rfl, trivial⟩
      · dsimp only
        rw [← hg, Nat.gcd_comm, Nat.gcd_comm x y, ← Nat.gcd_rec]
      · rw [irem_pos (by omega) (by omega) (by omega) (by omega)]
        dsimp only
        omega
  refine sound ok_M_divisor [4] 20 ?_
  exact loop (a, b) ⟨ha, hb, rfl⟩
def aM_ways (S : St) (what : Int) : Int := if S 0 18 = 0 ∨ ¬ (0 ≤ what ∧ what ≤ 1) then -1 else if what = 1 then lenM (tl S) else cntM (tl S)
theorem t_M_ways (S : St) (what : Int) (Q : Option AV → St → Prop) (hL : ¬ S 0 18 = 0 → ldM S) (hp : plM S) (hQ : ∀ S', Fr [17, 18, 19, 20, 21, 22, 23, 24, 25, 26, 27, 28, 29, 31] [(0, 0), (0, 38)] S S' → Q (some (.inl (aM_ways S what))) S') : Smm H_M_ways 0 [some (.inr (.inr 0)), some (.inl what)] [] S Q := by
  have e18 : th S 0 18 = S 0 18 := th_0 S (by decide)
  have no : (S 0 18 = 0 ∨ ¬ (0 ≤ what ∧ what ≤ 1)) → Q (some (.inl (-1))) (th S) := fun hz => by
    have := hQ (th S) (th_fr S)
    unfold aM_ways at this
    rwa [if_pos hz] at this
  refine sound ok_M_ways [] 60 ?_
  refine ⟨fun h1 => no (Or.inl (e18 ▸ h1)), fun h1 => ?_⟩
  replace h1 : ¬ S 0 18 = 0 := fun z => h1 (e18.trans z)
  refine t_M_isPart _ _ _ _ (fun h2 => ?_) (fun h2 => ?_)
  · refine ⟨fun _ => ?_, fun z => absurd z (by decide)⟩
    have hl := hL h1
    have hA := tl_mAs hl hp
    refine t_M_asTold (th S) _ (by rw [th_0 S (by decide)]; have := hl.2.1; omega) (by rw [th_0 S (by decide)]; have := hl.1; omega) ?_
    refine ⟨fun h3 => ?_, fun h3 => ?_⟩
    · refine t_M_openings (tl S) _ hA (fun S' hF => ?_)
      have := hQ S' ((tl_fr S).tr (hF.mo rfl rfl))
      unfold aM_ways at this
      rw [if_neg (by omega), if_neg h3] at this
      exact this
    · refine t_M_allWays (tl S) _ hA ?_
      have := hQ (tl S) (tl_fr S)
      unfold aM_ways at this
      rw [if_neg (by omega), if_pos h3] at this
      exact this
  · exact ⟨fun z => absurd rfl z, fun _ => no (Or.inr h2)⟩
def aM_odds (S : St) (part : Int) : Int := if S 0 18 = 0 ∨ ¬ (0 ≤ part ∧ part ≤ 1) then -1 else if part = 0 then cntM (tl S) / Nat.gcd (lenM (tl S)).toNat (cntM (tl S)).toNat else lenM (tl S) / Nat.gcd (lenM (tl S)).toNat (cntM (tl S)).toNat
theorem gcd_b {a b : Nat} (ha : 1 ≤ a) (h : a ≤ 16807) : 1 ≤ Nat.gcd a b ∧ Nat.gcd a b ≤ 16807 := ⟨Nat.gcd_pos_of_pos_left b ha, Nat.le_trans (Nat.gcd_le_left b ha) h⟩
theorem t_M_odds (S : St) (part : Int) (Q : Option AV → St → Prop) (hL : ¬ S 0 18 = 0 → ldM S) (hp : plM S) (hQ : ∀ S', Fr [17, 18, 19, 20, 21, 22, 23, 24, 25, 26, 27, 28, 29, 31] [(0, 0), (0, 38)] S S' → Q (some (.inl (aM_odds S part))) S') : Smm H_M_odds 0 [some (.inr (.inr 0)), some (.inl part), none, none, none] [] S Q := by
  have e18 : th S 0 18 = S 0 18 := th_0 S (by decide)
  have no : (S 0 18 = 0 ∨ ¬ (0 ≤ part ∧ part ≤ 1)) → Q (some (.inl (-1))) (th S) := fun hz => by
    have := hQ (th S) (th_fr S)
    unfold aM_odds at this
    rwa [if_pos hz] at this
  refine sound ok_M_odds [] 60 ?_
  refine ⟨fun h1 => no (Or.inl (e18 ▸ h1)), fun h1 => ?_⟩
  replace h1 : ¬ S 0 18 = 0 := fun z => h1 (e18.trans z)
  refine t_M_isPart _ _ _ _ (fun h2 => ?_) (fun h2 => ?_)
  · refine ⟨fun _ => ?_, fun z => absurd z (by decide)⟩
    have hl := hL h1
    have hA := tl_mAs hl hp
    have hb := cntM_b hA
    refine t_M_asTold (th S) _ (by rw [th_0 S (by decide)]; have := hl.2.1; omega) (by rw [th_0 S (by decide)]; have := hl.1; omega) ?_
    refine t_M_allWays (tl S) _ hA ?_
    refine t_M_openings (tl S) _ hA (fun S' hF => ?_)
    have hg := gcd_b (a := (wyM (tl S)).length) (b := (wyM (tl S)).countP (opM (tl S))) (by unfold lenM at hb; omega) (by unfold lenM at hb; omega)
    refine t_M_divisor S' (wyM (tl S)).length ((wyM (tl S)).countP (opM (tl S))) _ (by unfold lenM at hb; omega) (by unfold lenM cntM at hb; omega) ?_
    have hq := hQ S' ((tl_fr S).tr (hF.mo rfl rfl))
    unfold aM_odds at hq
    rw [if_neg (by omega)] at hq
    have eL : (lenM (tl S)).toNat = (wyM (tl S)).length := by unfold lenM; omega
    have eC : (cntM (tl S)).toNat = (wyM (tl S)).countP (opM (tl S)) := by unfold cntM; omega
    rw [eL, eC] at hq
    refine ⟨fun h3 => ?_, fun h3 => ?_⟩
    · refine ⟨by omega, ?_⟩
      rw [if_neg h3] at hq
      rw [idiv_pos (by unfold lenM at hb; omega) (by unfold lenM at hb; omega) (by omega) (by omega)]
      exact hq
    · refine ⟨by omega, ?_⟩
      rw [if_pos h3] at hq
      rw [idiv_pos (by unfold cntM at hb; omega) (by unfold lenM cntM at hb; omega) (by omega) (by omega)]
      exact hq
  · exact ⟨fun z => absurd rfl z, fun _ => no (Or.inr h2)⟩
def aM_shift (S : St) (sign by_ : Int) : Int := if ¬ (¬ S 0 18 = 0 ∧ 0 ≤ sign ∧ sign < S 0 20) ∨ by_ < -9 ∨ 9 < by_ then -1 else cntM (up (tl S) 17 sign (S 10 sign + by_))
theorem mAs_ap {T : St} (h : mAs T) {i v : Int} (hv : -9 ≤ v ∧ v ≤ 68) : mAs (up T 17 i v) := by
  obtain ⟨⟨⟨h1, h2, h3⟩, h4⟩, h5⟩ := h
  refine ⟨⟨⟨?_, ?_, ?_⟩, ?_⟩, ?_⟩
  · rw [up_o _ _ _ (by decide)]; exact h1
  · intro j j0 j1
    rw [up_o _ _ _ (by decide)] at j1
    rw [up_o _ _ _ (by decide : (12 : Nat) ≠ 17), up_o _ _ _ (by decide : (13 : Nat) ≠ 17)]
    have := h2 j j0 j1
    by_cases hj : j = i
    · rw [hj, up_s]
      rw [hj] at this
      omega
    · rw [up_n _ _ _ hj]
      exact this
  · rw [up_o _ _ _ (by decide)]; exact h3
  · unfold plM
    rw [up_o _ _ _ (by decide), up_o _ _ _ (by decide), up_o _ _ _ (by decide), up_o _ _ _ (by decide)]
    exact h4
  · rw [up_o _ _ _ (by decide), up_o _ _ _ (by decide)]; exact h5
theorem t_M_shift (S : St) (sign by_ : Int) (Q : Option AV → St → Prop) (hL : ¬ S 0 18 = 0 → ldM S) (hp : plM S) (hQ : ∀ S', Fr [17, 18, 19, 20, 21, 22, 23, 24, 25, 26, 27, 28, 29, 31] [(0, 0), (0, 38)] S S' → Q (some (.inl (aM_shift S sign by_))) S') : Smm H_M_shift 0 [some (.inr (.inr 0)), some (.inl sign), some (.inl by_)] [] S Q := by
  have e18 : th S 0 18 = S 0 18 := th_0 S (by decide)
  have e20 : th S 0 20 = S 0 20 := th_0 S (by decide)
  have no : (¬ (¬ S 0 18 = 0 ∧ 0 ≤ sign ∧ sign < S 0 20) ∨ by_ < -9 ∨ 9 < by_) → Q (some (.inl (-1))) (th S) := fun hz => by
    have := hQ (th S) (th_fr S)
    unfold aM_shift at this
    rwa [if_pos hz] at this
  refine sound ok_M_shift [] 60 ?_
  refine t_M_isSign (th S) sign _ (fun h1 => ?_) (fun h1 => ?_)
  · rw [e18, e20] at h1
    refine ⟨fun z => absurd z (by decide), fun _ => ?_⟩
    refine ⟨fun h2 => no (by omega), fun h2 => ?_⟩
    refine ⟨fun h3 => ?_, fun h3 => no (by omega)⟩
    have hl := hL h1.1
    have hA := tl_mAs hl hp
    have hpt := hl.2.2.2.1 sign h1.2.1 h1.2.2
    have hn5 := hl.2.1
    refine t_M_asTold (th S) _ (by rw [th_0 S (by decide)]; have := hl.2.1; omega) (by rw [th_0 S (by decide)]; have := hl.1; omega) ?_
    have ep : asS (th S) 17 sign = S 10 sign := by rw [asS_ap, th_c S (by decide), cpI_in _ _ h1.2.1 (by rw [e20]; exact h1.2.2)]
    refine ⟨by omega, ?_⟩
    refine ⟨by omega, ?_⟩
    have ev : i32 (asS (th S) 17 sign + by_) = S 10 sign + by_ := by rw [ep]; unfold i32; omega
    rw [ev]
    refine t_M_openings _ _ (mAs_ap hA (by omega)) (fun S' hF => ?_)
    have := hQ S' (((tl_fr S).up 17 sign (S 10 sign + by_) rfl).tr (hF.mo rfl rfl))
    unfold aM_shift at this
    rw [if_neg (by omega)] at this
    exact this
  · rw [e18, e20] at h1
    exact ⟨fun _ => no (Or.inl h1), fun z => absurd rfl z⟩
end
section
/-! the reference: better, idle, deaf, helper -/
/-- two states that differ in what a way leaves behind are tried alike, also when both are changed alike -/
theorem Sm.fr {S S' : St} (h : Fr [21, 22, 23, 24, 25] [] S S') : Sm S S' := Sm.of h rfl
theorem Sm.up {S S' : St} (h : Fr [21, 22, 23, 24, 25] [] S S') (c : Nat) (j v : Int) : Sm (up S c j v) (up S' c j v) := by
  refine Sm.fr (fun c' j' hx hy => ?_)
  rw [upr, upr]
  split
  · rfl
  · exact h c' j' hx hy
theorem mAs_pl {T : St} (h : mAs T) {g v : Int} (hv : -1 ≤ v ∧ v < T 0 31) : mAs (up T 20 g v) := by
  obtain ⟨⟨h1, h2, h3, h4⟩, h5⟩ := h
  refine ⟨⟨?_, ?_, ?_, ?_⟩, ?_⟩
  · rw [up_o _ _ _ (by decide), up_o _ _ _ (by decide), up_o _ _ _ (by decide), up_o _ _ _ (by decide), up_o _ _ _ (by decide)]; exact h1
  · rw [up_o _ _ _ (by decide)]; exact h2
  · intro j j0 j1
    rw [up_o _ _ _ (by decide : (0 : Nat) ≠ 20)]
    by_cases hj : j = g
    · rw [hj, up_s]; exact hv
    · rw [up_n _ _ _ hj]; exact h3 j j0 j1
  · unfold plM
    rw [up_o _ _ _ (by decide), up_o _ _ _ (by decide), up_o _ _ _ (by decide)]
    exact h4
  · rw [up_o _ _ _ (by decide), up_o _ _ _ (by decide)]; exact h5
theorem mAs_gone {T : St} (h : mAs T) (v : Int) : mAs (up T 0 38 v) := by
  obtain ⟨⟨h1, h2, h3, h4⟩, h5⟩ := h
  unfold plM at h4
  have e19 : up T 0 38 v 0 19 = T 0 19 := up_n _ _ _ (by decide)
  have e20 : up T 0 38 v 0 20 = T 0 20 := up_n _ _ _ (by decide)
  have e21 : up T 0 38 v 0 21 = T 0 21 := up_n _ _ _ (by decide)
  have e22 : up T 0 38 v 0 22 = T 0 22 := up_n _ _ _ (by decide)
  have e31 : up T 0 38 v 0 31 = T 0 31 := up_n _ _ _ (by decide)
  refine ⟨⟨?_, ?_, ?_, ?_⟩, ?_⟩
  · rw [e20, up_o _ _ _ (by decide), up_o _ _ _ (by decide), up_o _ _ _ (by decide), up_o _ _ _ (by decide)]; exact h1
  · rw [e19]; exact h2
  · rw [e31, up_o _ _ _ (by decide)]; exact h3
  · unfold plM
    rw [e31, up_o _ _ _ (by decide), up_o _ _ _ (by decide)]
    exact h4
  · rw [e20, e21, e22, up_o _ _ _ (by decide)]; exact h5
theorem mAs_al {T : St} (h : mAs T) {j v : Int} (hv : -1 ≤ v ∧ v ≤ 9) : mAs (up T 19 j v) := by
  obtain ⟨⟨⟨h1, h2, h3⟩, h4⟩, h5⟩ := h
  unfold plM at h4
  refine ⟨⟨⟨?_, ?_, ?_⟩, ?_⟩, ?_⟩
  · rw [up_o _ _ _ (by decide)]; exact h1
  · rw [up_o _ _ _ (by decide), up_o _ _ _ (by decide), up_o _ _ _ (by decide), up_o _ _ _ (by decide)]; exact h2
  · intro i i0 i1
    by_cases hj : i = j
    · rw [hj, up_s]; exact hv
    · rw [up_n _ _ _ hj]; exact h3 i i0 i1
  · unfold plM
    rw [up_o _ _ _ (by decide), up_o _ _ _ (by decide), up_o _ _ _ (by decide), up_o _ _ _ (by decide)]
    exact h4
  · rw [up_o _ _ _ (by decide), up_o _ _ _ (by decide)]; exact h5
theorem mAs_ae {T : St} (h : mAs T) {j v : Int} (hv : 0 ≤ v ∧ v ≤ 3) : mAs (up T 18 j v) := by
  obtain ⟨h1, h2, h3⟩ := h
  unfold mOk plM at h1
  refine ⟨?_, ?_, ?_⟩
  · unfold mOk plM
    rw [up_o _ _ _ (by decide), up_o _ _ _ (by decide), up_o _ _ _ (by decide), up_o _ _ _ (by decide), up_o _ _ _ (by decide), up_o _ _ _ (by decide), up_o _ _ _ (by decide), up_o _ _ _ (by decide)]
    exact h1
  · rw [up_o _ _ _ (by decide)]; exact h2
  · intro i i0 i1
    rw [up_o _ _ _ (by decide)] at i1
    by_cases hj : i = j
    · rw [hj, up_s]; exact hv
    · rw [up_n _ _ _ hj]; exact h3 i i0 i1
theorem up_up (S : St) (c : Nat) (j v w : Int) : up (up S c j v) c j w = up S c j w := by
  rw [up_st, up_st, up_st, stC_s, stC_stC, uf_uf]
def aM_better (S : St) (g one other : Int) : Int := if ¬ (¬ S 0 18 = 0 ∧ 0 ≤ g ∧ g < S 0 19) ∨ one < 0 ∨ S 0 31 ≤ one ∨ other < 0 ∨ S 0 31 ≤ other then -1000000 else cntM (up (tl S) 20 g one) - cntM (up (tl S) 20 g other)
theorem t_M_better (S : St) (g one other : Int) (Q : Option AV → St → Prop) (hL : ¬ S 0 18 = 0 → ldM S) (hp : plM S) (hQ : ∀ S', Fr [17, 18, 19, 20, 21, 22, 23, 24, 25, 26, 27, 28, 29, 31] [(0, 0), (0, 38)] S S' → Q (some (.inl (aM_better S g one other))) S') : Smm H_M_better 0 [some (.inr (.inr 0)), some (.inl g), some (.inl one), some (.inl other), none] [] S Q := by
  have e18 : th S 0 18 = S 0 18 := th_0 S (by decide)
  have e19 : th S 0 19 = S 0 19 := th_0 S (by decide)
  have e31 : th S 0 31 = S 0 31 := th_0 S (by decide)
  have no : (¬ (¬ S 0 18 = 0 ∧ 0 ≤ g ∧ g < S 0 19) ∨ one < 0 ∨ S 0 31 ≤ one ∨ other < 0 ∨ S 0 31 ≤ other) → Q (some (.inl (-1000000))) (th S) := fun hz => by
    have := hQ (th S) (th_fr S)
    unfold aM_better at this
    rwa [if_pos hz] at this
  refine sound ok_M_better [] 80 ?_
  refine t_M_isGuard (th S) g _ (fun h1 => ?_) (fun h1 => ?_)
  · rw [e18, e19] at h1
    refine ⟨fun z => absurd z (by decide), fun _ => ?_⟩
    refine ⟨fun h2 => no (by omega), fun h2 => ?_⟩
    refine ⟨fun h3 => no (by rw [← e31]; exact Or.inr (Or.inr (Or.inl h3))), fun h3 => ?_⟩
    refine ⟨fun h4 => no (by omega), fun h4 => ?_⟩
    refine ⟨fun h5 => ?_, fun h5 => no (by rw [← e31]; exact Or.inr (Or.inr (Or.inr (Or.inr h5))))⟩
    replace h3 : one < S 0 31 := by rw [← e31]; exact h3
    replace h5 : other < S 0 31 := by rw [← e31]; exact h5
    have hl := hL h1.1
    have hA := tl_mAs hl hp
    have hk4 := hl.1
    have p31 : tl S 0 31 = S 0 31 := tl_0 S (by decide) (by decide)
    refine t_M_asTold (th S) _ (by rw [th_0 S (by decide)]; have := hl.2.1; omega) (by rw [e19]; omega) ?_
    refine ⟨by omega, ?_⟩
    refine t_M_openings (up (tl S) 20 g one) _ (mAs_pl hA (by rw [p31]; omega)) (fun S1 hF1 => ?_)
    refine ⟨by omega, ?_⟩
    have hSm : Sm (up (tl S) 20 g other) (up S1 20 g other) := by
      have := Sm.up hF1 20 g other
      rwa [up_up] at this
    have hA2 := mAs_pl (g := g) (v := other) hA (by rw [p31]; omega)
    refine t_M_openings (up S1 20 g other) _ (mAs_sm hSm hA2) (fun S2 hF2 => ?_)
    have hb1 := cntM_b (mAs_pl (g := g) (v := one) hA (by rw [p31]; omega))
    have hb2 := cntM_b hA2
    have := hQ S2 ((((tl_fr S).up 20 g one rfl).tr (hF1.mo rfl rfl)).up 20 g other rfl |>.tr (hF2.mo rfl rfl))
    unfold aM_better at this
    rw [if_neg (by omega)] at this
    have ec : i32 (cntM (up (tl S) 20 g one) - cntM (up S1 20 g other)) = cntM (up (tl S) 20 g one) - cntM (up (tl S) 20 g other) := by rw [cntM_sm hSm]; unfold i32; omega
    rw [← ec] at this
    exact this
  · rw [e18, e19] at h1
    exact ⟨fun _ => no (Or.inl h1), fun z => absurd rfl z⟩
/-- bit by bit: which of the first k have it -/
def bitF (p : Nat → Bool) : Nat → Int
  | 0 => 0
  | k + 1 => if p k then ior (bitF p k) (ishl 1 k) else bitF p k
def aM_idle (S : St) : Int := if S 0 18 = 0 then -1 else bitF (fun s => decide (cntM (tl S) ≤ cntM (up (tl S) 0 38 (ishl 1 s)))) (S 0 20).toNat
theorem t_M_idle (S : St) (Q : Option AV → St → Prop) (hL : ¬ S 0 18 = 0 → ldM S) (hp : plM S) (hQ : ∀ S', Fr [17, 18, 19, 20, 21, 22, 23, 24, 25, 26, 27, 28, 29, 31] [(0, 0), (0, 38)] S S' → Q (some (.inl (aM_idle S))) S') : Smm H_M_idle 0 [some (.inr (.inr 0)), none, none, none] [] S Q := by
  have e18 : th S 0 18 = S 0 18 := th_0 S (by decide)
  refine sound ok_M_idle [27] 60 ?_
  refine ⟨fun h1 => ?_, fun h1 => ?_⟩
  · replace h1 : ¬ S 0 18 = 0 := fun z => h1 (e18.trans z)
    have hl := hL h1
    have hA := tl_mAs hl hp
    have hn5 := hl.2.1
    have p20 : tl S 0 20 = S 0 20 := tl_0 S (by decide) (by decide)
    have loop : ∀ (i : Int) (T : St), ((0 ≤ i ∧ i ≤ S 0 20) ∧ ∃ v, Fr [21, 22, 23, 24, 25] [] (up (tl S) 0 38 v) T) → Smm H_M_idle 27 [some (.inr (.inr 0)), some (.inl (cntM (tl S))), some (.inl (bitF (fun s => decide (cntM (tl S) ≤ cntM (up (tl S) 0 38 (ishl 1 s)))) i.toNat)), some (.inl i)] [] T Q := by
      refine lp_up (P := fun i T => Smm H_M_idle 27 [some (.inr (.inr 0)), some (.inl (cntM (tl S))), some (.inl (bitF (fun s => decide (cntM (tl S) ≤ cntM (up (tl S) 0 38 (ishl 1 s)))) i.toNat)), some (.inl i)] [] T Q) _ (S 0 20) ?_ ?_
      · rintro i T hi ⟨hi2, v, hF⟩
        have q20 : T 0 20 = S 0 20 := by rw [hF.c 0 rfl, up_n _ _ _ (by decide), p20]
        refine sound ok_M_idle [27] 20 ?_
        refine ⟨fun _ => ?_, fun h3 => absurd h3 (by omega)⟩
        have := hQ T (((tl_fr S).up 0 38 v rfl).tr (hF.mo rfl rfl))
        unfold aM_idle at this
        rw [if_neg h1] at this
        rw [show i = S 0 20 by omega]
        exact this
      · rintro i T hi ⟨hi2, v, hF⟩ ih
        have q20 : T 0 20 = S 0 20 := by rw [hF.c 0 rfl, up_n _ _ _ (by decide), p20]
        obtain ⟨k, rfl⟩ : ∃ k : Nat, i = k := ⟨i.toNat, by omega⟩
        rw [show ((k : Int)).toNat = k by omega]
        rw [show ((k : Int) + 1).toNat = k + 1 by omega, bitF] at ih
        have hSm : Sm (up (tl S) 0 38 (ishl 1 k)) (up T 0 38 (ishl 1 k)) := by
          have := Sm.up hF 0 38 (ishl 1 k)
          rwa [up_up] at this
        have hA2 := mAs_gone hA (ishl 1 k)
        have hFr : ∀ T2, Fr [21, 22, 23, 24, 25] [] (up T 0 38 (ishl 1 k)) T2 → Fr [21, 22, 23, 24, 25] [] (up (tl S) 0 38 (ishl 1 k)) T2 := fun T2 h2 => by
          refine Fr.tr (S1 := up T 0 38 (ishl 1 k)) (fun c' j' hx hy => ?_) h2
          rw [upr, upr]
          split
          · rfl
          · rename_i hz
            rw [hF c' j' hx hy, upr, if_neg hz]
        refine sound ok_M_idle [27] 60 ?_
        refine ⟨fun h3 => absurd h3 (by omega), fun _ => ?_⟩
        refine t_M_openings (up T 0 38 (ishl 1 k)) _ (mAs_sm hSm hA2) (fun T2 hF2 => ?_)
        have ec : ((List.countP (opM (up T 0 38 (ishl 1 k))) (wyM (up T 0 38 (ishl 1 k))) : Nat) : Int) = cntM (up (tl S) 0 38 (ishl 1 k)) := cntM_sm hSm
        refine ⟨fun h3 => ?_, fun h3 => ?_⟩
        · rw [ec] at h3
          refine Smm.sub (ih T2 ⟨by omega, _, hFr T2 hF2⟩) ⟨Or.inr rfl, Or.inr rfl, Or.inr (sI ?_), Or.inr (sI (by unfold i32; omega)), trivial⟩
          rw [if_neg (by simpa using h3)]
        · rw [ec] at h3
          refine Smm.sub (ih T2 ⟨by omega, _, hFr T2 hF2⟩) ⟨Or.inr rfl, Or.inr rfl, Or.inr (sI ?_), Or.inr (sI (by unfold i32; omega)), trivial⟩
          rw [if_pos (by simpa using h3)]
    refine t_M_asTold (th S) _ (by rw [th_0 S (by decide)]; omega) (by rw [th_0 S (by decide)]; have := hl.1; omega) ?_
    refine t_M_openings (tl S) _ hA (fun T hF => ?_)
    refine loop 0 T ⟨by omega, tl S 0 38, ?_⟩
    have e : up (tl S) 0 38 (tl S 0 38) = tl S := by
      rw [up_st]
      have : uf (tl S 0) 38 (tl S 0 38) = tl S 0 := by
        funext j
        by_cases hj : j = 38
        · rw [hj, uf_s]
        · rw [uf_n _ _ hj]
      rw [this, stC_id]
    rw [e]
    exact hF
  · have := hQ (th S) (th_fr S)
    unfold aM_idle at this
    rw [if_pos (e18 ▸ h1)] at this
    exact this
end
section
/-! the reference: exact, lossy, deaf, helper -/
theorem jcmp_le {a b : Int} : jcmp a b ≤ 0 ↔ a ≤ b := by
  unfold jcmp
  split
  · omega
  · split <;> omega
theorem jcmp_gt {a b : Int} : 0 < jcmp a b ↔ b < a := by
  unfold jcmp
  split
  · omega
  · split <;> omega
theorem ishl1 {n : Int} (h0 : 0 ≤ n) (h : n ≤ 16) : ishl 1 n = 2 ^ n.toNat := by
  have : n = 0 ∨ n = 1 ∨ n = 2 ∨ n = 3 ∨ n = 4 ∨ n = 5 ∨ n = 6 ∨ n = 7 ∨ n = 8 ∨ n = 9 ∨ n = 10 ∨ n = 11 ∨ n = 12 ∨ n = 13 ∨ n = 14 ∨ n = 15 ∨ n = 16 := by omega
  rcases this with rfl | rfl | rfl | rfl | rfl | rfl | rfl | rfl | rfl | rfl | rfl | rfl | rfl | rfl | rfl | rfl | rfl <;> decide
theorem Sm.fr2 {S S' : St} (h : Fr [21, 22, 23, 24, 25, 26, 27, 28, 29, 31] [] S S') : Sm S S' := Sm.of h rfl
theorem fr_up2 {X : List Nat} {S S' : St} (h : Fr X [] S S') (c : Nat) (j v : Int) : Fr X [] (up S c j v) (up S' c j v) := by
  intro c' j' hx hy
  rw [upr, upr]
  split
  · rfl
  · exact h c' j' hx hy
theorem fr_st2 {X : List Nat} {S S' : St} (h : Fr X [] S S') (c : Nat) (f : Int → Int) : Fr X [] (stC S c f) (stC S' c f) := by
  intro c' j' hx hy
  by_cases hc : c' = c
  · rw [hc, stC_s, stC_s]
  · rw [stC_o _ _ hc, stC_o _ _ hc]
    exact h c' j' hx hy
/-- a state from which asTold leads to the land told again -/
def Ag (S T : St) : Prop := Fr [17, 18, 19, 20, 21, 22, 23, 24, 25, 26, 27, 28, 29, 31] [(0, 0), (0, 38)] S T ∧ T 0 0 = 0 ∧ (∀ j, ¬ (0 ≤ j ∧ j < S 0 20) → T 17 j = S 17 j ∧ T 18 j = S 18 j) ∧ (∀ j, ¬ (0 ≤ j ∧ j < 20) → T 19 j = S 19 j) ∧ ∀ j, ¬ (0 ≤ j ∧ j < 4) → T 20 j = S 20 j
theorem ag_th (S : St) : Ag S (th S) := ⟨th_fr S, up_s _ _ _ _, fun j _ => ⟨by rw [th_c S (by decide)], by rw [th_c S (by decide)]⟩, fun j _ => by rw [th_c S (by decide)], fun j _ => by rw [th_c S (by decide)]⟩
theorem ag_as {S T : St} (h : Ag S T) : Fr [21, 22, 23, 24, 25, 26, 27, 28, 29, 31] [] (tl S) (asS T) := by
  obtain ⟨hF, h0, h1, h2, h3⟩ := h
  have f20 : T 0 20 = S 0 20 := hF.s 0 20 rfl
  have f19 : T 0 19 = S 0 19 := hF.s 0 19 rfl
  intro c j hx hy
  by_cases c0 : c = 0
  · subst c0
    by_cases j38 : j = 38
    · rw [j38, asS_gone]; unfold tl; rw [asS_gone]
    · rw [asS_0 _ j38]; unfold tl; rw [asS_0 _ j38]
      by_cases j0 : j = 0
      · rw [j0, h0]; exact (up_s _ _ _ _).symm
      · rw [th_0 S j0]
        exact hF 0 j (by decide) (by simp [j0, j38])
  · by_cases c17 : c = 17
    · subst c17
      unfold tl
      rw [asS_ap, asS_ap, th_0 S (by decide), f20, th_c S (by decide), th_c S (by decide), hF.c 10 rfl]
      unfold cpI
      split
      · rfl
      · rename_i hz; exact (h1 j hz).1
    · by_cases c18 : c = 18
      · subst c18
        unfold tl
        rw [asS_ae, asS_ae, th_0 S (by decide), f20, th_c S (by decide), th_c S (by decide), hF.c 11 rfl]
        unfold cpI
        split
        · rfl
        · rename_i hz; exact (h1 j hz).2
      · by_cases c19 : c = 19
        · subst c19
          unfold tl
          rw [asS_al, asS_al, th_c S (by decide), th_c S (by decide), hF.c 14 rfl]
          unfold cpI
          split
          · rfl
          · rename_i hz; exact h2 j hz
        · by_cases c20 : c = 20
          · subst c20
            unfold tl
            rw [asS_pl, asS_pl, th_0 S (by decide), f19, th_c S (by decide), th_c S (by decide), hF.c 9 rfl]
            unfold cpI
            split
            · rfl
            · rename_i hz; exact h3 j hz
          · rw [asS_c T ⟨c0, c20, c19, c18, c17⟩]
            unfold tl
            rw [asS_c _ ⟨c0, c20, c19, c18, c17⟩, th_c S c0]
            refine hF c j (fun z => ?_) (fun z => ?_)
            · simp at z hx; omega
            · simp at z; omega
theorem ag_more {S T T2 : St} (h : Ag S T) (hF : Fr [21, 22, 23, 24, 25, 26, 27, 28, 29, 31] [] T T2) : Ag S T2 := by
  obtain ⟨a, b, c, d, e⟩ := h
  refine ⟨a.tr (hF.mo rfl rfl), ?_, fun j hj => ?_, fun j hj => ?_, fun j hj => ?_⟩
  · rw [hF.c 0 rfl]; exact b
  · rw [hF.c 17 rfl, hF.c 18 rfl]; exact c j hj
  · rw [hF.c 19 rfl]; exact d j hj
  · rw [hF.c 20 rfl]; exact e j hj
theorem ag_asS {S T : St} (h : Ag S T) : Ag S (asS T) := by
  obtain ⟨a, b, c, d, e⟩ := h
  refine ⟨a.tr (asS_fr T), ?_, fun j hj => ?_, fun j hj => ?_, fun j hj => ?_⟩
  · rw [asS_0 _ (by decide)]; exact b
  · have f20 : T 0 20 = S 0 20 := a.s 0 20 rfl
    rw [asS_ap, asS_ae, f20]
    unfold cpI
    rw [if_neg hj, if_neg hj]
    exact c j hj
  · rw [asS_al]
    unfold cpI
    rw [if_neg hj]
    exact d j hj
  · rw [asS_pl]
    unfold cpI
    rw [if_neg hj]
    exact e j hj
theorem ag_ae {S T : St} (h : Ag S T) {i : Int} (v : Int) (hi : 0 ≤ i ∧ i < S 0 20) : Ag S (up T 18 i v) := by
  obtain ⟨a, b, c, d, e⟩ := h
  refine ⟨a.up _ _ _ rfl, ?_, fun j hj => ?_, fun j hj => ?_, fun j hj => ?_⟩
  · rw [up_o _ _ _ (by decide)]; exact b
  · rw [up_o _ _ _ (by decide : (17 : Nat) ≠ 18), up_n _ _ _ (fun z => hj (by rw [z]; exact hi))]; exact c j hj
  · rw [up_o _ _ _ (by decide)]; exact d j hj
  · rw [up_o _ _ _ (by decide)]; exact e j hj
theorem ag_al {S T : St} (h : Ag S T) {i : Int} (v : Int) (hi : 0 ≤ i ∧ i < 20) : Ag S (up T 19 i v) := by
  obtain ⟨a, b, c, d, e⟩ := h
  refine ⟨a.up _ _ _ rfl, ?_, fun j hj => ?_, fun j hj => ?_, fun j hj => ?_⟩
  · rw [up_o _ _ _ (by decide)]; exact b
  · rw [up_o _ _ _ (by decide), up_o _ _ _ (by decide)]; exact c j hj
  · rw [up_n _ _ _ (fun z => hj (by rw [z]; exact hi))]; exact d j hj
  · rw [up_o _ _ _ (by decide)]; exact e j hj
/-- which sign made exact has most: the sign, in how many ways, of how many -/
def exF (S : St) : Nat → Int × Int × Int
  | 0 => (-1, 0, 1)
  | k + 1 => if 0 ≤ (exF S k).1 ∧ cntM (up (tl S) 18 k 0) * (exF S k).2.2 ≤ (exF S k).2.1 * lenM (up (tl S) 18 k 0) then exF S k else ((k : Int), cntM (up (tl S) 18 k 0), lenM (up (tl S) 18 k 0))
theorem exF_b {S : St} (hA : mAs (tl S)) : ∀ k : Nat, -1 ≤ (exF S k).1 ∧ (exF S k).1 < k ∧ 0 ≤ (exF S k).2.1 ∧ (exF S k).2.1 ≤ 16807 ∧ 1 ≤ (exF S k).2.2 ∧ (exF S k).2.2 ≤ 16807
  | 0 => by show -1 ≤ (-1 : Int) ∧ (-1 : Int) < 0 ∧ 0 ≤ (0 : Int) ∧ (0 : Int) ≤ 16807 ∧ 1 ≤ (1 : Int) ∧ (1 : Int) ≤ 16807; omega
  | k + 1 => by
    have ih := exF_b hA k
    have hb := cntM_b (mAs_ae (j := k) (v := 0) hA (by omega))
    rw [exF]
    split
    · omega
    · dsimp only; omega
def aM_exact (S : St) (what : Int) : Int := if S 0 18 = 0 ∨ ¬ (0 ≤ what ∧ what ≤ 2) then -1 else
  if what = 0 then (exF S (S 0 20).toNat).1 else if what = 1 then (exF S (S 0 20).toNat).2.1 / Nat.gcd (exF S (S 0 20).toNat).2.2.toNat (exF S (S 0 20).toNat).2.1.toNat else (exF S (S 0 20).toNat).2.2 / Nat.gcd (exF S (S 0 20).toNat).2.2.toNat (exF S (S 0 20).toNat).2.1.toNat
set_option maxHeartbeats 4000000 in
theorem t_M_exact (S : St) (what : Int) (Q : Option AV → St → Prop) (hL : ¬ S 0 18 = 0 → ldM S) (hp : plM S) (hQ : ∀ S', Fr [17, 18, 19, 20, 21, 22, 23, 24, 25, 26, 27, 28, 29, 31] [(0, 0), (0, 38)] S S' → Q (some (.inl (aM_exact S what))) S') : Smm H_M_exact 0 [some (.inr (.inr 0)), some (.inl what), none, none, none, none, none, none] [] S Q := by
  have e18 : th S 0 18 = S 0 18 := th_0 S (by decide)
  have no : (S 0 18 = 0 ∨ ¬ (0 ≤ what ∧ what ≤ 2)) → Q (some (.inl (-1))) (th S) := fun hz => by
    have := hQ (th S) (th_fr S)
    unfold aM_exact at this
    rwa [if_pos hz] at this
  refine sound ok_M_exact [32] 60 ?_
  refine ⟨fun h1 => no (Or.inl (e18 ▸ h1)), fun h1 => ?_⟩
  replace h1 : ¬ S 0 18 = 0 := fun z => h1 (e18.trans z)
  refine t_M_isPart _ _ _ _ (fun h2 => ?_) (fun h2 => ?_)
  · refine ⟨fun _ => ?_, fun z => absurd z (by decide)⟩
    have hl := hL h1
    have hA := tl_mAs hl hp
    have hn5 := hl.2.1
    have loop : ∀ (i : Int) (T : St), ((0 ≤ i ∧ i ≤ S 0 20) ∧ Ag S T) → Smm H_M_exact 32 [some (.inr (.inr 0)), some (.inl what), some (.inl (exF S i.toNat).1), some (.inl (exF S i.toNat).2.1), some (.inl (exF S i.toNat).2.2), some (.inl i), none, none] [] T Q := by
      refine lp_up (P := fun i T => Smm H_M_exact 32 [some (.inr (.inr 0)), some (.inl what), some (.inl (exF S i.toNat).1), some (.inl (exF S i.toNat).2.1), some (.inl (exF S i.toNat).2.2), some (.inl i), none, none] [] T Q) _ (S 0 20) ?_ ?_
      · rintro i T hi ⟨hi2, hT⟩
        have q20 : T 0 20 = S 0 20 := hT.1.s 0 20 rfl
        have hb := exF_b hA (S 0 20).toNat
        have hq := hQ T hT.1
        unfold aM_exact at hq
        rw [if_neg (by omega)] at hq
        rw [show i = S 0 20 by omega]
        generalize exF S (S 0 20).toNat = x at hb hq
        obtain ⟨bx, ax, lx⟩ := x
        dsimp only at hb hq ⊢
        refine sound ok_M_exact [] 60 ?_
        refine ⟨fun _ => ?_, fun h3 => absurd h3 (by omega)⟩
        have e1 : lx = (lx.toNat : Int) := by omega
        have e2 : ax = (ax.toNat : Int) := by omega
        have hg := gcd_b (a := lx.toNat) (b := ax.toNat) (by omega) (by omega)
        rw [e1, e2]
        refine t_M_divisor T lx.toNat ax.toNat _ (by omega) (by omega) ?_
        refine ⟨fun h3 => ?_, fun h3 => ?_⟩
        · rw [if_neg h3] at hq
          refine ⟨fun h4 => ?_, fun h4 => ?_⟩
          · rw [if_neg h4] at hq
            refine ⟨by omega, ?_⟩
            rw [idiv_pos (by omega) (by omega) (by omega) (by omega), ← e1]
            exact hq
          · rw [if_pos h4] at hq
            refine ⟨by omega, ?_⟩
            rw [idiv_pos (by omega) (by omega) (by omega) (by omega), ← e2]
            exact hq
        · rw [if_pos h3] at hq
          exact hq
      · rintro i T hi ⟨hi2, hT⟩ ih
        have q20 : T 0 20 = S 0 20 := hT.1.s 0 20 rfl
        have q19 : T 0 19 = S 0 19 := hT.1.s 0 19 rfl
        obtain ⟨k, rfl⟩ : ∃ k : Nat, i = k := ⟨i.toNat, by omega⟩
        rw [show ((k : Int)).toNat = k by omega]
        rw [show ((k : Int) + 1).toNat = k + 1 by omega, exF] at ih
        have hb := exF_b hA k
        have hA2 := mAs_ae (j := k) (v := 0) hA (by omega)
        have hcb := cntM_b hA2
        have hSm : Sm (up (tl S) 18 k 0) (up (asS T) 18 k 0) := Sm.fr2 (fr_up2 (ag_as hT) _ _ _)
        refine sound ok_M_exact [32] 100 ?_
        refine ⟨fun h3 => absurd h3 (by omega), fun _ => ?_⟩
        refine t_M_asTold T _ (by omega) (by have := hl.1; omega) ?_
        refine ⟨by omega, ?_⟩
        refine t_M_allWays _ _ (mAs_sm hSm hA2) ?_
        refine t_M_openings _ _ (mAs_sm hSm hA2) (fun T2 hF2 => ?_)
        have hT2 : Ag S T2 := ag_more (ag_ae (ag_asS hT) 0 (by omega)) (hF2.mo rfl rfl)
        have ec : ((List.countP (opM (up (asS T) 18 k 0)) (wyM (up (asS T) 18 k 0)) : Nat) : Int) = cntM (up (tl S) 18 k 0) := cntM_sm hSm
        have el : ((wyM (up (asS T) 18 k 0)).length : Int) = lenM (up (tl S) 18 k 0) := lenM_sm hSm
        rw [ec, el]
        generalize cntM (up (tl S) 18 k 0) = cn at hcb ih ⊢
        generalize lenM (up (tl S) 18 k 0) = ln at hcb ih ⊢
        generalize exF S k = x at hb ih ⊢
        obtain ⟨bx, ax, lx⟩ := x
        dsimp only at hb ih ⊢
        have m1 : 0 ≤ cn * lx ∧ cn * lx ≤ 16807 * 16807 := ⟨Int.mul_nonneg (by omega) (by omega), Int.mul_le_mul (by omega) (by omega) (by omega) (by omega)⟩
        have m2 : 0 ≤ ax * ln ∧ ax * ln ≤ 16807 * 16807 := ⟨Int.mul_nonneg (by omega) (by omega), Int.mul_le_mul (by omega) (by omega) (by omega) (by omega)⟩
        have f1 : i64 (cn * lx) = cn * lx := i64_id (by omega) (by omega)
        have f2 : i64 (ax * ln) = ax * ln := i64_id (by omega) (by omega)
        have take : ¬ (0 ≤ bx ∧ cn * lx ≤ ax * ln) → Smm H_M_exact 32 [some (.inr (.inr 0)), some (.inl what), some (.inl (k : Int)), some (.inl cn), some (.inl ln), some (.inl (i32 ((k : Int) + 1))), some (.inl ln), some (.inl cn)] [] T2 Q := fun hz => by
          have := ih T2 ⟨by omega, hT2⟩
          rw [if_neg hz] at this
          exact Smm.sub this ⟨Or.inr rfl, Or.inr rfl, Or.inr rfl, Or.inr rfl, Or.inr rfl, Or.inr (sI (by unfold i32; omega)), Or.inl rfl, Or.inl rfl, trivial⟩
        refine ⟨fun h3 => take (by omega), fun h3 => ?_⟩
        refine ⟨fun h4 => take (by rw [f1, f2, jcmp_gt] at h4; omega), fun h4 => ?_⟩
        rw [f1, f2, jcmp_le] at h4
        have := ih T2 ⟨by omega, hT2⟩
        rw [if_pos ⟨h3, h4⟩] at this
        exact Smm.sub this ⟨Or.inr rfl, Or.inr rfl, Or.inr rfl, Or.inr rfl, Or.inr rfl, Or.inr (sI (by unfold i32; omega)), Or.inl rfl, Or.inl rfl, trivial⟩
    exact Smm.sub (loop 0 (th S) ⟨by omega, ag_th S⟩) ⟨Or.inr rfl, Or.inr rfl, Or.inr rfl, Or.inr rfl, Or.inr rfl, Or.inr rfl, Or.inl rfl, Or.inl rfl, trivial⟩
  · exact ⟨fun z => absurd rfl z, fun _ => no (Or.inr h2)⟩
end
section
/-! the reference: lossy, deaf, helper -/
def shF (set risk : Int) : Nat → Int
  | 0 => 1000000000
  | k + 1 => if iand (ishr set k) 1 = 1 then jdiv (i64 (shF set risk k * risk)) 100 else i64 (shF set risk k - jdiv (i64 (shF set risk k * risk)) 100)
def lsF (S : St) (risk : Int) : Nat → Int
  | 0 => 0
  | q + 1 => if 0 < shF q risk (S 0 20).toNat then i64 (lsF S risk q + jdiv (i64 (shF q risk (S 0 20).toNat * cntM (up (tl S) 0 38 q))) (lenM (tl S))) else lsF S risk q
def aM_lossy (S : St) (risk : Int) : Int := if S 0 18 = 0 ∨ risk < 0 ∨ 100 < risk then -1 else i32 (lsF S risk (2 ^ (S 0 20).toNat))
theorem sJ {a b : Int} (h : a = b) : (some (.inr (.inl a)) : Option AV) = some (.inr (.inl b)) := by rw [h]
set_option maxHeartbeats 4000000 in
theorem t_M_lossy (S : St) (risk : Int) (Q : Option AV → St → Prop) (hL : ¬ S 0 18 = 0 → ldM S) (hp : plM S) (hQ : ∀ S', Fr [17, 18, 19, 20, 21, 22, 23, 24, 25, 26, 27, 28, 29, 31] [(0, 0), (0, 38)] S S' → Q (some (.inl (aM_lossy S risk))) S') : Smm H_M_lossy 0 [some (.inr (.inr 0)), some (.inl risk), none, none, none, none, none, none, none, none, none, none] [] S Q := by
  have e18 : th S 0 18 = S 0 18 := th_0 S (by decide)
  have no : (S 0 18 = 0 ∨ risk < 0 ∨ 100 < risk) → Q (some (.inl (-1))) (th S) := fun hz => by
    have := hQ (th S) (th_fr S)
    unfold aM_lossy at this
    rwa [if_pos hz] at this
  refine sound ok_M_lossy [40] 60 ?_
  refine ⟨fun h1 => no (Or.inl (e18 ▸ h1)), fun h1 => ?_⟩
  replace h1 : ¬ S 0 18 = 0 := fun z => h1 (e18.trans z)
  refine ⟨fun h2 => no (by omega), fun h2 => ?_⟩
  refine ⟨fun h3 => ?_, fun h3 => no (by omega)⟩
  have hl := hL h1
  have hA := tl_mAs hl hp
  have hn5 := hl.2.1
  have hb := cntM_b hA
  have p20 : tl S 0 20 = S 0 20 := tl_0 S (by decide) (by decide)
  have h32 : 2 ^ (S 0 20).toNat ≤ 2 ^ 5 := Nat.pow_le_pow_right (by omega) (by omega)
  have loop : ∀ (i : Int) (T : St), ((0 ≤ i ∧ i ≤ (2 ^ (S 0 20).toNat : Nat)) ∧ ∃ v, Fr [21, 22, 23, 24, 25] [] (up (tl S) 0 38 v) T) → Smm H_M_lossy 40 [some (.inr (.inr 0)), some (.inl risk), some (.inr (.inl (lenM (tl S)))), none, some (.inr (.inl (lsF S risk i.toNat))), none, some (.inl i), none, none, none, none, none] [] T Q := by
    refine lp_up (P := fun i T => Smm H_M_lossy 40 [some (.inr (.inr 0)), some (.inl risk), some (.inr (.inl (lenM (tl S)))), none, some (.inr (.inl (lsF S risk i.toNat))), none, some (.inl i), none, none, none, none, none] [] T Q) _ ((2 ^ (S 0 20).toNat : Nat) : Int) ?_ ?_
    · rintro i T hi ⟨hi2, v, hF⟩
      have q20 : T 0 20 = S 0 20 := by rw [hF.c 0 rfl, up_n _ _ _ (by decide), p20]
      have hsh : ishl 1 (T 0 20) = ((2 ^ (S 0 20).toNat : Nat) : Int) := by rw [q20, ishl1 (by omega) (by omega)]; simp
      refine sound ok_M_lossy [40] 20 ?_
      refine ⟨fun _ => ?_, fun h3 => absurd h3 (by omega)⟩
      have := hQ T (((tl_fr S).up 0 38 v rfl).tr (hF.mo rfl rfl))
      unfold aM_lossy at this
      rw [if_neg (by omega)] at this
      rw [show i.toNat = 2 ^ (S 0 20).toNat by omega]
      exact this
    · rintro i T hi ⟨hi2, v, hF⟩ ih
      have q20 : T 0 20 = S 0 20 := by rw [hF.c 0 rfl, up_n _ _ _ (by decide), p20]
      have hsh : ishl 1 (T 0 20) = ((2 ^ (S 0 20).toNat : Nat) : Int) := by rw [q20, ishl1 (by omega) (by omega)]; simp
      obtain ⟨k, rfl⟩ : ∃ k : Nat, i = k := ⟨i.toNat, by omega⟩
      rw [show ((k : Int)).toNat = k by omega]
      rw [show ((k : Int) + 1).toNat = k + 1 by omega, lsF] at ih
      have hSm : Sm (up (tl S) 0 38 k) (up T 0 38 k) := by
        have := Sm.up hF 0 38 k
        rwa [up_up] at this
      have hA2 := mAs_gone hA k
      have hFr : ∀ T2, Fr [21, 22, 23, 24, 25] [] (up T 0 38 k) T2 → Fr [21, 22, 23, 24, 25] [] (up (tl S) 0 38 k) T2 := fun T2 h2 => by
        refine Fr.tr (S1 := up T 0 38 k) (fun c' j' hx hy => ?_) h2
        rw [upr, upr]
        split
        · rfl
        · rename_i hz
          rw [hF c' j' hx hy, upr, if_neg hz]
      have back : ∀ (T2 : St) (z : Int) (x10 : Option AV), Fr [21, 22, 23, 24, 25] [] (up (tl S) 0 38 k) T2 → z = (if 0 < shF k risk (S 0 20).toNat then i64 (lsF S risk k + jdiv (i64 (shF k risk (S 0 20).toNat * cntM (up (tl S) 0 38 k))) (lenM (tl S))) else lsF S risk k) → ∀ x7 x9 : Option AV, Smm H_M_lossy 136 [some (.inr (.inr 0)), some (.inl risk), some (.inr (.inl (lenM (tl S)))), none, some (.inr (.inl z)), none, some (.inl (k : Int)), x7, none, x9, x10, none] [] T2 Q := by
        intro T2 z x10 hF2 hz x7 x9
        refine sound ok_M_lossy [40] 20 ?_
        refine Smm.sub (ih T2 ⟨by omega, _, hF2⟩) ⟨Or.inr rfl, Or.inr rfl, Or.inr rfl, Or.inr rfl, Or.inr (sJ hz.symm), Or.inr rfl, Or.inr (sI (by unfold i32; omega)), Or.inl rfl, Or.inl rfl, Or.inl rfl, Or.inl rfl, Or.inl rfl, trivial⟩
      have behind : ∀ x10 : Option AV, Smm H_M_lossy 108 [some (.inr (.inr 0)), some (.inl risk), some (.inr (.inl (lenM (tl S)))), none, some (.inr (.inl (lsF S risk k))), none, some (.inl (k : Int)), some (.inr (.inl (shF k risk (S 0 20).toNat))), none, some (.inl (S 0 20)), x10, none] [] T Q := by
        intro x10
        refine sound ok_M_lossy [136] 40 ?_
        refine ⟨fun h4 => ?_, fun h4 => ?_⟩
        · rw [jcmp_le] at h4
          exact back _ _ _ (hFr _ (Fr.rf _ _ _)) (by rw [if_neg (by omega)]) _ _
        · rw [jcmp_gt] at h4
          have h4 : 0 < shF k risk (S 0 20).toNat := h4
          refine t_M_openings _ _ (mAs_sm hSm hA2) (fun T2 hF2 => ?_)
          have ec : ((List.countP (opM (up T 0 38 k)) (wyM (up T 0 38 k)) : Nat) : Int) = cntM (up (tl S) 0 38 k) := cntM_sm hSm
          refine ⟨by omega, ?_⟩
          exact back _ _ _ (hFr _ hF2) (by rw [if_pos h4, ec]) _ _
      have inner : ∀ (j : Int) (x10 : Option AV), (0 ≤ j ∧ j ≤ S 0 20) → Smm H_M_lossy 59 [some (.inr (.inr 0)), some (.inl risk), some (.inr (.inl (lenM (tl S)))), none, some (.inr (.inl (lsF S risk k))), none, some (.inl (k : Int)), some (.inr (.inl (shF k risk j.toNat))), none, some (.inl j), x10, none] [] T Q := by
        refine lp_up (P := fun j x10 => Smm H_M_lossy 59 [some (.inr (.inr 0)), some (.inl risk), some (.inr (.inl (lenM (tl S)))), none, some (.inr (.inl (lsF S risk k))), none, some (.inl (k : Int)), some (.inr (.inl (shF k risk j.toNat))), none, some (.inl j), x10, none] [] T Q) (fun j _ => 0 ≤ j ∧ j ≤ S 0 20) (S 0 20) ?_ ?_
        · rintro j x10 hj hj2
          refine sound ok_M_lossy [108] 20 ?_
          refine ⟨fun _ => ?_, fun h4 => absurd h4 (by omega)⟩
          rw [show j = S 0 20 by omega]
          exact behind _
        · rintro j x10 hj hj2 ih2
          obtain ⟨q, rfl⟩ : ∃ q : Nat, j = q := ⟨j.toNat, by omega⟩
          rw [show ((q : Int)).toNat = q by omega]
          rw [show ((q : Int) + 1).toNat = q + 1 by omega, shF] at ih2
          refine sound ok_M_lossy [59] 60 ?_
          refine ⟨fun h4 => absurd h4 (by omega), fun _ => ?_⟩
          refine ⟨by decide, ?_⟩
          refine ⟨fun h4 => ?_, fun h4 => ?_⟩
          · have := ih2 (some (.inr (.inl (jdiv (i64 (shF k risk q * risk)) 100)))) (by omega)
            rw [if_neg h4] at this
            exact Smm.sub this ⟨Or.inr rfl, Or.inr rfl, Or.inr rfl, Or.inr rfl, Or.inr rfl, Or.inr rfl, Or.inr rfl, Or.inr rfl, Or.inr rfl, Or.inr (sI (by unfold i32; omega)), Or.inr rfl, Or.inr rfl, trivial⟩
          · have := ih2 (some (.inr (.inl (jdiv (i64 (shF k risk q * risk)) 100)))) (by omega)
            rw [if_pos h4] at this
            exact Smm.sub this ⟨Or.inr rfl, Or.inr rfl, Or.inr rfl, Or.inr rfl, Or.inr rfl, Or.inr rfl, Or.inr rfl, Or.inr rfl, Or.inr rfl, Or.inr (sI (by unfold i32; omega)), Or.inr rfl, Or.inr rfl, trivial⟩
      refine sound ok_M_lossy [59] 40 ?_
      refine ⟨fun h4 => absurd h4 (by omega), fun _ => ?_⟩
      exact inner 0 none (by omega)
  refine t_M_asTold (th S) _ (by rw [th_0 S (by decide)]; omega) (by rw [th_0 S (by decide)]; have := hl.1; omega) ?_
  refine t_M_allWays (tl S) _ hA ?_
  refine Smm.sub (loop 0 (tl S) ⟨⟨Int.le_refl 0, Int.natCast_nonneg _⟩, tl S 0 38, ?_⟩) ⟨Or.inr rfl, Or.inr rfl, Or.inr rfl, Or.inr rfl, Or.inr rfl, Or.inr rfl, Or.inr rfl, Or.inl rfl, Or.inl rfl, Or.inl rfl, Or.inl rfl, Or.inl rfl, trivial⟩
  have e : up (tl S) 0 38 (tl S 0 38) = tl S := by
    rw [up_st]
    have : uf (tl S 0) 38 (tl S 0 38) = tl S 0 := by
      funext j
      by_cases hj : j = 38
      · rw [hj, uf_s]
      · rw [uf_n _ _ hj]
    rw [this, stC_id]
  rw [e]
  exact Fr.rf _ _ _
/-- a guard that hears nothing -/
def dfF (f : Int → Int) (g k : Int) : Int → Int := fun j => if 5 * g ≤ j ∧ j < 5 * g + k then -1 else f j
theorem dfF_0 (f : Int → Int) (g : Int) : dfF f g 0 = f := by funext j; unfold dfF; rw [if_neg (by omega)]
theorem dfF_s (f : Int → Int) (g : Int) {k : Int} (h : 0 ≤ k) : uf (dfF f g k) (5 * g + k) (-1) = dfF f g (k + 1) := by
  funext j
  by_cases hj : j = 5 * g + k
  · rw [hj, uf_s]
    unfold dfF
    rw [if_pos (by omega)]
  · rw [uf_n _ _ hj]
    unfold dfF
    by_cases h2 : 5 * g ≤ j ∧ j < 5 * g + k
    · rw [if_pos h2, if_pos (by omega)]
    · rw [if_neg h2, if_neg (by omega)]
theorem mAs_df {T : St} (h : mAs T) (g : Int) : mAs (stC T 19 (dfF (T 19) g 5)) := by
  obtain ⟨⟨⟨h1, h2, h3⟩, h4⟩, h5⟩ := h
  unfold plM at h4
  refine ⟨⟨⟨?_, ?_, ?_⟩, ?_⟩, ?_⟩
  · rw [stC_o _ _ (by decide)]; exact h1
  · rw [stC_o _ _ (by decide), stC_o _ _ (by decide), stC_o _ _ (by decide), stC_o _ _ (by decide)]; exact h2
  · intro i i0 i1
    rw [stC_s]
    unfold dfF
    have := h3 i i0 i1
    split <;> omega
  · unfold plM
    rw [stC_o _ _ (by decide), stC_o _ _ (by decide), stC_o _ _ (by decide), stC_o _ _ (by decide)]
    exact h4
  · rw [stC_o _ _ (by decide), stC_o _ _ (by decide)]; exact h5
def cntDf (S : St) (g : Int) : Int := cntM (stC (tl S) 19 (dfF (tl S 19) g 5))
def aM_deaf (S : St) : Int := if S 0 18 = 0 then -1 else bitF (fun g => decide (cntDf S g < cntM (tl S))) (S 0 19).toNat
theorem ag_df {S T : St} (h : Ag S T) {g : Int} (k : Int) (hg : 0 ≤ g ∧ g < 4) (hk : k ≤ 5) : Ag S (stC T 19 (dfF (T 19) g k)) := by
  obtain ⟨a, b, c, d, e⟩ := h
  refine ⟨fun c' j' hx hy => ?_, ?_, fun j hj => ?_, fun j hj => ?_, fun j hj => ?_⟩
  · rw [stC_o _ _ (fun z => hx (by rw [z]; decide))]
    exact a c' j' hx hy
  · rw [stC_o _ _ (by decide)]; exact b
  · rw [stC_o _ _ (by decide), stC_o _ _ (by decide)]; exact c j hj
  · rw [stC_s]
    unfold dfF
    rw [if_neg (by omega)]
    exact d j hj
  · rw [stC_o _ _ (by decide)]; exact e j hj
set_option maxHeartbeats 4000000 in
theorem t_M_deaf (S : St) (Q : Option AV → St → Prop) (hL : ¬ S 0 18 = 0 → ldM S) (hp : plM S) (hQ : ∀ S', Fr [17, 18, 19, 20, 21, 22, 23, 24, 25, 26, 27, 28, 29, 31] [(0, 0), (0, 38)] S S' → Q (some (.inl (aM_deaf S))) S') : Smm H_M_deaf 0 [some (.inr (.inr 0)), none, none, none, none] [] S Q := by
  have e18 : th S 0 18 = S 0 18 := th_0 S (by decide)
  refine sound ok_M_deaf [27] 60 ?_
  refine ⟨fun h1 => ?_, fun h1 => ?_⟩
  · replace h1 : ¬ S 0 18 = 0 := fun z => h1 (e18.trans z)
    have hl := hL h1
    have hA := tl_mAs hl hp
    have hn5 := hl.2.1
    have hk4 := hl.1
    have loop : ∀ (i : Int) (T : St), ((0 ≤ i ∧ i ≤ S 0 19) ∧ Ag S T) → Smm H_M_deaf 27 [some (.inr (.inr 0)), some (.inl (cntM (tl S))), some (.inl (bitF (fun g => decide (cntDf S g < cntM (tl S))) i.toNat)), some (.inl i), none] [] T Q := by
      refine lp_up (P := fun i T => Smm H_M_deaf 27 [some (.inr (.inr 0)), some (.inl (cntM (tl S))), some (.inl (bitF (fun g => decide (cntDf S g < cntM (tl S))) i.toNat)), some (.inl i), none] [] T Q) _ (S 0 19) ?_ ?_
      · rintro i T hi ⟨hi2, hT⟩
        have q19 : T 0 19 = S 0 19 := hT.1.s 0 19 rfl
        refine sound ok_M_deaf [27] 20 ?_
        refine ⟨fun _ => ?_, fun h3 => absurd h3 (by omega)⟩
        have := hQ T hT.1
        unfold aM_deaf at this
        rw [if_neg h1] at this
        rw [show i = S 0 19 by omega]
        exact this
      · rintro i T hi ⟨hi2, hT⟩ ih
        have q19 : T 0 19 = S 0 19 := hT.1.s 0 19 rfl
        have q20 : T 0 20 = S 0 20 := hT.1.s 0 20 rfl
        obtain ⟨k, rfl⟩ : ∃ k : Nat, i = k := ⟨i.toNat, by omega⟩
        rw [show ((k : Int)).toNat = k by omega]
        rw [show ((k : Int) + 1).toNat = k + 1 by omega, bitF] at ih
        have hAs := ag_as hT
        have eL : asS T 19 = tl S 19 := hAs.c 19 rfl
        have inner : ∀ (j : Int) (T2 : St), ((0 ≤ j ∧ j ≤ 5) ∧ T2 = stC (asS T) 19 (dfF (asS T 19) k j)) → Smm H_M_deaf 42 [some (.inr (.inr 0)), some (.inl (cntM (tl S))), some (.inl (bitF (fun g => decide (cntDf S g < cntM (tl S))) k)), some (.inl (k : Int)), some (.inl j)] [] T2 Q := by
          refine lp_up (P := fun j T2 => Smm H_M_deaf 42 [some (.inr (.inr 0)), some (.inl (cntM (tl S))), some (.inl (bitF (fun g => decide (cntDf S g < cntM (tl S))) k)), some (.inl (k : Int)), some (.inl j)] [] T2 Q) _ 5 ?_ ?_
          · rintro j T2 hj ⟨hj2, hT2⟩
            rw [show j = 5 by omega] at hT2
            have hSm : Sm (stC (tl S) 19 (dfF (tl S 19) k 5)) T2 := by
              rw [hT2, eL]
              exact Sm.fr2 (fr_st2 hAs _ _)
            have hA2 := mAs_df hA k
            refine sound ok_M_deaf [27] 40 ?_
            refine ⟨fun _ => ?_, fun h3 => absurd h3 (by omega)⟩
            refine t_M_openings T2 _ (mAs_sm hSm hA2) (fun T3 hF3 => ?_)
            have hT3 : Ag S T3 := ag_more (by rw [hT2]; exact ag_df (ag_asS hT) 5 (by omega) (by omega)) (hF3.mo rfl rfl)
            have ec : ((List.countP (opM T2) (wyM T2) : Nat) : Int) = cntDf S k := cntM_sm hSm
            refine ⟨fun h3 => ?_, fun h3 => ?_⟩
            · rw [ec] at h3
              refine Smm.sub (ih T3 ⟨by omega, hT3⟩) ⟨Or.inr rfl, Or.inr rfl, Or.inr (sI ?_), Or.inr (sI (by unfold i32; omega)), Or.inl rfl, trivial⟩
              rw [if_neg (by simpa using h3)]
            · rw [ec] at h3
              refine Smm.sub (ih T3 ⟨by omega, hT3⟩) ⟨Or.inr rfl, Or.inr rfl, Or.inr (sI ?_), Or.inr (sI (by unfold i32; omega)), Or.inl rfl, trivial⟩
              rw [if_pos (by simpa using h3)]
          · rintro j T2 hj ⟨hj2, hT2⟩ ih2
            have e1 : i32 (i32 (5 * (k : Int)) + j) = 5 * k + j := by unfold i32; omega
            refine sound ok_M_deaf [42] 40 ?_
            refine ⟨fun h3 => absurd h3 (by omega), fun _ => ?_⟩
            refine ⟨by rw [e1]; omega, ?_⟩
            refine Smm.sub (ih2 _ ⟨by omega, ?_⟩) ⟨Or.inr rfl, Or.inr rfl, Or.inr rfl, Or.inr rfl, Or.inr (sI (by unfold i32; omega)), trivial⟩
            rw [e1, hT2, up_stC_s, dfF_s _ _ hj2.1]
        refine sound ok_M_deaf [42] 40 ?_
        refine ⟨fun h3 => absurd h3 (by omega), fun _ => ?_⟩
        refine t_M_asTold T _ (by omega) (by omega) ?_
        refine inner 0 (asS T) ⟨by omega, ?_⟩
        rw [dfF_0, stC_id]
    refine t_M_asTold (th S) _ (by rw [th_0 S (by decide)]; omega) (by rw [th_0 S (by decide)]; omega) ?_
    refine t_M_openings (tl S) _ hA (fun T hF => ?_)
    exact Smm.sub (loop 0 T ⟨by omega, ag_more (ag_asS (ag_th S)) (hF.mo rfl rfl)⟩) ⟨Or.inr rfl, Or.inr rfl, Or.inr rfl, Or.inr rfl, Or.inl rfl, trivial⟩
  · have := hQ (th S) (th_fr S)
    unfold aM_deaf at this
    rw [if_pos (e18 ▸ h1)] at this
    exact this
end
section
/-! the reference: when, near, enough -/
def enF (T : St) (a : Int) (f : Int → Int) : Int := if a < apM T f then apM T f else a
def aM_enough (S : St) : Int := if S 0 18 = 0 then -1 else if 99 < (wyM (tl S)).foldl (enF (tl S)) 0 then -1 else (wyM (tl S)).foldl (enF (tl S)) 0
theorem t_M_enough (S : St) (Q : Option AV → St → Prop) (hL : ¬ S 0 18 = 0 → ldM S) (hp : plM S) (hQ : ∀ S', Fr [17, 18, 19, 20, 21, 22, 23, 24, 25, 26, 27, 28, 29, 31] [(0, 0), (0, 38)] S S' → Q (some (.inl (aM_enough S))) S') : Smm H_M_enough 0 [some (.inr (.inr 0)), none, none] [] S Q := by
  have e18 : th S 0 18 = S 0 18 := th_0 S (by decide)
  refine sound ok_M_enough [24] 60 ?_
  refine ⟨fun h1 => ?_, fun h1 => ?_⟩
  · replace h1 : ¬ S 0 18 = 0 := fun z => h1 (e18.trans z)
    have hl0 := hL h1
    have hA := tl_mAs hl0 hp
    have hlen := wyM_len hA
    have loop : ∀ (post pre : List (Int → Int)) (f : Int → Int) (q : St × Int), wyM (tl S) = pre ++ f :: post → (Fr [21, 22, 23, 24, 25] [] (tl S) q.1 ∧ Wy q.1 f ∧ q.2 = pre.foldl (enF (tl S)) 0) → Smm H_M_enough 24 [some (.inr (.inr 0)), some (.inl q.2), none] [] q.1 Q := by
      refine lp_wy (P := fun _ (q : St × Int) => Smm H_M_enough 24 [some (.inr (.inr 0)), some (.inl q.2), none] [] q.1 Q) (fun pre f q => Fr [21, 22, 23, 24, 25] [] (tl S) q.1 ∧ Wy q.1 f ∧ q.2 = pre.foldl (enF (tl S)) 0) ?_
      rintro pre f post ⟨T, a⟩ hl ⟨hF, hW, ha⟩ ih
      dsimp only at hF hW ha ⊢
      have hSm : Sm (tl S) T := Sm.of hF rfl
      have hA' := mAs_sm hSm hA
      have hfm0 : f ∈ wyM (tl S) := by rw [hl]; exact List.mem_append_right _ List.mem_cons_self
      have hfm : f ∈ wyM T := by rw [wyM_sm hSm]; exact hfm0
      have hpl : pre.length < (wyM (tl S)).length := by rw [hl, List.length_append, List.length_cons]; omega
      have next : ∀ (T2 : St) (b : Int) (x : Option AV), Fr [25] [] T T2 → b = (enF (tl S)) a f → Smm H_M_enough 36 [some (.inr (.inr 0)), some (.inl b), x] [] T2 Q := by
        intro T2 b x hF2 hb
        have hb2 : b = (pre ++ [f]).foldl (enF (tl S)) 0 := by rw [List.foldl_append, ← ha, hb]; rfl
        have hSm2 : Sm (tl S) T2 := Sm.of (hF.tr (hF2.mo rfl rfl)) rfl
        refine sound ok_M_enough [24, 43] 20 ?_
        refine t_M_nextW T2 pre f post _ (mAs_sm hSm2 hA) (by rw [wyM_sm hSm2]; exact hl) (fun i i0 i1 => ?_) (fun f' post' S3 hp hF3 hW3 => ?_) (fun S3 hp hF3 => ?_)
        · rw [hF2.c 21 rfl]
          exact hW.1 i i0 (by rw [hSm2.1] at i1; rw [hSm.1]; exact i1)
        · refine ⟨fun _ => ?_, fun z => absurd z (by decide)⟩
          exact Smm.sub (ih f' post' (S3, b) hp ⟨(hF.tr (hF2.mo rfl rfl)).tr (hF3.mo rfl rfl), hW3, hb2⟩) ⟨Or.inr rfl, Or.inr rfl, Or.inl rfl, trivial⟩
        · refine ⟨fun z => absurd rfl z, fun _ => ?_⟩
          have hx : b = (wyM (tl S)).foldl (enF (tl S)) 0 := by rw [hl, hp]; exact hb2
          have hFx := (hF.tr (hF2.mo rfl rfl)).tr (hF3.mo rfl rfl)
          rw [hx]
          have hq := hQ S3 ((tl_fr S).tr (hFx.mo rfl rfl))
          unfold aM_enough at hq
          rw [if_neg h1] at hq
          refine sound ok_M_enough [] 20 ?_
          refine ⟨fun h3 => ?_, fun h3 => ?_⟩
          · rw [if_neg (by omega)] at hq; exact hq
          · rw [if_pos h3] at hq; exact hq
      refine sound ok_M_enough [36] 40 ?_
      refine t_M_apart T _ hA'.1.2.1 ⟨hA'.2.1.2.1, hA'.2.1.2.2.1⟩ (Wy_b hA' hfm hW) (fun T2 hF2 => ?_)
      have hap := Wy_ap hA' hW
      rw [apM_sm hSm] at hap
      rw [hap]
      refine ⟨fun h3 => ?_, fun h3 => ?_⟩
      · exact next T2 a _ hF2 (by unfold enF; rw [if_neg (by omega)])
      · exact next T2 _ _ hF2 (by unfold enF; rw [if_pos h3])
    obtain ⟨r, hr⟩ := wy_first (err := (tl S) 18) ((tl S) 0 20).toNat (fun i hi => (hA.2.2 i (by omega) (by have := hA.1.1.1; omega)).1)
    refine t_M_asTold (th S) _ (by rw [th_0 S (by decide)]; have := hl0.2.1; omega) (by rw [th_0 S (by decide)]; have := hl0.1; omega) ?_
    refine t_M_firstWay (tl S) _ hA (fun T hF hW => ?_)
    exact loop r [] _ (T, 0) hr ⟨hF.mo rfl rfl, hW, rfl⟩
  · have := hQ (th S) (th_fr S)
    unfold aM_enough at this
    rw [if_pos (e18 ▸ h1)] at this
    exact this
def nrF (T : St) (a : Int × Int) (f : Int → Int) : Int × Int := (if apM T f < a.1 then apM T f else a.1, if ¬ apM T f = 1000000 ∧ a.2 < apM T f then apM T f else a.2)
def aM_near (S : St) (what : Int) : Int := if S 0 18 = 0 ∨ ¬ (0 ≤ what ∧ what ≤ 1) then -1 else if what = 1 then ((wyM (tl S)).foldl (nrF (tl S)) (1000000, -1)).2 else if ((wyM (tl S)).foldl (nrF (tl S)) (1000000, -1)).1 = 1000000 then -1 else ((wyM (tl S)).foldl (nrF (tl S)) (1000000, -1)).1
theorem t_M_near (S : St) (what : Int) (Q : Option AV → St → Prop) (hL : ¬ S 0 18 = 0 → ldM S) (hp : plM S) (hQ : ∀ S', Fr [17, 18, 19, 20, 21, 22, 23, 24, 25, 26, 27, 28, 29, 31] [(0, 0), (0, 38)] S S' → Q (some (.inl (aM_near S what))) S') : Smm H_M_near 0 [some (.inr (.inr 0)), some (.inl what), none, none, none] [] S Q := by
  have e18 : th S 0 18 = S 0 18 := th_0 S (by decide)
  have no : (S 0 18 = 0 ∨ ¬ (0 ≤ what ∧ what ≤ 1)) → Q (some (.inl (-1))) (th S) := fun hz => by
    have := hQ (th S) (th_fr S)
    unfold aM_near at this
    rwa [if_pos hz] at this
  refine sound ok_M_near [36] 60 ?_
  refine ⟨fun h1 => no (Or.inl (e18 ▸ h1)), fun h1 => ?_⟩
  replace h1 : ¬ S 0 18 = 0 := fun z => h1 (e18.trans z)
  refine t_M_isPart _ _ _ _ (fun h2 => ?_) (fun h2 => ?_)
  · refine ⟨fun _ => ?_, fun z => absurd z (by decide)⟩
    have hl0 := hL h1
    have hA := tl_mAs hl0 hp
    have hlen := wyM_len hA
    have loop : ∀ (post pre : List (Int → Int)) (f : Int → Int) (q : St × (Int × Int)), wyM (tl S) = pre ++ f :: post → (Fr [21, 22, 23, 24, 25] [] (tl S) q.1 ∧ Wy q.1 f ∧ q.2 = pre.foldl (nrF (tl S)) (1000000, -1)) → Smm H_M_near 36 [some (.inr (.inr 0)), some (.inl what), some (.inl q.2.1), some (.inl q.2.2), none] [] q.1 Q := by
      refine lp_wy (P := fun _ (q : St × (Int × Int)) => Smm H_M_near 36 [some (.inr (.inr 0)), some (.inl what), some (.inl q.2.1), some (.inl q.2.2), none] [] q.1 Q) (fun pre f q => Fr [21, 22, 23, 24, 25] [] (tl S) q.1 ∧ Wy q.1 f ∧ q.2 = pre.foldl (nrF (tl S)) (1000000, -1)) ?_
      rintro pre f post ⟨T, a⟩ hl ⟨hF, hW, ha⟩ ih
      dsimp only at hF hW ha ⊢
      have hSm : Sm (tl S) T := Sm.of hF rfl
      have hA' := mAs_sm hSm hA
      have hfm0 : f ∈ wyM (tl S) := by rw [hl]; exact List.mem_append_right _ List.mem_cons_self
      have hfm : f ∈ wyM T := by rw [wyM_sm hSm]; exact hfm0
      have hpl : pre.length < (wyM (tl S)).length := by rw [hl, List.length_append, List.length_cons]; omega
      have next : ∀ (T2 : St) (b : (Int × Int)) (x : Option AV), Fr [25] [] T T2 → b = (nrF (tl S)) a f → Smm H_M_near 68 [some (.inr (.inr 0)), some (.inl what), some (.inl b.1), some (.inl b.2), x] [] T2 Q := by
        intro T2 b x hF2 hb
        have hb2 : b = (pre ++ [f]).foldl (nrF (tl S)) (1000000, -1) := by rw [List.foldl_append, ← ha, hb]; rfl
        have hSm2 : Sm (tl S) T2 := Sm.of (hF.tr (hF2.mo rfl rfl)) rfl
        refine sound ok_M_near [36, 75] 20 ?_
        refine t_M_nextW T2 pre f post _ (mAs_sm hSm2 hA) (by rw [wyM_sm hSm2]; exact hl) (fun i i0 i1 => ?_) (fun f' post' S3 hp hF3 hW3 => ?_) (fun S3 hp hF3 => ?_)
        · rw [hF2.c 21 rfl]
          exact hW.1 i i0 (by rw [hSm2.1] at i1; rw [hSm.1]; exact i1)
        · refine ⟨fun _ => ?_, fun z => absurd z (by decide)⟩
          exact Smm.sub (ih f' post' (S3, b) hp ⟨(hF.tr (hF2.mo rfl rfl)).tr (hF3.mo rfl rfl), hW3, hb2⟩) ⟨Or.inr rfl, Or.inr rfl, Or.inr rfl, Or.inr rfl, Or.inl rfl, trivial⟩
        · refine ⟨fun z => absurd rfl z, fun _ => ?_⟩
          have hx : b = (wyM (tl S)).foldl (nrF (tl S)) (1000000, -1) := by rw [hl, hp]; exact hb2
          have hFx := (hF.tr (hF2.mo rfl rfl)).tr (hF3.mo rfl rfl)
          rw [hx]
          have hq := hQ S3 ((tl_fr S).tr (hFx.mo rfl rfl))
          unfold aM_near at hq
          rw [if_neg (by omega)] at hq
          refine sound ok_M_near [] 20 ?_
          refine ⟨fun h3 => ?_, fun h3 => ?_⟩
          · rw [if_neg h3] at hq
            refine ⟨fun h4 => ?_, fun h4 => ?_⟩
            · rw [if_neg h4] at hq; exact hq
            · rw [if_pos h4] at hq; exact hq
          · rw [if_pos h3] at hq; exact hq
      refine sound ok_M_near [51] 40 ?_
      refine t_M_apart T _ hA'.1.2.1 ⟨hA'.2.1.2.1, hA'.2.1.2.2.1⟩ (Wy_b hA' hfm hW) (fun T2 hF2 => ?_)
      have hap := Wy_ap hA' hW
      rw [apM_sm hSm] at hap
      rw [hap]
      have rest : ∀ e1 : Int, e1 = (if apM (tl S) f < a.1 then apM (tl S) f else a.1) → Smm H_M_near 51 [some (.inr (.inr 0)), some (.inl what), some (.inl e1), some (.inl a.2), some (.inl (apM (tl S) f))] [] T2 Q := by
        intro e1 he1
        refine sound ok_M_near [68] 40 ?_
        refine ⟨fun h3 => ?_, fun h3 => ?_⟩
        · exact next T2 (e1, a.2) _ hF2 (Prod.ext he1 (by show a.2 = ite _ _ _; rw [if_neg (fun z => z.1 h3)]))
        · refine ⟨fun h4 => ?_, fun h4 => ?_⟩
          · exact next T2 (e1, a.2) _ hF2 (Prod.ext he1 (by show a.2 = ite _ _ _; rw [if_neg (fun z => absurd z.2 (by omega))]))
          · exact next T2 (e1, apM (tl S) f) _ hF2 (Prod.ext he1 (by show apM (tl S) f = ite _ _ _; rw [if_pos ⟨h3, h4⟩]))
      refine ⟨fun h3 => ?_, fun h3 => ?_⟩
      · exact rest a.1 (by rw [if_neg (by omega)])
      · exact rest _ (by rw [if_pos h3])
    obtain ⟨r, hr⟩ := wy_first (err := (tl S) 18) ((tl S) 0 20).toNat (fun i hi => (hA.2.2 i (by omega) (by have := hA.1.1.1; omega)).1)
    refine t_M_asTold (th S) _ (by rw [th_0 S (by decide)]; have := hl0.2.1; omega) (by rw [th_0 S (by decide)]; have := hl0.1; omega) ?_
    refine t_M_firstWay (tl S) _ hA (fun T hF hW => ?_)
    exact loop r [] _ (T, (1000000, -1)) hr ⟨hF.mo rfl rfl, hW, rfl⟩
  · exact ⟨fun z => absurd rfl z, fun _ => no (Or.inr h2)⟩
def wnF (T : St) (g : Int) (a : Int × Int × Int) (f : Int → Int) : Int × Int × Int := (if tnM T (smM T f) g < a.1 then tnM T (smM T f) g else a.1, if ¬ tnM T (smM T f) g = 1000000 ∧ a.2.1 < tnM T (smM T f) g then tnM T (smM T f) g else a.2.1, if tnM T (smM T f) g = 1000000 then a.2.2 + 1 else a.2.2)
theorem wnF_n (T : St) (g : Int) : ∀ (l : List (Int → Int)) (a : Int × Int × Int), 0 ≤ a.2.2 → 0 ≤ (l.foldl (wnF T g) a).2.2 ∧ (l.foldl (wnF T g) a).2.2 ≤ a.2.2 + l.length
  | [], a, h => ⟨h, by simp⟩
  | f :: l, a, h => by
    have h1 : 0 ≤ (wnF T g a f).2.2 ∧ (wnF T g a f).2.2 ≤ a.2.2 + 1 := by unfold wnF; dsimp only; split <;> omega
    have := wnF_n T g l (wnF T g a f) h1.1
    rw [List.foldl_cons, List.length_cons]
    omega
def aM_when (S : St) (g what : Int) : Int := if ¬ (¬ S 0 18 = 0 ∧ 0 ≤ g ∧ g < S 0 19) ∨ ¬ (0 ≤ what ∧ what ≤ 2) then -1000000 else if what = 0 then (if ((wyM (tl S)).foldl (wnF (tl S) g) (1000000, -1000000, 0)).1 = 1000000 then -1000000 else ((wyM (tl S)).foldl (wnF (tl S) g) (1000000, -1000000, 0)).1) else if what = 1 then ((wyM (tl S)).foldl (wnF (tl S) g) (1000000, -1000000, 0)).2.1 else ((wyM (tl S)).foldl (wnF (tl S) g) (1000000, -1000000, 0)).2.2
theorem t_M_when (S : St) (g what : Int) (Q : Option AV → St → Prop) (hL : ¬ S 0 18 = 0 → ldM S) (hp : plM S) (hQ : ∀ S', Fr [17, 18, 19, 20, 21, 22, 23, 24, 25, 26, 27, 28, 29, 31] [(0, 0), (0, 38)] S S' → Q (some (.inl (aM_when S g what))) S') : Smm H_M_when 0 [some (.inr (.inr 0)), some (.inl g), some (.inl what), none, none, none, none] [] S Q := by
  have e18 : th S 0 18 = S 0 18 := th_0 S (by decide)
  have e19 : th S 0 19 = S 0 19 := th_0 S (by decide)
  have no : (¬ (¬ S 0 18 = 0 ∧ 0 ≤ g ∧ g < S 0 19) ∨ ¬ (0 ≤ what ∧ what ≤ 2)) → Q (some (.inl (-1000000))) (th S) := fun hz => by
    have := hQ (th S) (th_fr S)
    unfold aM_when at this
    rwa [if_pos hz] at this
  refine sound ok_M_when [45] 60 ?_
  refine t_M_isGuard (th S) g _ (fun h1 => ?_) (fun h1 => by
    rw [e18, e19] at h1
    exact ⟨fun _ => no (Or.inl h1), fun z => absurd rfl z⟩)
  rw [e18, e19] at h1
  refine ⟨fun z => absurd z (by decide), fun _ => ?_⟩
  refine t_M_isPart _ _ _ _ (fun h2 => ?_) (fun h2 => ?_)
  · refine ⟨fun _ => ?_, fun z => absurd z (by decide)⟩
    have hl0 := hL h1.1
    have hA := tl_mAs hl0 hp
    have hk4 := hl0.1
    have p19 : tl S 0 19 = S 0 19 := tl_0 S (by decide) (by decide)
    have hlen := wyM_len hA
    have loop : ∀ (post pre : List (Int → Int)) (f : Int → Int) (q : St × (Int × Int × Int)), wyM (tl S) = pre ++ f :: post → (Fr [21, 22, 23, 24, 25] [] (tl S) q.1 ∧ Wy q.1 f ∧ q.2 = pre.foldl (wnF (tl S) g) (1000000, -1000000, 0)) → Smm H_M_when 45 [some (.inr (.inr 0)), some (.inl g), some (.inl what), some (.inl q.2.1), some (.inl q.2.2.1), some (.inl q.2.2.2), none] [] q.1 Q := by
      refine lp_wy (P := fun _ (q : St × (Int × Int × Int)) => Smm H_M_when 45 [some (.inr (.inr 0)), some (.inl g), some (.inl what), some (.inl q.2.1), some (.inl q.2.2.1), some (.inl q.2.2.2), none] [] q.1 Q) (fun pre f q => Fr [21, 22, 23, 24, 25] [] (tl S) q.1 ∧ Wy q.1 f ∧ q.2 = pre.foldl (wnF (tl S) g) (1000000, -1000000, 0)) ?_
      rintro pre f post ⟨T, a⟩ hl ⟨hF, hW, ha⟩ ih
      dsimp only at hF hW ha ⊢
      have hSm : Sm (tl S) T := Sm.of hF rfl
      have hA' := mAs_sm hSm hA
      have hfm0 : f ∈ wyM (tl S) := by rw [hl]; exact List.mem_append_right _ List.mem_cons_self
      have hfm : f ∈ wyM T := by rw [wyM_sm hSm]; exact hfm0
      have hpl : pre.length < (wyM (tl S)).length := by rw [hl, List.length_append, List.length_cons]; omega
      have next : ∀ (T2 : St) (b : (Int × Int × Int)) (x : Option AV), Fr [25] [] T T2 → b = (wnF (tl S) g) a f → Smm H_M_when 87 [some (.inr (.inr 0)), some (.inl g), some (.inl what), some (.inl b.1), some (.inl b.2.1), some (.inl b.2.2), x] [] T2 Q := by
        intro T2 b x hF2 hb
        have hb2 : b = (pre ++ [f]).foldl (wnF (tl S) g) (1000000, -1000000, 0) := by rw [List.foldl_append, ← ha, hb]; rfl
        have hSm2 : Sm (tl S) T2 := Sm.of (hF.tr (hF2.mo rfl rfl)) rfl
        refine sound ok_M_when [45, 94] 20 ?_
        refine t_M_nextW T2 pre f post _ (mAs_sm hSm2 hA) (by rw [wyM_sm hSm2]; exact hl) (fun i i0 i1 => ?_) (fun f' post' S3 hp hF3 hW3 => ?_) (fun S3 hp hF3 => ?_)
        · rw [hF2.c 21 rfl]
          exact hW.1 i i0 (by rw [hSm2.1] at i1; rw [hSm.1]; exact i1)
        · refine ⟨fun _ => ?_, fun z => absurd z (by decide)⟩
          exact Smm.sub (ih f' post' (S3, b) hp ⟨(hF.tr (hF2.mo rfl rfl)).tr (hF3.mo rfl rfl), hW3, hb2⟩) ⟨Or.inr rfl, Or.inr rfl, Or.inr rfl, Or.inr rfl, Or.inr rfl, Or.inr rfl, Or.inl rfl, trivial⟩
        · refine ⟨fun z => absurd rfl z, fun _ => ?_⟩
          have hx : b = (wyM (tl S)).foldl (wnF (tl S) g) (1000000, -1000000, 0) := by rw [hl, hp]; exact hb2
          have hFx := (hF.tr (hF2.mo rfl rfl)).tr (hF3.mo rfl rfl)
          rw [hx]
          have hq := hQ S3 ((tl_fr S).tr (hFx.mo rfl rfl))
          unfold aM_when at hq
          rw [if_neg (by omega)] at hq
          refine sound ok_M_when [] 40 ?_
          refine ⟨fun h3 => ?_, fun h3 => ?_⟩
          · rw [if_neg h3] at hq
            refine ⟨fun h4 => ?_, fun h4 => ?_⟩
            · rw [if_neg h4] at hq; exact hq
            · rw [if_pos h4] at hq; exact hq
          · rw [if_pos h3] at hq
            refine ⟨fun h4 => ?_, fun h4 => ?_⟩
            · rw [if_neg h4] at hq; exact hq
            · rw [if_pos h4] at hq; exact hq
      have q19 : T 0 19 = S 0 19 := by rw [hSm.1, p19]
      have hv : T 23 g = tnM (tl S) (smM (tl S) f) g := by rw [hW.2.2 g h1.2.1 (by omega), tnM_sm hSm, smM_sm hSm]
      have hcn := wnF_n (tl S) g pre (1000000, -1000000, 0) (Int.le_refl 0)
      rw [← ha] at hcn
      dsimp only at hcn
      have rest : ∀ (e2 e3 : Int) (x : Option AV), e2 = (wnF (tl S) g a f).2.1 → e3 = (wnF (tl S) g a f).2.2 → Smm H_M_when 78 [some (.inr (.inr 0)), some (.inl g), some (.inl what), some (.inl a.1), some (.inl e2), some (.inl e3), some (.inl (T 23 g))] [] T Q := by
        intro e2 e3 x he2 he3
        refine sound ok_M_when [87] 40 ?_
        refine ⟨fun h3 => ?_, fun h3 => ?_⟩
        · rw [hv] at h3
          exact next T (a.1, e2, e3) _ (Fr.rf _ _ _) (by rw [he2, he3]; unfold wnF; rw [if_neg (by omega)])
        · rw [hv] at h3
          exact next T (T 23 g, e2, e3) _ (Fr.rf _ _ _) (by rw [he2, he3, hv]; unfold wnF; rw [if_pos h3])
      refine sound ok_M_when [78] 60 ?_
      refine ⟨by omega, ?_⟩
      refine ⟨fun h3 => ?_, fun h3 => ?_⟩
      · rw [hv] at h3
        refine ⟨fun h4 => ?_, fun h4 => ?_⟩
        · rw [hv] at h4
          exact rest a.2.1 a.2.2 none (by unfold wnF; dsimp only; rw [if_neg (fun z => absurd z.2 (by omega))]) (by unfold wnF; dsimp only; rw [if_neg h3])
        · rw [hv] at h4
          exact rest _ a.2.2 none (by unfold wnF; dsimp only; rw [if_pos ⟨h3, h4⟩, hv]) (by unfold wnF; dsimp only; rw [if_neg h3])
      · rw [hv] at h3
        exact rest a.2.1 _ none (by unfold wnF; dsimp only; rw [if_neg (fun z => z.1 h3)]) (by unfold wnF; dsimp only; rw [if_pos h3]; unfold i32; omega)
    obtain ⟨r, hr⟩ := wy_first (err := (tl S) 18) ((tl S) 0 20).toNat (fun i hi => (hA.2.2 i (by omega) (by have := hA.1.1.1; omega)).1)
    refine t_M_asTold (th S) _ (by rw [th_0 S (by decide)]; have := hl0.2.1; omega) (by rw [th_0 S (by decide)]; have := hl0.1; omega) ?_
    refine t_M_firstWay (tl S) _ hA (fun T hF hW => ?_)
    exact loop r [] _ (T, (1000000, -1000000, 0)) hr ⟨hF.mo rfl rfl, hW, rfl⟩
  · exact ⟨fun z => absurd rfl z, fun _ => no (Or.inr h2)⟩
end
section
/-! the reference: opening, firstToTurn; moment, gain -/
/-- the first place from i on (d are left) at whose turn it opens: that turn; 1000000: none -/
def moF (need : Nat) (breath : Int) (l : List Int) : Nat → Nat → Int
  | _, 0 => 1000000
  | i, d + 1 => if ¬ l.getD i 0 = 1000000 ∧ l.getD i 0 - l.getD (i + 1 - need) 0 ≤ breath then l.getD i 0 else moF need breath l (i + 1) d
/-- the part at which it opens, by these turns -/
def ogF (need breath : Int) (t : Int → Int) (k : Nat) : Int := moF need.toNat breath (isF t k) (need.toNat - 1) (k + 1 - need.toNat)
theorem ogF_congr {need breath : Int} {t t' : Int → Int} {k : Nat} (h : ∀ j : Int, 0 ≤ j → j < k → t j = t' j) : ogF need breath t k = ogF need breath t' k := by unfold ogF; rw [isF_congr k h]
theorem moF_b {need : Nat} {breath : Int} {l : List Int} {B : Int} (hB : ∀ j : Nat, j < l.length → l.getD j 0 = 1000000 ∨ (-B ≤ l.getD j 0 ∧ l.getD j 0 ≤ B)) : ∀ (d i : Nat), i + d ≤ l.length → moF need breath l i d = 1000000 ∨ (-B ≤ moF need breath l i d ∧ moF need breath l i d ≤ B)
  | 0, i, _ => Or.inl rfl
  | d + 1, i, h => by
    rw [moF]
    split
    · rename_i hz
      have := hB i (by omega)
      omega
    · exact moF_b hB d (i + 1) (by omega)
set_option maxHeartbeats 4000000 in
theorem t_M_opening (S : St) (Q : Option AV → St → Prop) (hk : 0 ≤ S 0 19 ∧ S 0 19 ≤ 4) (hn : 2 ≤ S 0 21 ∧ S 0 21 ≤ 4) (hb : ∀ g, 0 ≤ g → g < S 0 19 → S 23 g = 1000000 ∨ (-1000 ≤ S 23 g ∧ S 23 g ≤ 2000))
    (hQ : ∀ S', Fr [25] [] S S' → Q (some (.inl (ogF (S 0 21) (S 0 22) (S 23) (S 0 19).toNat))) S') : Smm H_M_opening 0 [some (.inr (.inr 0)), none] [] S Q := by
  refine sound ok_M_opening [11] 40 ?_
  refine t_M_sorts S _ hk (fun S' hF hr => ?_)
  have e0 : S' 0 = S 0 := hF.c 0 rfl
  have q19 : S' 0 19 = S 0 19 := by rw [e0]
  have q21 : S' 0 21 = S 0 21 := by rw [e0]
  have q22 : S' 0 22 = S 0 22 := by rw [e0]
  have hl := isF_len (S 23) (S 0 19).toNat
  have hm : ∀ x ∈ isF (S 23) (S 0 19).toNat, x = 1000000 ∨ (-1000 ≤ x ∧ x ≤ 2000) := fun x hx => by
    obtain ⟨j, h1, h2⟩ := (isF_mem _ _).mp hx
    rw [h2]
    exact hb j (by omega) (by omega)
  have hQ' := hQ S' hF
  unfold ogF at hQ'
  generalize isF (S 23) (S 0 19).toNat = l at hr hl hm hQ'
  have hbd : ∀ j : Nat, j < l.length → l.getD j 0 = 1000000 ∨ (-1000 ≤ l.getD j 0 ∧ l.getD j 0 ≤ 2000) := fun j hj => hm _ (by
    rw [List.getD_eq_getElem?_getD, List.getElem?_eq_getElem hj]
    exact List.getElem_mem hj)
  have loop : ∀ (i : Int) (_ : Unit), (S 0 21 - 1 ≤ i ∧ moF (S 0 21).toNat (S 0 22) l i.toNat (S 0 19 - i).toNat = moF (S 0 21).toNat (S 0 22) l ((S 0 21).toNat - 1) ((S 0 19).toNat + 1 - (S 0 21).toNat)) → Smm H_M_opening 11 [some (.inr (.inr 0)), some (.inl i)] [] S' Q := by
    refine lp_up (P := fun i _ => Smm H_M_opening 11 [some (.inr (.inr 0)), some (.inl i)] [] S' Q) (fun i _ => S 0 21 - 1 ≤ i ∧ moF (S 0 21).toNat (S 0 22) l i.toNat (S 0 19 - i).toNat = moF (S 0 21).toNat (S 0 22) l ((S 0 21).toNat - 1) ((S 0 19).toNat + 1 - (S 0 21).toNat)) (S 0 19) ?_ ?_
    · rintro i - hi ⟨hi2, hi3⟩
      refine sound ok_M_opening [11] 20 ?_
      refine ⟨fun _ => ?_, fun h3 => absurd h3 (by omega)⟩
      rw [← hi3, show (S 0 19 - i).toNat = 0 by omega, moF] at hQ'
      exact hQ'
    · rintro i - hi ⟨hi2, hi3⟩ ih
      have hri := hr i.toNat (by omega)
      rw [show ((i.toNat : Nat) : Int) = i by omega] at hri
      have hri2 := hr (i - S 0 21 + 1).toNat (by omega)
      rw [show (((i - S 0 21 + 1).toNat : Nat) : Int) = i - S 0 21 + 1 by omega] at hri2
      have e1 : i32 (i32 (i - S' 0 21) + 1) = i - S 0 21 + 1 := by rw [q21]; unfold i32; omega
      have hb1 := hbd i.toNat (by omega)
      have hb2 := hbd (i - S 0 21 + 1).toNat (by omega)
      have e2 : i32 (S' 25 i - S' 25 (i32 (i32 (i - S' 0 21) + 1))) = l.getD i.toNat 0 - l.getD (i - S 0 21 + 1).toNat 0 := by rw [e1, hri, hri2]; unfold i32; omega
      rw [show (S 0 19 - i).toNat = (S 0 19 - (i + 1)).toNat + 1 by omega, moF, show i.toNat + 1 - (S 0 21).toNat = (i - S 0 21 + 1).toNat by omega, show i.toNat + 1 = (i + 1).toNat by omega] at hi3
      have go : ¬ (¬ l.getD i.toNat 0 = 1000000 ∧ l.getD i.toNat 0 - l.getD (i - S 0 21 + 1).toNat 0 ≤ S 0 22) → Smm H_M_opening 11 [some (.inr (.inr 0)), some (.inl (i32 (i + 1)))] [] S' Q := fun hz => by
        rw [if_neg hz] at hi3
        exact Smm.sub (ih () ⟨by omega, hi3⟩) ⟨Or.inr rfl, Or.inr (sI (by unfold i32; omega)), trivial⟩
      refine sound ok_M_opening [11] 60 ?_
      refine ⟨fun h3 => absurd h3 (by omega), fun _ => ?_⟩
      refine ⟨by omega, ?_⟩
      refine ⟨fun h3 => ?_, fun h3 => ?_⟩
      · rw [hri] at h3
        exact go (fun z => z.1 h3)
      · rw [hri] at h3
        refine ⟨by omega, ?_⟩
        refine ⟨by rw [e1]; omega, ?_⟩
        refine ⟨fun h4 => ?_, fun h4 => ?_⟩
        · rw [e2, q22] at h4
          exact go (fun z => absurd z.2 (by omega))
        · rw [e2, q22] at h4
          refine ⟨by omega, ?_⟩
          rw [if_pos ⟨h3, h4⟩] at hi3
          rw [← hi3, ← hri] at hQ'
          exact hQ'
  refine Smm.sub (loop (S 0 21 - 1) () ⟨Int.le_refl _, ?_⟩) ⟨Or.inr rfl, Or.inr (sI (by rw [q21]; unfold i32; omega)), trivial⟩
  rw [show (S 0 21 - 1).toNat = (S 0 21).toNat - 1 by omega, show (S 0 19 - (S 0 21 - 1)).toNat = (S 0 19).toNat + 1 - (S 0 21).toNat by omega]
/-- who turns first (of several the lowest); -1: nobody -/
def ftF (t : Int → Int) : Nat → Int
  | 0 => -1
  | g + 1 => if ¬ t g = 1000000 ∧ (ftF t g < 0 ∨ t g < t (ftF t g)) then g else ftF t g
theorem ftF_b (t : Int → Int) : ∀ k : Nat, -1 ≤ ftF t k ∧ ftF t k < k
  | 0 => by show -1 ≤ (-1 : Int) ∧ (-1 : Int) < 0; omega
  | k + 1 => by
    have := ftF_b t k
    rw [ftF]
    split <;> omega
theorem ftF_congr {t t' : Int → Int} : ∀ (k : Nat), (∀ j : Int, 0 ≤ j → j < k → t j = t' j) → ftF t k = ftF t' k
  | 0, _ => rfl
  | k + 1, h => by
    have ih := ftF_congr k (fun j h0 hj => h j h0 (by omega))
    have hb := ftF_b t' k
    rw [ftF, ftF, ih, h k (by omega) (by omega)]
    by_cases hz : ftF t' k < 0
    · simp [hz]
    · rw [h (ftF t' k) (by omega) (by omega)]
theorem t_M_firstToTurn (S : St) (Q : Option AV → St → Prop) (hk : 0 ≤ S 0 19 ∧ S 0 19 ≤ 4) (hQ : Q (some (.inl (ftF (S 23) (S 0 19).toNat))) S) : Smm H_M_firstToTurn 0 [some (.inr (.inr 0)), none, none] [] S Q := by
  have loop : ∀ (i : Int) (_ : Unit), (0 ≤ i ∧ i ≤ S 0 19) → Smm H_M_firstToTurn 4 [some (.inr (.inr 0)), some (.inl (ftF (S 23) i.toNat)), some (.inl i)] [] S Q := by
    refine lp_up (P := fun i _ => Smm H_M_firstToTurn 4 [some (.inr (.inr 0)), some (.inl (ftF (S 23) i.toNat)), some (.inl i)] [] S Q) (fun i _ => 0 ≤ i ∧ i ≤ S 0 19) (S 0 19) ?_ ?_
    · rintro i - hi hi2
      refine sound ok_M_firstToTurn [4] 20 ?_
      refine ⟨fun _ => ?_, fun h3 => absurd h3 (by omega)⟩
      rw [show i = S 0 19 by omega]
      exact hQ
    · rintro i - hi hi2 ih
      obtain ⟨k, rfl⟩ : ∃ k : Nat, i = k := ⟨i.toNat, by omega⟩
      have ih := ih () (by omega)
      rw [show ((k : Int) + 1).toNat = k + 1 by omega, ftF] at ih
      rw [show ((k : Int)).toNat = k by omega]
      have hb := ftF_b (S 23) k
      have no : ¬ (¬ S 23 k = 1000000 ∧ (ftF (S 23) k < 0 ∨ S 23 k < S 23 (ftF (S 23) k))) → Smm H_M_firstToTurn 4 [some (.inr (.inr 0)), some (.inl (ftF (S 23) k)), some (.inl (i32 ((k : Int) + 1)))] [] S Q := fun hz => by
        rw [if_neg hz] at ih
        exact Smm.sub ih ⟨Or.inr rfl, Or.inr rfl, Or.inr (sI (by unfold i32; omega)), trivial⟩
      have yes : (¬ S 23 k = 1000000 ∧ (ftF (S 23) k < 0 ∨ S 23 k < S 23 (ftF (S 23) k))) → Smm H_M_firstToTurn 4 [some (.inr (.inr 0)), some (.inl (k : Int)), some (.inl (i32 ((k : Int) + 1)))] [] S Q := fun hz => by
        rw [if_pos hz] at ih
        exact Smm.sub ih ⟨Or.inr rfl, Or.inr rfl, Or.inr (sI (by unfold i32; omega)), trivial⟩
      refine sound ok_M_firstToTurn [4] 60 ?_
      refine ⟨fun h3 => absurd h3 (by omega), fun _ => ?_⟩
      refine ⟨by omega, ?_⟩
      refine ⟨fun h3 => no (fun z => z.1 h3), fun h3 => ?_⟩
      refine ⟨fun h4 => yes ⟨h3, Or.inl h4⟩, fun h4 => ?_⟩
      refine ⟨by omega, ?_⟩
      refine ⟨by omega, ?_⟩
      exact ⟨fun h5 => no (fun z => by rcases z.2 with q | q <;> omega), fun h5 => yes ⟨h3, Or.inr h5⟩⟩
  refine sound ok_M_firstToTurn [4] 20 ?_
  exact loop 0 () (by omega)
/-- who turns first on a way -/
def fsM (T : St) (f : Int → Int) : Int := ftF (tnM T (smM T f)) (T 0 19).toNat
def gnF (T : St) (g : Int) (a : Int) (f : Int → Int) : Int := if opM T f then a + T 7 g else if fsM T f = g then a + T 8 g else a
theorem gnF_b {T : St} {g : Int} (h : 0 ≤ T 7 g ∧ T 7 g ≤ 99 ∧ 0 ≤ T 8 g ∧ T 8 g ≤ 99) : ∀ (l : List (Int → Int)) (a : Int), 0 ≤ a → 0 ≤ l.foldl (gnF T g) a ∧ l.foldl (gnF T g) a ≤ a + 99 * l.length
  | [], a, h0 => ⟨h0, by simp⟩
  | f :: l, a, h0 => by
    have h1 : 0 ≤ gnF T g a f ∧ gnF T g a f ≤ a + 99 := by
      unfold gnF
      split
      · omega
      · split <;> omega
    have := gnF_b h l (gnF T g a f) h1.1
    rw [List.foldl_cons, List.length_cons]
    omega
def aM_gain (S : St) (g : Int) : Int := if ¬ (¬ S 0 18 = 0 ∧ 0 ≤ g ∧ g < S 0 19) then -1 else (wyM (tl S)).foldl (gnF (tl S) g) 0
theorem t_M_gain (S : St) (g : Int) (Q : Option AV → St → Prop) (hL : ¬ S 0 18 = 0 → ldM S) (hp : plM S) (hQ : ∀ S', Fr [17, 18, 19, 20, 21, 22, 23, 24, 25, 26, 27, 28, 29, 31] [(0, 0), (0, 38)] S S' → Q (some (.inl (aM_gain S g))) S') : Smm H_M_gain 0 [some (.inr (.inr 0)), some (.inl g), none] [] S Q := by
  have e18 : th S 0 18 = S 0 18 := th_0 S (by decide)
  have e19 : th S 0 19 = S 0 19 := th_0 S (by decide)
  refine sound ok_M_gain [25] 60 ?_
  refine t_M_isGuard (th S) g _ (fun h1 => ?_) (fun h1 => ?_)
  · rw [e18, e19] at h1
    refine ⟨fun _ => ?_, fun z => absurd z (by decide)⟩
    have hl0 := hL h1.1
    have hA := tl_mAs hl0 hp
    have hk4 := hl0.1
    have p19 : tl S 0 19 = S 0 19 := tl_0 S (by decide) (by decide)
    have p7 : tl S 7 = S 7 := by unfold tl; rw [asS_c _ (by decide), th_c S (by decide)]
    have p8 : tl S 8 = S 8 := by unfold tl; rw [asS_c _ (by decide), th_c S (by decide)]
    have hpt := hl0.2.2.2.2.2.2 g h1.2.1 h1.2.2
    have hlen := wyM_len hA
    have loop : ∀ (post pre : List (Int → Int)) (f : Int → Int) (q : St × Int), wyM (tl S) = pre ++ f :: post → (Fr [21, 22, 23, 24, 25] [] (tl S) q.1 ∧ Wy q.1 f ∧ q.2 = pre.foldl (gnF (tl S) g) 0) → Smm H_M_gain 25 [some (.inr (.inr 0)), some (.inl g), some (.inl q.2)] [] q.1 Q := by
      refine lp_wy (P := fun _ (q : St × Int) => Smm H_M_gain 25 [some (.inr (.inr 0)), some (.inl g), some (.inl q.2)] [] q.1 Q) (fun pre f q => Fr [21, 22, 23, 24, 25] [] (tl S) q.1 ∧ Wy q.1 f ∧ q.2 = pre.foldl (gnF (tl S) g) 0) ?_
      rintro pre f post ⟨T, a⟩ hl ⟨hF, hW, ha⟩ ih
      dsimp only at hF hW ha ⊢
      have hSm : Sm (tl S) T := Sm.of hF rfl
      have hA' := mAs_sm hSm hA
      have hfm0 : f ∈ wyM (tl S) := by rw [hl]; exact List.mem_append_right _ List.mem_cons_self
      have hfm : f ∈ wyM T := by rw [wyM_sm hSm]; exact hfm0
      have hpl : pre.length < (wyM (tl S)).length := by rw [hl, List.length_append, List.length_cons]; omega
      have next : ∀ (T2 : St) (b : Int), Fr [25] [] T T2 → b = (gnF (tl S) g) a f → Smm H_M_gain 61 [some (.inr (.inr 0)), some (.inl g), some (.inl b)] [] T2 Q := by
        intro T2 b hF2 hb
        have hb2 : b = (pre ++ [f]).foldl (gnF (tl S) g) 0 := by rw [List.foldl_append, ← ha, hb]; rfl
        have hSm2 : Sm (tl S) T2 := Sm.of (hF.tr (hF2.mo rfl rfl)) rfl
        refine sound ok_M_gain [25, 68] 20 ?_
        refine t_M_nextW T2 pre f post _ (mAs_sm hSm2 hA) (by rw [wyM_sm hSm2]; exact hl) (fun i i0 i1 => ?_) (fun f' post' S3 hp hF3 hW3 => ?_) (fun S3 hp hF3 => ?_)
        · rw [hF2.c 21 rfl]
          exact hW.1 i i0 (by rw [hSm2.1] at i1; rw [hSm.1]; exact i1)
        · refine ⟨fun _ => ?_, fun z => absurd z (by decide)⟩
          exact Smm.sub (ih f' post' (S3, b) hp ⟨(hF.tr (hF2.mo rfl rfl)).tr (hF3.mo rfl rfl), hW3, hb2⟩) ⟨Or.inr rfl, Or.inr rfl, Or.inr rfl, trivial⟩
        · refine ⟨fun z => absurd rfl z, fun _ => ?_⟩
          have hx : b = (wyM (tl S)).foldl (gnF (tl S) g) 0 := by rw [hl, hp]; exact hb2
          have hFx := (hF.tr (hF2.mo rfl rfl)).tr (hF3.mo rfl rfl)
          rw [hx]
          have hq := hQ S3 ((tl_fr S).tr (hFx.mo rfl rfl))
          unfold aM_gain at hq
          rw [if_neg (by omega)] at hq
          refine sound ok_M_gain [] 20 ?_
          exact hq
      have q19 : T 0 19 = S 0 19 := by rw [hSm.1, p19]
      have hcn := gnF_b (T := tl S) (g := g) (by rw [p7, p8]; exact hpt) pre 0 (Int.le_refl 0)
      rw [← ha] at hcn
      have hap := Wy_ap hA' hW
      rw [apM_sm hSm] at hap
      refine sound ok_M_gain [61] 60 ?_
      refine t_M_doesOpen T _ hA'.1.2.1 ⟨hA'.2.1.2.1, hA'.2.1.2.2.1⟩ (Wy_b hA' hfm hW) (fun T2 hF2 hop => ?_) (fun T2 hF2 hop => ?_)
      · rw [hap, hSm.1] at hop
        have ho : opM (tl S) f = true := decide_eq_true hop
        have r7 : T2 7 = S 7 := by rw [hF2.c 7 rfl, hF.c 7 rfl, p7]
        refine ⟨fun z => absurd z (by decide), fun _ => ?_⟩
        refine ⟨by omega, ?_⟩
        refine next T2 _ hF2 ?_
        unfold gnF
        rw [ho, r7, p7]
        simp only [if_true]
        unfold i32
        omega
      · rw [hap, hSm.1] at hop
        have ho : opM (tl S) f = false := decide_eq_false hop
        refine ⟨fun _ => ?_, fun z => absurd rfl z⟩
        have r23 : T2 23 = T 23 := hF2.c 23 rfl
        have r0 : T2 0 = T 0 := hF2.c 0 rfl
        have r19 : T2 0 19 = S 0 19 := by rw [r0, q19]
        have efs : ftF (T2 23) (T2 0 19).toNat = fsM (tl S) f := by
          unfold fsM
          rw [r23, r19, p19]
          refine ftF_congr _ (fun j j0 j1 => ?_)
          rw [hW.2.2 j j0 (by omega), tnM_sm hSm, smM_sm hSm]
        refine t_M_firstToTurn T2 _ (by rw [r19]; omega) ?_
        rw [efs]
        refine ⟨fun h3 => ?_, fun h3 => ?_⟩
        · refine next T2 _ hF2 ?_
          unfold gnF
          rw [ho, if_neg (by decide), if_neg h3]
        · have r8 : T2 8 = S 8 := by rw [hF2.c 8 rfl, hF.c 8 rfl, p8]
          refine ⟨by omega, ?_⟩
          refine next T2 _ hF2 ?_
          unfold gnF
          rw [ho, if_neg (by decide), if_pos h3, r8, p8]
          unfold i32
          omega
    obtain ⟨r, hr⟩ := wy_first (err := (tl S) 18) ((tl S) 0 20).toNat (fun i hi => (hA.2.2 i (by omega) (by have := hA.1.1.1; omega)).1)
    refine t_M_asTold (th S) _ (by rw [th_0 S (by decide)]; have := hl0.2.1; omega) (by rw [th_0 S (by decide)]; have := hl0.1; omega) ?_
    refine t_M_firstWay (tl S) _ hA (fun T hF hW => ?_)
    exact loop r [] _ (T, 0) hr ⟨hF.mo rfl rfl, hW, rfl⟩
  · rw [e18, e19] at h1
    refine ⟨fun z => absurd rfl z, fun _ => ?_⟩
    have := hQ (th S) (th_fr S)
    unfold aM_gain at this
    rw [if_pos h1] at this
    exact this
end
section
/-! the reference: moment; misfits, fits, lies -/
theorem i32_l (a b : Int) : i32 (i32 a + b) = i32 (a + b) := by unfold i32; omega
theorem i32_i (a : Int) : i32 (i32 a) = i32 a := by unfold i32; omega
/-- the part at which it opens on a way -/
def ogM (T : St) (f : Int → Int) : Int := ogF (T 0 21) (T 0 22) (tnM T (smM T f)) (T 0 19).toNat
def msF (T : St) (a : Int × Int × Int) (f : Int → Int) : Int × Int × Int := (if ogM T f < a.1 then ogM T f else a.1, if ¬ ogM T f = 1000000 ∧ a.2.1 < ogM T f then ogM T f else a.2.1, if ogM T f = 1000000 then a.2.2 else i32 (a.2.2 + ogM T f))
def aM_moment (S : St) (what : Int) : Int := if S 0 18 = 0 ∨ ¬ (0 ≤ what ∧ what ≤ 2) then -1000000 else
  if ((wyM (tl S)).foldl (msF (tl S)) (1000000, -1000000, 0)).1 = 1000000 then -1000000 else if what = 0 then ((wyM (tl S)).foldl (msF (tl S)) (1000000, -1000000, 0)).1 else if what = 1 then ((wyM (tl S)).foldl (msF (tl S)) (1000000, -1000000, 0)).2.1 else ((wyM (tl S)).foldl (msF (tl S)) (1000000, -1000000, 0)).2.2
theorem t_M_moment (S : St) (what : Int) (Q : Option AV → St → Prop) (hL : ¬ S 0 18 = 0 → ldM S) (hp : plM S) (hQ : ∀ S', Fr [17, 18, 19, 20, 21, 22, 23, 24, 25, 26, 27, 28, 29, 31] [(0, 0), (0, 38)] S S' → Q (some (.inl (aM_moment S what))) S') : Smm H_M_moment 0 [some (.inr (.inr 0)), some (.inl what), none, none, none, none] [] S Q := by
  have e18 : th S 0 18 = S 0 18 := th_0 S (by decide)
  have no : (S 0 18 = 0 ∨ ¬ (0 ≤ what ∧ what ≤ 2)) → Q (some (.inl (-1000000))) (th S) := fun hz => by
    have := hQ (th S) (th_fr S)
    unfold aM_moment at this
    rwa [if_pos hz] at this
  refine sound ok_M_moment [43] 60 ?_
  refine ⟨fun h1 => no (Or.inl (e18 ▸ h1)), fun h1 => ?_⟩
  replace h1 : ¬ S 0 18 = 0 := fun z => h1 (e18.trans z)
  refine t_M_isPart _ _ _ _ (fun h2 => ?_) (fun h2 => ?_)
  · refine ⟨fun _ => ?_, fun z => absurd z (by decide)⟩
    have hl0 := hL h1
    have hA := tl_mAs hl0 hp
    have p19 : tl S 0 19 = S 0 19 := tl_0 S (by decide) (by decide)
    have hlen := wyM_len hA
    have loop : ∀ (post pre : List (Int → Int)) (f : Int → Int) (q : St × (Int × Int × Int)), wyM (tl S) = pre ++ f :: post → (Fr [21, 22, 23, 24, 25] [] (tl S) q.1 ∧ Wy q.1 f ∧ q.2 = pre.foldl (msF (tl S)) (1000000, -1000000, 0)) → Smm H_M_moment 43 [some (.inr (.inr 0)), some (.inl what), some (.inl q.2.1), some (.inl q.2.2.1), some (.inl q.2.2.2), none] [] q.1 Q := by
      refine lp_wy (P := fun _ (q : St × (Int × Int × Int)) => Smm H_M_moment 43 [some (.inr (.inr 0)), some (.inl what), some (.inl q.2.1), some (.inl q.2.2.1), some (.inl q.2.2.2), none] [] q.1 Q) (fun pre f q => Fr [21, 22, 23, 24, 25] [] (tl S) q.1 ∧ Wy q.1 f ∧ q.2 = pre.foldl (msF (tl S)) (1000000, -1000000, 0)) ?_
      rintro pre f post ⟨T, a⟩ hl ⟨hF, hW, ha⟩ ih
      dsimp only at hF hW ha ⊢
      have hSm : Sm (tl S) T := Sm.of hF rfl
      have hA' := mAs_sm hSm hA
      have hfm0 : f ∈ wyM (tl S) := by rw [hl]; exact List.mem_append_right _ List.mem_cons_self
      have hfm : f ∈ wyM T := by rw [wyM_sm hSm]; exact hfm0
      have hpl : pre.length < (wyM (tl S)).length := by rw [hl, List.length_append, List.length_cons]; omega
      have next : ∀ (T2 : St) (b : (Int × Int × Int)) (x : Option AV), Fr [25] [] T T2 → b = (msF (tl S)) a f → Smm H_M_moment 82 [some (.inr (.inr 0)), some (.inl what), some (.inl b.1), some (.inl b.2.1), some (.inl b.2.2), x] [] T2 Q := by
        intro T2 b x hF2 hb
        have hb2 : b = (pre ++ [f]).foldl (msF (tl S)) (1000000, -1000000, 0) := by rw [List.foldl_append, ← ha, hb]; rfl
        have hSm2 : Sm (tl S) T2 := Sm.of (hF.tr (hF2.mo rfl rfl)) rfl
        refine sound ok_M_moment [43, 89] 20 ?_
        refine t_M_nextW T2 pre f post _ (mAs_sm hSm2 hA) (by rw [wyM_sm hSm2]; exact hl) (fun i i0 i1 => ?_) (fun f' post' S3 hp hF3 hW3 => ?_) (fun S3 hp hF3 => ?_)
        · rw [hF2.c 21 rfl]
          exact hW.1 i i0 (by rw [hSm2.1] at i1; rw [hSm.1]; exact i1)
        · refine ⟨fun _ => ?_, fun z => absurd z (by decide)⟩
          exact Smm.sub (ih f' post' (S3, b) hp ⟨(hF.tr (hF2.mo rfl rfl)).tr (hF3.mo rfl rfl), hW3, hb2⟩) ⟨Or.inr rfl, Or.inr rfl, Or.inr rfl, Or.inr rfl, Or.inr rfl, Or.inl rfl, trivial⟩
        · refine ⟨fun z => absurd rfl z, fun _ => ?_⟩
          have hx : b = (wyM (tl S)).foldl (msF (tl S)) (1000000, -1000000, 0) := by rw [hl, hp]; exact hb2
          have hFx := (hF.tr (hF2.mo rfl rfl)).tr (hF3.mo rfl rfl)
          rw [hx]
          have hq := hQ S3 ((tl_fr S).tr (hFx.mo rfl rfl))
          unfold aM_moment at hq
          rw [if_neg (by omega)] at hq
          refine sound ok_M_moment [] 20 ?_
          refine ⟨fun h3 => ?_, fun h3 => ?_⟩
          · rw [if_neg h3] at hq
            refine ⟨fun h4 => ?_, fun h4 => ?_⟩
            · rw [if_neg h4] at hq
              refine ⟨fun h5 => ?_, fun h5 => ?_⟩
              · rw [if_neg h5] at hq; exact hq
              · rw [if_pos h5] at hq; exact hq
            · rw [if_pos h4] at hq; exact hq
          · rw [if_pos h3] at hq; exact hq
      have eog : ogF (T 0 21) (T 0 22) (T 23) (T 0 19).toNat = ogM (tl S) f := by
        unfold ogM
        rw [hSm.1]
        refine ogF_congr (fun j j0 j1 => ?_)
        have hk0 := hA.1.2.1
        rw [hW.2.2 j j0 (by rw [hSm.1]; omega), tnM_sm hSm, smM_sm hSm]
      refine sound ok_M_moment [58] 40 ?_
      refine t_M_opening T _ hA'.1.2.1 ⟨hA'.2.1.2.1, hA'.2.1.2.2.1⟩ (Wy_b hA' hfm hW) (fun T2 hF2 => ?_)
      rw [eog]
      generalize hv : ogM (tl S) f = v
      have rest : ∀ (e1 : Int), e1 = (msF (tl S) a f).1 → Smm H_M_moment 58 [some (.inr (.inr 0)), some (.inl what), some (.inl e1), some (.inl a.2.1), some (.inl a.2.2), some (.inl v)] [] T2 Q := by
        intro e1 he1
        refine sound ok_M_moment [82] 40 ?_
        refine ⟨fun h3 => ?_, fun h3 => ?_⟩
        · exact next T2 (e1, a.2.1, a.2.2) _ hF2 (by rw [he1]; unfold msF; dsimp only; rw [hv, if_neg (c := ¬ v = 1000000 ∧ a.2.1 < v) (fun z => z.1 h3), if_pos h3])
        · refine ⟨fun h4 => ?_, fun h4 => ?_⟩
          · exact next T2 (e1, a.2.1, i32 (a.2.2 + v)) _ hF2 (by rw [he1]; unfold msF; dsimp only; rw [hv, if_neg (c := ¬ v = 1000000 ∧ a.2.1 < v) (fun z => absurd z.2 (by omega)), if_neg h3])
          · exact next T2 (e1, v, i32 (a.2.2 + v)) _ hF2 (by rw [he1]; unfold msF; dsimp only; rw [hv, if_pos (c := ¬ v = 1000000 ∧ a.2.1 < v) ⟨h3, h4⟩, if_neg h3])
      refine ⟨fun h3 => ?_, fun h3 => ?_⟩
      · exact rest a.1 (by unfold msF; dsimp only; rw [hv, if_neg (by omega)])
      · exact rest v (by unfold msF; dsimp only; rw [hv, if_pos h3])
    obtain ⟨r, hr⟩ := wy_first (err := (tl S) 18) ((tl S) 0 20).toNat (fun i hi => (hA.2.2 i (by omega) (by have := hA.1.1.1; omega)).1)
    refine t_M_asTold (th S) _ (by rw [th_0 S (by decide)]; have := hl0.2.1; omega) (by rw [th_0 S (by decide)]; have := hl0.1; omega) ?_
    refine t_M_firstWay (tl S) _ hA (fun T hF hW => ?_)
    exact loop r [] _ (T, (1000000, -1000000, 0)) hr ⟨hF.mo rfl rfl, hW, rfl⟩
  · exact ⟨fun z => absurd rfl z, fun _ => no (Or.inr h2)⟩
end
section
/-! bits -/
theorem bv_nat {a : Nat} (h : a < 2147483648) : (Int32.ofInt (a : Int)).toBitVec = BitVec.ofNat 32 a := by
  show BitVec.ofInt 32 (a : Int) = BitVec.ofNat 32 a
  exact BitVec.ofInt_natCast 32 a
theorem toInt_nat {x : BitVec 32} {n : Nat} (h : x.toNat = n) (hn : n < 2147483648) : x.toInt = (n : Int) := by
  rw [BitVec.toInt_eq_toNat_cond, h, if_pos (by omega)]
theorem ior_nat {a b : Nat} (ha : a < 2147483648) (hb : b < 2147483648) : ior (a : Int) (b : Int) = ((a ||| b : Nat) : Int) := by
  show ((Int32.ofInt (a : Int)).toBitVec ||| (Int32.ofInt (b : Int)).toBitVec).toInt = _
  rw [bv_nat ha, bv_nat hb]
  refine toInt_nat ?_ (Nat.or_lt_two_pow (n := 31) ha hb)
  rw [BitVec.toNat_or, BitVec.toNat_ofNat, BitVec.toNat_ofNat, Nat.mod_eq_of_lt (by omega), Nat.mod_eq_of_lt (by omega)]
theorem iand_nat {a b : Nat} (ha : a < 2147483648) (hb : b < 2147483648) : iand (a : Int) (b : Int) = ((a &&& b : Nat) : Int) := by
  show ((Int32.ofInt (a : Int)).toBitVec &&& (Int32.ofInt (b : Int)).toBitVec).toInt = _
  rw [bv_nat ha, bv_nat hb]
  refine toInt_nat ?_ (Nat.and_lt_two_pow (n := 31) a hb)
  rw [BitVec.toNat_and, BitVec.toNat_ofNat, BitVec.toNat_ofNat, Nat.mod_eq_of_lt (by omega), Nat.mod_eq_of_lt (by omega)]
theorem sh_amt : ∀ k : Nat, k < 32 → ((Int32.ofInt (k : Int) &&& 31).toBitVec.smod 32).toNat = k := by
  intro k hk
  have : k = 0 ∨ k = 1 ∨ k = 2 ∨ k = 3 ∨ k = 4 ∨ k = 5 ∨ k = 6 ∨ k = 7 ∨ k = 8 ∨ k = 9 ∨ k = 10 ∨ k = 11 ∨ k = 12 ∨ k = 13 ∨ k = 14 ∨ k = 15 ∨ k = 16 ∨ k = 17 ∨ k = 18 ∨ k = 19 ∨ k = 20 ∨ k = 21 ∨ k = 22 ∨ k = 23 ∨ k = 24 ∨ k = 25 ∨ k = 26 ∨ k = 27 ∨ k = 28 ∨ k = 29 ∨ k = 30 ∨ k = 31 := by omega
  rcases this with rfl | rfl | rfl | rfl | rfl | rfl | rfl | rfl | rfl | rfl | rfl | rfl | rfl | rfl | rfl | rfl | rfl | rfl | rfl | rfl | rfl | rfl | rfl | rfl | rfl | rfl | rfl | rfl | rfl | rfl | rfl | rfl <;> rfl
theorem ishr_bv (a : Int) {k : Nat} (hk : k < 32) : ishr a (k : Int) = ((BitVec.ofInt 32 a).sshiftRight k).toInt := by
  show ((Int32.ofInt a).toBitVec.sshiftRight ((Int32.ofInt (k : Int) &&& 31).toBitVec.smod 32).toNat).toInt = _
  rw [sh_amt k hk]
  rfl
theorem ishl_bv (a : Int) {k : Nat} (hk : k < 32) : ishl a (k : Int) = ((BitVec.ofInt 32 a) <<< k).toInt := by
  show ((Int32.ofInt a).toBitVec <<< ((Int32.ofInt (k : Int) &&& 31).toBitVec.smod 32).toNat).toInt = _
  rw [sh_amt k hk]
  rfl
theorem ishr_nat {a k : Nat} (ha : a < 2147483648) (hk : k < 32) : ishr (a : Int) (k : Int) = ((a / 2 ^ k : Nat) : Int) := by
  rw [ishr_bv _ hk, BitVec.toInt_sshiftRight, BitVec.ofInt_natCast, toInt_nat (n := a) (by rw [BitVec.toNat_ofNat, Nat.mod_eq_of_lt (by omega)]) ha, Int.shiftRight_eq_div_pow]
  norm_cast
theorem ishl_nat {k : Nat} (hk : k ≤ 30) : ishl 1 (k : Int) = ((2 ^ k : Nat) : Int) := by
  have h2 : 2 ^ k ≤ 2 ^ 30 := Nat.pow_le_pow_right (by omega) hk
  rw [ishl_bv _ (by omega)]
  refine toInt_nat ?_ (by omega)
  rw [BitVec.toNat_shiftLeft, show (BitVec.ofInt 32 1).toNat = 1 from rfl, Nat.shiftLeft_eq, Nat.one_mul, Nat.mod_eq_of_lt (by omega)]
theorem iand1 {a : Nat} (ha : a < 2147483648) : iand (a : Int) 1 = ((a % 2 : Nat) : Int) := by
  have := iand_nat (b := 1) ha (by omega)
  rw [show ((1 : Nat) : Int) = 1 from rfl] at this
  rw [this, Nat.and_one_is_mod]
/-- bit k of a -/
theorem bit_nat {a k : Nat} (ha : a < 2147483648) (hk : k < 32) : iand (ishr (a : Int) (k : Int)) 1 = ((a / 2 ^ k % 2 : Nat) : Int) := by
  rw [ishr_nat ha hk, iand1 (Nat.lt_of_le_of_lt (Nat.div_le_self _ _) ha)]
theorem bitF_add {p : Nat → Bool} : ∀ k : Nat, k ≤ 31 → ∃ x : Nat, bitF p k = (x : Int) ∧ x < 2 ^ k ∧ ∀ j : Nat, x / 2 ^ j % 2 = if j < k ∧ p j = true then 1 else 0
  | 0, _ => ⟨0, rfl, by simp, fun j => by simp⟩
  | k + 1, hk => by
    obtain ⟨x, h1, h2, h3⟩ := bitF_add (p := p) k (by omega)
    have hp : 2 ^ k ≤ 2 ^ 30 := Nat.pow_le_pow_right (by omega) (by omega)
    have h2k : 2 ^ (k + 1) = 2 ^ k * 2 := Nat.pow_succ 2 k
    rw [bitF]
    by_cases hz : p k = true
    · rw [if_pos hz, h1, ishl_nat (by omega), ior_nat (by omega) (by omega)]
      have he : x ||| 2 ^ k = 2 ^ k + x := by
        rw [Nat.or_comm]
        have := Nat.two_pow_add_eq_or_of_lt h2 1
        rw [Nat.mul_one] at this
        exact this.symm
      rw [he]
      refine ⟨_, rfl, by omega, fun j => ?_⟩
      by_cases hj : j < k
      · have h4 := h3 j
        obtain ⟨d, rfl⟩ : ∃ d, k = j + 1 + d := ⟨k - (j + 1), by omega⟩
        have e : 2 ^ (j + 1 + d) + x = x + 2 ^ j * (2 * 2 ^ d) := by rw [Nat.pow_add, Nat.pow_succ, Nat.add_comm, Nat.mul_assoc]
        rw [e, Nat.add_mul_div_left _ _ (Nat.pow_pos (by omega)), Nat.add_mul_mod_self_left, h4]
        simp [show j < j + 1 + d + 1 by omega, show j < j + 1 + d by omega]
      · by_cases hjk : j = k
        · subst hjk
          rw [show 2 ^ j + x = x + 2 ^ j * 1 by omega, Nat.add_mul_div_left _ _ (Nat.pow_pos (by omega)), Nat.div_eq_of_lt h2]
          simp [hz]
        · have : 2 ^ (k + 1) ≤ 2 ^ j := Nat.pow_le_pow_right (by omega) (by omega)
          rw [Nat.div_eq_of_lt (by omega)]
          simp [show ¬ j < k + 1 by omega]
    · rw [if_neg hz]
      refine ⟨x, h1, by omega, fun j => ?_⟩
      rw [h3 j]
      by_cases hjk : j = k
      · subst hjk; simp [hz]
      · simp [show (j < k + 1 ↔ j < k) by omega]
theorem bitF_b {p : Nat → Bool} {k : Nat} (hk : k ≤ 31) : 0 ≤ bitF p k ∧ bitF p k < 2 ^ k := by
  obtain ⟨x, h1, h2, _⟩ := bitF_add (p := p) k hk
  rw [h1]
  exact ⟨by omega, by exact_mod_cast h2⟩
theorem bitF_congr {p q : Nat → Bool} : ∀ k : Nat, (∀ j, j < k → p j = q j) → bitF p k = bitF q k
  | 0, _ => rfl
  | k + 1, h => by rw [bitF, bitF, bitF_congr k (fun j hj => h j (by omega)), h k (by omega)]
/-- how many bits -/
def bcF : Nat → Nat → Nat
  | 0, _ => 0
  | d + 1, n => n % 2 + bcF d (n / 2)
theorem bcF_0 : ∀ d : Nat, bcF d 0 = 0
  | 0 => rfl
  | d + 1 => by rw [bcF, show 0 / 2 = 0 from rfl, bcF_0 d]
theorem bcF_le : ∀ d n : Nat, bcF d n ≤ d
  | 0, _ => Nat.le_refl 0
  | d + 1, n => by
    have := bcF_le d (n / 2)
    rw [bcF]; omega
theorem t_M_bitsOf (S : St) (n : Nat) (Q : Option AV → St → Prop) (hn : n < 2 ^ 30) (hQ : Q (some (.inl (bcF 30 n))) S) : Smm H_M_bitsOf 0 [some (.inl (n : Int)), none, none] [] S Q := by
  have loop : ∀ (d k m : Nat), k < 2 ^ d → d ≤ 30 → (m : Int) + d ≤ 40 → m + bcF d k = bcF 30 n → Smm H_M_bitsOf 4 [some (.inl (n : Int)), some (.inl (m : Int)), some (.inl (k : Int))] [] S Q := by
    intro d
    induction d with
    | zero =>
      intro k m hk hd hm he
      refine sound ok_M_bitsOf [4] 20 ?_
      have : k = 0 := by simpa using hk
      subst this
      refine ⟨fun _ => ?_, fun h => absurd h (by omega)⟩
      rw [bcF_0, Nat.add_zero] at he
      rw [he]
      exact hQ
    | succ d ih =>
      intro k m hk hd hm he
      refine sound ok_M_bitsOf [4] 20 ?_
      refine ⟨fun h => ?_, fun h => ?_⟩
      · have : k = 0 := by omega
        subst this
        rw [bcF_0, Nat.add_zero] at he
        rw [he]
        exact hQ
      · have h30 : 2 ^ (d + 1) ≤ 2 ^ 30 := Nat.pow_le_pow_right (by omega) hd
        have h2d : 2 ^ (d + 1) = 2 ^ d * 2 := Nat.pow_succ 2 d
        rw [bcF] at he
        refine Smm.sub (ih (k / 2) (m + k % 2) (by omega) (by omega) (by omega) (by omega)) ⟨Or.inr rfl, Or.inr (sI ?_), Or.inr (sI ?_), trivial⟩
        · rw [iand1 (by omega)]
          unfold i32
          omega
        · have := ishr_nat (a := k) (k := 1) (by omega) (by omega)
          rw [show ((1 : Nat) : Int) = 1 from rfl] at this
          rw [this]
  refine sound ok_M_bitsOf [4] 20 ?_
  exact loop 30 n 0 hn (by omega) (by omega) (by omega)
end
section
/-! the reference: misfits, fits, lies -/
/-- the scratches within their bounds -/
def scOk (S : St) : Prop := (0 ≤ S 0 49 ∧ S 0 49 ≤ 10) ∧ ∀ k, 0 ≤ k → k < S 0 49 → (0 ≤ S 30 (3 * k) ∧ S 30 (3 * k) < S 0 19) ∧ (-1 ≤ S 30 (3 * k + 1) ∧ S 30 (3 * k + 1) < S 0 20) ∧ -99 ≤ S 30 (3 * k + 2) ∧ S 30 (3 * k + 2) ≤ 199
/-- what scratch k tells of on a way -/
def svM (T : St) (f : Int → Int) (k : Int) : Int := if T 30 (3 * k + 1) = -1 then tnM T (smM T f) (T 30 (3 * k)) else hdM (T 19) (smM T f) (T 30 (3 * k)) (T 30 (3 * k + 1))
def mfM (T : St) (f : Int → Int) : Int := bitF (fun k => decide (¬ svM T f k = T 30 (3 * k + 2))) (T 0 49).toNat
theorem mfM_sm {S S' : St} (h : Sm S S') (h2 : S' 30 = S 30) : mfM S' = mfM S := by
  funext f
  unfold mfM
  have e : svM S' = svM S := by funext f k; unfold svM; rw [h2, tnM_sm h, smM_sm h, h.2.2.2.2.2.2.2.1]
  rw [e, h2, h.1]
theorem t_M_misfits (T : St) (f : Int → Int) (Q : Option AV → St → Prop) (hA : mAs T) (hf : f ∈ wyM T) (hW : Wy T f) (hS : scOk T) (hQ : Q (some (.inl (mfM T f))) T) : Smm H_M_misfits 0 [some (.inr (.inr 0)), none, none, none, none, none] [] T Q := by
  have hk4 := hA.1.2.1
  have hn5 := hA.1.1.1
  have hs10 := hS.1
  have ho := wyM_of hA hf
  generalize hp : (fun k : Nat => decide (¬ svM T f k = T 30 (3 * k + 2))) = p
  have loop : ∀ (i : Int) (_ : Unit), (0 ≤ i ∧ i ≤ T 0 49) → Smm H_M_misfits 4 [some (.inr (.inr 0)), some (.inl (bitF p i.toNat)), some (.inl i), none, none, none] [] T Q := by
    refine lp_up (P := fun i _ => Smm H_M_misfits 4 [some (.inr (.inr 0)), some (.inl (bitF p i.toNat)), some (.inl i), none, none, none] [] T Q) (fun i _ => 0 ≤ i ∧ i ≤ T 0 49) (T 0 49) ?_ ?_
    · rintro i - hi hi2
      refine sound ok_M_misfits [4] 20 ?_
      refine ⟨fun _ => ?_, fun h3 => absurd h3 (by omega)⟩
      rw [show i = T 0 49 by omega]
      unfold mfM at hQ
      rw [hp] at hQ
      exact hQ
    · rintro i - hi hi2 ih
      obtain ⟨k, rfl⟩ : ∃ k : Nat, i = k := ⟨i.toNat, by omega⟩
      have ih := ih () (by omega)
      rw [show ((k : Int) + 1).toNat = k + 1 by omega, bitF] at ih
      rw [show ((k : Int)).toNat = k by omega]
      obtain ⟨b1, b2, b3⟩ := hS.2 k (by omega) hi
      have e0 : i32 (3 * (k : Int)) = 3 * k := i32_id (by omega) (by omega)
      have e1 : i32 (i32 (3 * (k : Int)) + 1) = 3 * k + 1 := by rw [e0]; exact i32_id (by omega) (by omega)
      have e2 : i32 (i32 (3 * (k : Int)) + 2) = 3 * k + 2 := by rw [e0]; exact i32_id (by omega) (by omega)
      have rest : ∀ x y : Int, Smm H_M_misfits 55 [some (.inr (.inr 0)), some (.inl (bitF p k)), some (.inl (k : Int)), some (.inl x), some (.inl y), none] [.inl (svM T f k)] T Q := by
        intro x y
        refine sound ok_M_misfits [4] 40 ?_
        refine ⟨by rw [e2]; omega, ?_⟩
        rw [e2]
        refine ⟨fun h3 => ?_, fun h3 => ?_⟩
        · refine Smm.sub ih ⟨Or.inr rfl, Or.inr (sI ?_), Or.inr (sI (by unfold i32; omega)), Or.inl rfl, Or.inl rfl, Or.inl rfl, trivial⟩
          rw [← hp, if_neg (by simpa using h3)]
        · refine Smm.sub ih ⟨Or.inr rfl, Or.inr (sI ?_), Or.inr (sI (by unfold i32; omega)), Or.inl rfl, Or.inl rfl, Or.inl rfl, trivial⟩
          rw [← hp, if_pos (by simpa using h3)]
      refine sound ok_M_misfits [4, 55] 60 ?_
      refine ⟨fun h3 => absurd h3 (by omega), fun _ => ?_⟩
      refine ⟨by rw [e0]; omega, ?_⟩
      refine ⟨by rw [e1]; omega, ?_⟩
      rw [e1, e0]
      refine ⟨fun h3 => ?_, fun h3 => ?_⟩
      · have hs : 0 ≤ T 30 (3 * k + 1) ∧ T 30 (3 * k + 1) < 5 := by omega
        have hsn := hW.2.1 (T 30 (3 * k + 1)) hs.1 b2.2
        have hsb := smM_b hA.1 ho hs.1 b2.2
        have hal := hA.1.1.2.2 (5 * T 30 (3 * k) + T 30 (3 * k + 1)) (by omega) (by omega)
        refine t_M_heardAt T _ _ _ (by omega) hs (by rw [hsn]; omega) hal.2 ?_
        have ev : svM T f k = hdM (T 19) (T 22) (T 30 (3 * k)) (T 30 (3 * k + 1)) := by
          unfold svM
          rw [if_neg h3]
          exact hdM_congr hsn.symm
        rw [← ev]
        exact rest _ _
      · have ev : svM T f k = T 23 (T 30 (3 * k)) := by
          unfold svM
          rw [if_pos h3, hW.2.2 _ b1.1 b1.2]
        refine ⟨by omega, ?_⟩
        rw [← ev]
        exact rest _ _
  refine sound ok_M_misfits [4] 20 ?_
  exact loop 0 () (by omega)
theorem scOk_tl {S : St} (h : scOk S) : scOk (tl S) := by
  unfold scOk
  rw [tl_0 S (by decide) (by decide), tl_0 S (by decide) (by decide), tl_0 S (by decide) (by decide), show tl S 30 = S 30 by unfold tl; rw [asS_c _ (by decide), th_c S (by decide)]]
  exact h
theorem scOk_sm {S S' : St} (h : Sm S S') (h2 : S' 30 = S 30) (k : scOk S) : scOk S' := by
  unfold scOk
  rw [h.1, h2]
  exact k
def ftS (T : St) (sign : Int) (a : Int × Int) (f : Int → Int) : Int × Int := if mfM T f = 0 then (i32 (a.1 + 1), if sign < 0 then a.2 else ior a.2 (ishl 1 (f sign + 3))) else a
def aM_fits (S : St) (sign : Int) : Int := if S 0 18 = 0 ∨ (¬ sign = -1 ∧ ¬ (0 ≤ sign ∧ sign < S 0 20)) then -1 else if sign = -1 then ((wyM (tl S)).foldl (ftS (tl S) sign) (0, 0)).1 else ((wyM (tl S)).foldl (ftS (tl S) sign) (0, 0)).2
theorem t_M_fits (S : St) (sign : Int) (Q : Option AV → St → Prop) (hL : ¬ S 0 18 = 0 → ldM S) (hp : plM S) (hS : scOk S) (hQ : ∀ S', Fr [17, 18, 19, 20, 21, 22, 23, 24, 25, 26, 27, 28, 29, 31] [(0, 0), (0, 38)] S S' → Q (some (.inl (aM_fits S sign))) S') : Smm H_M_fits 0 [some (.inr (.inr 0)), some (.inl sign), none, none] [] S Q := by
  have e18 : th S 0 18 = S 0 18 := th_0 S (by decide)
  have e20 : th S 0 20 = S 0 20 := th_0 S (by decide)
  have no : (S 0 18 = 0 ∨ (¬ sign = -1 ∧ ¬ (0 ≤ sign ∧ sign < S 0 20))) → Q (some (.inl (-1))) (th S) := fun hz => by
    have := hQ (th S) (th_fr S)
    unfold aM_fits at this
    rwa [if_pos hz] at this
  have main : ¬ S 0 18 = 0 → (sign = -1 ∨ (0 ≤ sign ∧ sign < S 0 20)) → Smm H_M_fits 27 [some (.inr (.inr 0)), some (.inl sign), none, none] [] (th S) Q := by
    intro h1 h2
    have hl0 := hL h1
    have hA := tl_mAs hl0 hp
    have p20 : tl S 0 20 = S 0 20 := tl_0 S (by decide) (by decide)
    have hlen := wyM_len hA
    have loop : ∀ (post pre : List (Int → Int)) (f : Int → Int) (q : St × (Int × Int)), wyM (tl S) = pre ++ f :: post → (Fr [21, 22, 23, 24, 25] [] (tl S) q.1 ∧ Wy q.1 f ∧ q.2 = pre.foldl (ftS (tl S) sign) (0, 0)) → Smm H_M_fits 39 [some (.inr (.inr 0)), some (.inl sign), some (.inl q.2.1), some (.inl q.2.2)] [] q.1 Q := by
      refine lp_wy (P := fun _ (q : St × (Int × Int)) => Smm H_M_fits 39 [some (.inr (.inr 0)), some (.inl sign), some (.inl q.2.1), some (.inl q.2.2)] [] q.1 Q) (fun pre f q => Fr [21, 22, 23, 24, 25] [] (tl S) q.1 ∧ Wy q.1 f ∧ q.2 = pre.foldl (ftS (tl S) sign) (0, 0)) ?_
      rintro pre f post ⟨T, a⟩ hl ⟨hF, hW, ha⟩ ih
      dsimp only at hF hW ha ⊢
      have hSm : Sm (tl S) T := Sm.of hF rfl
      have hA' := mAs_sm hSm hA
      have hfm0 : f ∈ wyM (tl S) := by rw [hl]; exact List.mem_append_right _ List.mem_cons_self
      have hfm : f ∈ wyM T := by rw [wyM_sm hSm]; exact hfm0
      have hpl : pre.length < (wyM (tl S)).length := by rw [hl, List.length_append, List.length_cons]; omega
      have next : ∀ (T2 : St) (b : (Int × Int)), Fr [25] [] T T2 → b = (ftS (tl S) sign) a f → Smm H_M_fits 66 [some (.inr (.inr 0)), some (.inl sign), some (.inl b.1), some (.inl b.2)] [] T2 Q := by
        intro T2 b hF2 hb
        have hb2 : b = (pre ++ [f]).foldl (ftS (tl S) sign) (0, 0) := by rw [List.foldl_append, ← ha, hb]; rfl
        have hSm2 : Sm (tl S) T2 := Sm.of (hF.tr (hF2.mo rfl rfl)) rfl
        refine sound ok_M_fits [39, 73] 20 ?_
        refine t_M_nextW T2 pre f post _ (mAs_sm hSm2 hA) (by rw [wyM_sm hSm2]; exact hl) (fun i i0 i1 => ?_) (fun f' post' S3 hp hF3 hW3 => ?_) (fun S3 hp hF3 => ?_)
        · rw [hF2.c 21 rfl]
          exact hW.1 i i0 (by rw [hSm2.1] at i1; rw [hSm.1]; exact i1)
        · refine ⟨fun _ => ?_, fun z => absurd z (by decide)⟩
          exact Smm.sub (ih f' post' (S3, b) hp ⟨(hF.tr (hF2.mo rfl rfl)).tr (hF3.mo rfl rfl), hW3, hb2⟩) ⟨Or.inr rfl, Or.inr rfl, Or.inr rfl, Or.inr rfl, trivial⟩
        · refine ⟨fun z => absurd rfl z, fun _ => ?_⟩
          have hx : b = (wyM (tl S)).foldl (ftS (tl S) sign) (0, 0) := by rw [hl, hp]; exact hb2
          have hFx := (hF.tr (hF2.mo rfl rfl)).tr (hF3.mo rfl rfl)
          rw [hx]
          have hq := hQ S3 ((tl_fr S).tr (hFx.mo rfl rfl))
          unfold aM_fits at hq
          rw [if_neg (by omega)] at hq
          refine sound ok_M_fits [] 20 ?_
          refine ⟨fun h3 => ?_, fun h3 => ?_⟩
          · rw [if_neg h3] at hq; exact hq
          · rw [if_pos h3] at hq; exact hq
      have erow : T 30 = tl S 30 := hF.c 30 rfl
      have q20 : T 0 20 = S 0 20 := by rw [hSm.1, p20]
      have hn5 := hl0.2.1
      refine sound ok_M_fits [66] 40 ?_
      refine t_M_misfits T f _ hA' hfm hW (scOk_sm hSm erow (scOk_tl hS)) ?_
      rw [mfM_sm hSm erow]
      refine ⟨fun h3 => ?_, fun h3 => ?_⟩
      · exact next T a (Fr.rf _ _ _) (by unfold ftS; rw [if_neg h3])
      · refine ⟨fun h4 => ?_, fun h4 => ?_⟩
        · exact next T (i32 (a.1 + 1), a.2) (Fr.rf _ _ _) (by unfold ftS; rw [if_pos h3, if_pos h4])
        · refine ⟨by omega, ?_⟩
          have hof := wyM_of hA hfm0 sign (by omega) (by rw [p20]; omega)
          have e3 : i32 (T 21 sign + 3) = f sign + 3 := by rw [hW.1 sign (by omega) (by rw [q20]; omega)]; unfold i32; omega
          refine next T (i32 (a.1 + 1), ior a.2 (ishl 1 (i32 (T 21 sign + 3)))) (Fr.rf _ _ _) ?_
          unfold ftS
          rw [if_pos h3, if_neg (by omega), e3]
    obtain ⟨r, hr⟩ := wy_first (err := (tl S) 18) ((tl S) 0 20).toNat (fun i hi => (hA.2.2 i (by omega) (by have := hA.1.1.1; omega)).1)
    refine sound ok_M_fits [39] 20 ?_
    refine t_M_asTold (th S) _ (by rw [th_0 S (by decide)]; have := hl0.2.1; omega) (by rw [th_0 S (by decide)]; have := hl0.1; omega) ?_
    refine t_M_firstWay (tl S) _ hA (fun T hF hW => ?_)
    exact loop r [] _ (T, (0, 0)) hr ⟨hF.mo rfl rfl, hW, rfl⟩
  refine sound ok_M_fits [27] 60 ?_
  refine ⟨fun h1 => no (Or.inl (e18 ▸ h1)), fun h1 => ?_⟩
  replace h1 : ¬ S 0 18 = 0 := fun z => h1 (e18.trans z)
  refine ⟨fun h2 => main h1 (Or.inl h2), fun h2 => ?_⟩
  refine t_M_isSign (th S) sign _ (fun h3 => ?_) (fun h3 => ?_)
  · rw [e18, e20] at h3
    exact ⟨fun _ => main h1 (Or.inr h3.2), fun z => absurd z (by decide)⟩
  · rw [e18, e20] at h3
    exact ⟨fun z => absurd rfl z, fun _ => no (Or.inr ⟨h2, fun z => h3 ⟨h1, z⟩⟩)⟩
def lsS (T : St) (a : Int) (f : Int → Int) : Int := if a < 0 ∨ bcF 30 (mfM T f).toNat < bcF 30 a.toNat ∨ (bcF 30 (mfM T f).toNat = bcF 30 a.toNat ∧ mfM T f < a) then mfM T f else a
theorem mfM_b {T : St} (h : scOk T) (f : Int → Int) : 0 ≤ mfM T f ∧ mfM T f < 1024 := by
  have hs := h.1
  unfold mfM
  have := bitF_b (p := fun k => decide (¬ svM T f k = T 30 (3 * k + 2))) (k := (T 0 49).toNat) (by omega)
  have h2 : (2 : Int) ^ (T 0 49).toNat ≤ 2 ^ 10 := by exact_mod_cast Nat.pow_le_pow_right (n := 2) (by omega) (show (T 0 49).toNat ≤ 10 by omega)
  omega
theorem lsS_b {T : St} (h : scOk T) : ∀ (l : List (Int → Int)) (a : Int), -1 ≤ a ∧ a < 1024 → -1 ≤ l.foldl (lsS T) a ∧ l.foldl (lsS T) a < 1024
  | [], a, h0 => h0
  | f :: l, a, h0 => by
    rw [List.foldl_cons]
    refine lsS_b h l _ ?_
    unfold lsS
    split
    · have := mfM_b h f; omega
    · exact h0
def aM_lies (S : St) : Int := if S 0 18 = 0 then -1 else (wyM (tl S)).foldl (lsS (tl S)) (-1)
theorem t_M_lies (S : St) (Q : Option AV → St → Prop) (hL : ¬ S 0 18 = 0 → ldM S) (hp : plM S) (hS : scOk S) (hQ : ∀ S', Fr [17, 18, 19, 20, 21, 22, 23, 24, 25, 26, 27, 28, 29, 31] [(0, 0), (0, 38)] S S' → Q (some (.inl (aM_lies S))) S') : Smm H_M_lies 0 [some (.inr (.inr 0)), none, none] [] S Q := by
  have e18 : th S 0 18 = S 0 18 := th_0 S (by decide)
  refine sound ok_M_lies [24] 60 ?_
  refine ⟨fun h1 => ?_, fun h1 => ?_⟩
  · replace h1 : ¬ S 0 18 = 0 := fun z => h1 (e18.trans z)
    have hl0 := hL h1
    have hA := tl_mAs hl0 hp
    have hlen := wyM_len hA
    have loop : ∀ (post pre : List (Int → Int)) (f : Int → Int) (q : St × Int), wyM (tl S) = pre ++ f :: post → (Fr [21, 22, 23, 24, 25] [] (tl S) q.1 ∧ Wy q.1 f ∧ q.2 = pre.foldl (lsS (tl S)) (-1)) → Smm H_M_lies 24 [some (.inr (.inr 0)), some (.inl q.2), none] [] q.1 Q := by
      refine lp_wy (P := fun _ (q : St × Int) => Smm H_M_lies 24 [some (.inr (.inr 0)), some (.inl q.2), none] [] q.1 Q) (fun pre f q => Fr [21, 22, 23, 24, 25] [] (tl S) q.1 ∧ Wy q.1 f ∧ q.2 = pre.foldl (lsS (tl S)) (-1)) ?_
      rintro pre f post ⟨T, a⟩ hl ⟨hF, hW, ha⟩ ih
      dsimp only at hF hW ha ⊢
      have hSm : Sm (tl S) T := Sm.of hF rfl
      have hA' := mAs_sm hSm hA
      have hfm0 : f ∈ wyM (tl S) := by rw [hl]; exact List.mem_append_right _ List.mem_cons_self
      have hfm : f ∈ wyM T := by rw [wyM_sm hSm]; exact hfm0
      have hpl : pre.length < (wyM (tl S)).length := by rw [hl, List.length_append, List.length_cons]; omega
      have next : ∀ (T2 : St) (b : Int) (x : Option AV), Fr [25] [] T T2 → b = (lsS (tl S)) a f → Smm H_M_lies 62 [some (.inr (.inr 0)), some (.inl b), x] [] T2 Q := by
        intro T2 b x hF2 hb
        have hb2 : b = (pre ++ [f]).foldl (lsS (tl S)) (-1) := by rw [List.foldl_append, ← ha, hb]; rfl
        have hSm2 : Sm (tl S) T2 := Sm.of (hF.tr (hF2.mo rfl rfl)) rfl
        refine sound ok_M_lies [24, 69] 20 ?_
        refine t_M_nextW T2 pre f post _ (mAs_sm hSm2 hA) (by rw [wyM_sm hSm2]; exact hl) (fun i i0 i1 => ?_) (fun f' post' S3 hp hF3 hW3 => ?_) (fun S3 hp hF3 => ?_)
        · rw [hF2.c 21 rfl]
          exact hW.1 i i0 (by rw [hSm2.1] at i1; rw [hSm.1]; exact i1)
        · refine ⟨fun _ => ?_, fun z => absurd z (by decide)⟩
          exact Smm.sub (ih f' post' (S3, b) hp ⟨(hF.tr (hF2.mo rfl rfl)).tr (hF3.mo rfl rfl), hW3, hb2⟩) ⟨Or.inr rfl, Or.inr rfl, Or.inl rfl, trivial⟩
        · refine ⟨fun z => absurd rfl z, fun _ => ?_⟩
          have hx : b = (wyM (tl S)).foldl (lsS (tl S)) (-1) := by rw [hl, hp]; exact hb2
          have hFx := (hF.tr (hF2.mo rfl rfl)).tr (hF3.mo rfl rfl)
          rw [hx]
          have hq := hQ S3 ((tl_fr S).tr (hFx.mo rfl rfl))
          unfold aM_lies at hq
          rw [if_neg h1] at hq
          refine sound ok_M_lies [] 20 ?_
          exact hq
      have erow : T 30 = tl S 30 := hF.c 30 rfl
      have hab := lsS_b (scOk_tl hS) pre (-1) (by omega)
      rw [← ha] at hab
      have hvb := mfM_b (scOk_tl hS) f
      refine sound ok_M_lies [62] 60 ?_
      refine t_M_misfits T f _ hA' hfm hW (scOk_sm hSm erow (scOk_tl hS)) ?_
      rw [mfM_sm hSm erow]
      generalize hv : mfM (tl S) f = v at hvb
      have yes : (a < 0 ∨ bcF 30 v.toNat < bcF 30 a.toNat ∨ (bcF 30 v.toNat = bcF 30 a.toNat ∧ v < a)) → Smm H_M_lies 62 [some (.inr (.inr 0)), some (.inl v), some (.inl v)] [] T Q := fun hz => next T v _ (Fr.rf _ _ _) (by unfold lsS; rw [hv, if_pos hz])
      have no : ¬ (a < 0 ∨ bcF 30 v.toNat < bcF 30 a.toNat ∨ (bcF 30 v.toNat = bcF 30 a.toNat ∧ v < a)) → Smm H_M_lies 62 [some (.inr (.inr 0)), some (.inl a), some (.inl v)] [] T Q := fun hz => next T a _ (Fr.rf _ _ _) (by unfold lsS; rw [hv, if_neg hz])
      refine ⟨fun h3 => yes (Or.inl h3), fun h3 => ?_⟩
      have hav : ∃ n : Nat, a = n := ⟨a.toNat, by omega⟩
      have hvv : ∃ n : Nat, v = n := ⟨v.toNat, by omega⟩
      obtain ⟨a', ea⟩ := hav
      obtain ⟨v', ev⟩ := hvv
      rw [ea, ev] at yes no ⊢
      rw [show ((a' : Nat) : Int).toNat = a' by omega, show ((v' : Nat) : Int).toNat = v' by omega] at yes no
      refine t_M_bitsOf T v' _ (by omega) ?_
      refine t_M_bitsOf T a' _ (by omega) ?_
      refine ⟨fun h4 => yes (Or.inr (Or.inl (by omega))), fun h4 => ?_⟩
      refine t_M_bitsOf T v' _ (by omega) ?_
      refine t_M_bitsOf T a' _ (by omega) ?_
      refine ⟨fun h5 => no (fun z => by omega), fun h5 => ?_⟩
      refine ⟨fun h6 => no (fun z => by omega), fun h6 => yes (Or.inr (Or.inr ⟨by omega, by omega⟩))⟩
    obtain ⟨r, hr⟩ := wy_first (err := (tl S) 18) ((tl S) 0 20).toNat (fun i hi => (hA.2.2 i (by omega) (by have := hA.1.1.1; omega)).1)
    refine t_M_asTold (th S) _ (by rw [th_0 S (by decide)]; have := hl0.2.1; omega) (by rw [th_0 S (by decide)]; have := hl0.1; omega) ?_
    refine t_M_firstWay (tl S) _ hA (fun T hF hW => ?_)
    exact loop r [] _ (T, -1) hr ⟨hF.mo rfl rfl, hW, rfl⟩
  · have := hQ (th S) (th_fr S)
    unfold aM_lies at this
    rw [if_pos (e18 ▸ h1)] at this
    exact this
end
section
/-! the reference: laysWay, turnsAt, opens; route -/
/-- the off of sign s in these digits -/
def dgF (offs n : Int) (s : Int) : Int := offs / 10 ^ (n - 1 - s).toNat % 10 - 3
def okD (offs n : Int) (err : Int → Int) : Prop := 0 ≤ offs ∧ (∀ s, 0 ≤ s → s < n → -err s ≤ dgF offs n s ∧ dgF offs n s ≤ err s) ∧ offs / 10 ^ n.toNat = 0
theorem p10 (d : Nat) : 0 < (10 : Int) ^ d := Int.pow_pos (by omega)
theorem div10 {a : Int} (d : Nat) : a / 10 ^ d / 10 = a / 10 ^ (d + 1) := by
  rw [Int.pow_succ, Int.ediv_ediv_of_nonneg (Int.le_of_lt (p10 d))]
theorem div10_b {a : Int} (h : 0 ≤ a) (d : Nat) : 0 ≤ a / 10 ^ d ∧ a / 10 ^ d ≤ a := ⟨Int.ediv_nonneg h (Int.le_of_lt (p10 d)), Int.ediv_le_self _ h⟩
set_option maxHeartbeats 1000000 in
theorem t_M_laysWay (S : St) (offs : Int) (Q : Option AV → St → Prop) (hc : i32 offs = offs) (hL : ¬ S 0 18 = 0 → ldM S) (hp : plM S)
    (h0 : ∀ S', Fr [17, 18, 19, 20, 21, 22, 23, 24, 25, 26, 27, 28, 29, 31] [(0, 0), (0, 38)] S S' → ¬ (¬ S 0 18 = 0 ∧ okD offs (S 0 20) (S 11)) → Q (some (.inl 0)) S')
    (h1 : ∀ S', Fr [21, 22, 23, 24, 25] [] (tl S) S' → ¬ S 0 18 = 0 ∧ okD offs (S 0 20) (S 11) → Wy S' (dgF offs (S 0 20)) → Q (some (.inl 1)) S') : Smm H_M_laysWay 0 [some (.inr (.inr 0)), some (.inl offs), none, none] [] (th S) Q := by
  have e18 : th S 0 18 = S 0 18 := th_0 S (by decide)
  have hc2 := can32.mp hc
  refine sound ok_M_laysWay [26] 60 ?_
  refine ⟨fun z => ⟨Or.inl rfl, h0 _ (th_fr S) (fun q => q.1 (e18 ▸ z))⟩, fun hl => ?_⟩
  replace hl : ¬ S 0 18 = 0 := fun z => hl (e18.trans z)
  have hl0 := hL hl
  have hA := tl_mAs hl0 hp
  have hn5 := hl0.2.1
  have p20 : tl S 0 20 = S 0 20 := tl_0 S (by decide) (by decide)
  have p11 : tl S 11 = S 11 := by unfold tl; rw [asS_c _ (by decide), th_c S (by decide)]
  refine ⟨fun hge => ?_, fun z => ⟨Or.inl rfl, h0 _ (th_fr S) (fun q => absurd q.2.1 (by omega))⟩⟩
  refine t_M_asTold (th S) _ (by rw [th_0 S (by decide)]; omega) (by rw [th_0 S (by decide)]; have := hl0.1; omega) ?_
  have hfr : ∀ T, Fr [21] [] (tl S) T → Fr [17, 18, 19, 20, 21, 22, 23, 24, 25, 26, 27, 28, 29, 31] [(0, 0), (0, 38)] S T := fun T h => (tl_fr S).tr (h.mo rfl rfl)
  have loop : ∀ (i : Int) (T : St), ((-1 ≤ i ∧ i < S 0 20) ∧ Fr [21] [] (tl S) T ∧ ∀ s, i < s → s < S 0 20 → T 21 s = dgF offs (S 0 20) s ∧ -S 11 s ≤ dgF offs (S 0 20) s ∧ dgF offs (S 0 20) s ≤ S 11 s) → Smm H_M_laysWay 26 [some (.inr (.inr 0)), some (.inl offs), some (.inl (offs / 10 ^ (S 0 20 - 1 - i).toNat)), some (.inl i)] [] T Q := by
    refine lp_dn (P := fun i T => Smm H_M_laysWay 26 [some (.inr (.inr 0)), some (.inl offs), some (.inl (offs / 10 ^ (S 0 20 - 1 - i).toNat)), some (.inl i)] [] T Q) _ ?_ ?_
    · rintro i T hi ⟨hi2, hF, ho⟩
      have hd := div10_b hge (S 0 20 - 1 - i).toNat
      have q20 : T 0 20 = S 0 20 := by rw [hF.c 0 rfl, p20]
      have hSm : Sm (tl S) T := Sm.of hF rfl
      have hA' := mAs_sm hSm hA
      rw [show (S 0 20 - 1 - i).toNat = (S 0 20).toNat by omega] at hd ⊢
      refine sound ok_M_laysWay [] 60 ?_
      refine ⟨fun h3 => ?_, fun z => absurd z (by omega)⟩
      refine ⟨fun h4 => ?_, fun h4 => ?_⟩
      · have hok : okD offs (S 0 20) (S 11) := ⟨hge, fun s s0 s1 => (ho s (by omega) s1).2, by omega⟩
        have hof : ofOk (T 0 20) (T 21) := fun s s0 s1 => by
          rw [q20] at s1
          obtain ⟨a1, a2, a3⟩ := ho s (by omega) s1
          have := hl0.2.2.2.1 s s0 s1
          rw [a1]; omega
        refine t_M_goes T _ hA'.1 hof (fun T2 hF2 hs ht => ?_)
        have hSm2 : Sm T T2 := Sm.of hF2 rfl
        have esn : smM T (T 21) = smM T (dgF offs (S 0 20)) := by
          unfold smM
          exact snF_congr _ (fun j hj => (ho j (by omega) (by omega)).1)
        refine ⟨Or.inr rfl, h1 T2 ((hF.mo rfl rfl).tr (hF2.mo rfl rfl)) ⟨hl, hok⟩ ⟨fun j j0 j1 => ?_, fun j j0 j1 => ?_, fun g g0 g1 => ?_⟩⟩
        · rw [hF2.c 21 rfl]
          exact (ho j (by omega) (by rw [hSm2.1, q20] at j1; exact j1)).1
        · rw [hs j j0 (by rw [hSm2.1] at j1; exact j1), smM_sm hSm2, esn]
        · rw [ht g g0 (by rw [hSm2.1] at g1; exact g1), smM_sm hSm2, tnM_sm hSm2, esn]
      · exact ⟨Or.inl rfl, h0 T (hfr T hF) (fun z => absurd z.2.2.2 (by omega))⟩
    · rintro i T hi ⟨hi2, hF, ho⟩ ih
      have hd := div10_b hge (S 0 20 - 1 - i).toNat
      have hdd := div10 (a := offs) (S 0 20 - 1 - i).toNat
      rw [show (S 0 20 - 1 - i).toNat + 1 = (S 0 20 - 1 - (i - 1)).toNat by omega] at hdd
      have hdg : dgF offs (S 0 20) i = offs / 10 ^ (S 0 20 - 1 - i).toNat % 10 - 3 := rfl
      generalize hleft : offs / 10 ^ (S 0 20 - 1 - i).toNat = left at hd hdd hdg ⊢
      have e1 : irem left 10 = left % 10 := irem_pos hd.1 (by omega) (by omega) (by omega)
      have e2 : idiv left 10 = left / 10 := idiv_pos hd.1 (by omega) (by omega) (by omega)
      have e3 : i32 (irem left 10 - 3) = dgF offs (S 0 20) i := by rw [e1, hdg]; exact i32_id (by omega) (by omega)
      have hF2 := hF.up 21 i (i32 (irem left 10 - 3)) rfl
      have eo : up T 21 i (i32 (irem left 10 - 3)) 21 i = dgF offs (S 0 20) i := by rw [up_s, e3]
      have ee : up T 21 i (i32 (irem left 10 - 3)) 11 i = S 11 i := by rw [hF2.c 11 rfl, p11]
      have herr := hl0.2.2.2.1 i (by omega) (by omega)
      have en : i32 (-S 11 i) = -S 11 i := i32_id (by omega) (by omega)
      have bad : ¬ (-S 11 i ≤ dgF offs (S 0 20) i ∧ dgF offs (S 0 20) i ≤ S 11 i) → Q (some (.inl 0)) (up T 21 i (i32 (irem left 10 - 3))) := fun hz => h0 _ (hfr _ hF2) (fun z => hz (z.2.2.1 i (by omega) (by omega)))
      refine sound ok_M_laysWay [26] 60 ?_
      refine ⟨fun z => absurd z (by omega), fun _ => ?_⟩
      refine ⟨by decide, ?_⟩
      refine ⟨by omega, ?_⟩
      refine ⟨by decide, ?_⟩
      refine ⟨by omega, ?_⟩
      refine ⟨by omega, ?_⟩
      refine ⟨fun h3 => ?_, fun h3 => ?_⟩
      · rw [eo, ee] at h3
        exact ⟨Or.inl rfl, bad (by omega)⟩
      · rw [eo, ee] at h3
        refine ⟨by omega, ?_⟩
        refine ⟨by omega, ?_⟩
        refine ⟨fun h4 => ?_, fun h4 => ?_⟩
        · rw [eo, ee, en] at h4
          refine Smm.sub (ih _ ⟨by omega, hF2, fun s s0 s1 => ?_⟩) ⟨Or.inr rfl, Or.inr rfl, Or.inr (sI (by rw [e2, hdd])), Or.inr (sI ((i32_id (by omega) (by omega)).symm)), trivial⟩
          by_cases hs : s = i
          · subst hs
            exact ⟨eo, by omega, by omega⟩
          · rw [up_n _ _ _ hs]
            exact ho s (by omega) s1
        · rw [eo, ee, en] at h4
          exact ⟨Or.inl rfl, bad (by omega)⟩
  refine Smm.sub (loop (S 0 20 - 1) (tl S) ⟨by omega, Fr.rf _ _ _, fun s s0 s1 => by omega⟩) ⟨Or.inr rfl, Or.inr rfl, Or.inr (sI ?_), Or.inr (sI ?_), trivial⟩
  · rw [show (S 0 20 - 1 - (S 0 20 - 1)).toNat = 0 by omega, Int.pow_zero, Int.ediv_one]
  · show S 0 20 - 1 = i32 (tl S 0 20 - 1)
    rw [p20]
    exact (i32_id (by omega) (by omega)).symm
theorem dg_of {S : St} (hl0 : ldM S) {offs : Int} (h : okD offs (S 0 20) (S 11)) : ofOk (tl S 0 20) (dgF offs (S 0 20)) := fun s s0 s1 => by
  rw [tl_0 S (by decide) (by decide)] at s1
  have h2 := h.2.1 s s0 s1
  have := hl0.2.2.2.1 s s0 s1
  omega
noncomputable def aM_turnsAt (S : St) (offs g : Int) : Int := @ite Int (¬ (¬ S 0 18 = 0 ∧ 0 ≤ g ∧ g < S 0 19) ∨ ¬ okD offs (S 0 20) (S 11)) (Classical.propDecidable _) (-1000000) (if tnM (tl S) (smM (tl S) (dgF offs (S 0 20))) g = 1000000 then -1000000 else tnM (tl S) (smM (tl S) (dgF offs (S 0 20))) g)
theorem t_M_turnsAt (S : St) (offs g : Int) (Q : Option AV → St → Prop) (hc : i32 offs = offs) (hL : ¬ S 0 18 = 0 → ldM S) (hp : plM S) (hQ : ∀ S', Fr [17, 18, 19, 20, 21, 22, 23, 24, 25, 26, 27, 28, 29, 31] [(0, 0), (0, 38)] S S' → Q (some (.inl (aM_turnsAt S offs g))) S') : Smm H_M_turnsAt 0 [some (.inr (.inr 0)), some (.inl offs), some (.inl g)] [] S Q := by
  have e18 : th S 0 18 = S 0 18 := th_0 S (by decide)
  have e19 : th S 0 19 = S 0 19 := th_0 S (by decide)
  have no : (¬ (¬ S 0 18 = 0 ∧ 0 ≤ g ∧ g < S 0 19) ∨ ¬ okD offs (S 0 20) (S 11)) → ∀ S', Fr [17, 18, 19, 20, 21, 22, 23, 24, 25, 26, 27, 28, 29, 31] [(0, 0), (0, 38)] S S' → Q (some (.inl (-1000000))) S' := fun hz S' hF => by
    have := hQ S' hF
    unfold aM_turnsAt at this
    rwa [if_pos hz] at this
  refine sound ok_M_turnsAt [] 60 ?_
  refine t_M_isGuard (th S) g _ (fun h1 => ?_) (fun h1 => ?_)
  · rw [e18, e19] at h1
    refine ⟨fun z => absurd z (by decide), fun _ => ?_⟩
    refine t_M_laysWay S offs _ hc hL hp (fun S' hF hz => ?_) (fun S' hF hz hW => ?_)
    · exact ⟨fun _ => no (Or.inr (fun z => hz ⟨h1.1, z⟩)) S' hF, fun z => absurd rfl z⟩
    · refine ⟨fun z => absurd z (by decide), fun _ => ?_⟩
      have hl0 := hL h1.1
      have hk := hl0.1
      have hSm : Sm (tl S) S' := Sm.of hF rfl
      have q19 : S' 0 19 = S 0 19 := by rw [hSm.1, tl_0 S (by decide) (by decide)]
      have hv := hW.2.2 g h1.2.1 (by rw [q19]; exact h1.2.2)
      rw [smM_sm hSm, tnM_sm hSm] at hv
      have hq := hQ S' ((tl_fr S).tr (hF.mo rfl rfl))
      unfold aM_turnsAt at hq
      rw [if_neg (fun z => by rcases z with z | z; exact z h1; exact z hz.2), ← hv] at hq
      refine ⟨by omega, ?_⟩
      refine ⟨fun h3 => ?_, fun h3 => ?_⟩
      · refine ⟨by omega, ?_⟩
        rw [if_neg h3] at hq
        exact hq
      · rw [if_pos h3] at hq
        exact hq
  · rw [e18, e19] at h1
    exact ⟨fun _ => no (Or.inl h1) _ (th_fr S), fun z => absurd rfl z⟩
noncomputable def aM_opens (S : St) (offs : Int) : Int := @ite Int (¬ (¬ S 0 18 = 0 ∧ okD offs (S 0 20) (S 11))) (Classical.propDecidable _) (-1) (if opM (tl S) (dgF offs (S 0 20)) then 1 else 0)
theorem t_M_opens (S : St) (offs : Int) (Q : Option AV → St → Prop) (hc : i32 offs = offs) (hL : ¬ S 0 18 = 0 → ldM S) (hp : plM S) (hQ : ∀ S', Fr [17, 18, 19, 20, 21, 22, 23, 24, 25, 26, 27, 28, 29, 31] [(0, 0), (0, 38)] S S' → Q (some (.inl (aM_opens S offs))) S') : Smm H_M_opens 0 [some (.inr (.inr 0)), some (.inl offs)] [] S Q := by
  refine sound ok_M_opens [] 60 ?_
  refine t_M_laysWay S offs _ hc hL hp (fun S' hF hz => ?_) (fun S' hF hz hW => ?_)
  · refine ⟨fun z => absurd rfl z, fun _ => ?_⟩
    have hq := hQ S' hF
    unfold aM_opens at hq
    rw [if_pos hz] at hq
    exact hq
  · refine ⟨fun _ => ?_, fun z => absurd z (by decide)⟩
    have hl0 := hL hz.1
    have hA := tl_mAs hl0 hp
    have hSm : Sm (tl S) S' := Sm.of hF rfl
    have hA' := mAs_sm hSm hA
    have hap := Wy_ap hA' hW
    rw [apM_sm hSm] at hap
    have hbd : ∀ g, 0 ≤ g → g < S' 0 19 → S' 23 g = 1000000 ∨ (-1000 ≤ S' 23 g ∧ S' 23 g ≤ 2000) := fun g g0 g1 => by
      rw [hW.2.2 g g0 g1, smM_sm hSm, tnM_sm hSm]
      have := tnM_b hA.1 (dg_of hl0 hz.2) g0 (by have := hA'.1.2.1; omega)
      omega
    have hq : ∀ S2, Fr [17, 18, 19, 20, 21, 22, 23, 24, 25, 26, 27, 28, 29, 31] [(0, 0), (0, 38)] S S2 → Q (some (.inl (if opM (tl S) (dgF offs (S 0 20)) then 1 else 0))) S2 := fun S2 hF2 => by
      have hq := hQ S2 hF2
      unfold aM_opens at hq
      rwa [if_neg (fun z => z hz)] at hq
    refine t_M_doesOpen S' _ hA'.1.2.1 ⟨hA'.2.1.2.1, hA'.2.1.2.2.1⟩ hbd (fun T2 hF2 hop => ?_) (fun T2 hF2 hop => ?_)
    · rw [hap, hSm.1] at hop
      have ho : opM (tl S) (dgF offs (S 0 20)) = true := decide_eq_true hop
      refine ⟨fun z => absurd z (by decide), fun _ => ?_⟩
      have := hq T2 (((tl_fr S).tr (hF.mo rfl rfl)).tr (hF2.mo rfl rfl))
      rw [ho] at this
      exact this
    · rw [hap, hSm.1] at hop
      have ho : opM (tl S) (dgF offs (S 0 20)) = false := decide_eq_false hop
      refine ⟨fun _ => ?_, fun z => absurd rfl z⟩
      have := hq T2 (((tl_fr S).tr (hF.mo rfl rfl)).tr (hF2.mo rfl rfl))
      rw [ho] at this
      exact this
/-- behind how many a sign goes out -/
def chN (beh : Int → Int) : Nat → Int → Int
  | 0, _ => 0
  | d + 1, s => if beh s < 0 then 0 else chN beh d (beh s) + 1
theorem chN_st {beh : Int → Int} {n : Int} (hb : ∀ i, 0 ≤ i → i < n → beh i < i) : ∀ (d : Nat) (s : Int), 0 ≤ s → s < n → s < d → chN beh (d + 1) s = chN beh d s
  | 0, s, h0, _, h => by omega
  | d + 1, s, h0, h1, h => by
    rw [chN]
    conv => rhs; rw [chN]
    by_cases hz : beh s < 0
    · rw [if_pos hz, if_pos hz]
    · have := hb s h0 h1
      rw [if_neg hz, if_neg hz, chN_st hb d (beh s) (by omega) (by omega) (by omega)]
/-- the time of a sign without errors -/
def rtS (S : St) : Int → Int := snF (S 12) (S 13) (S 10) (S 14) 0 (fun _ => 0) (S 0 20).toNat
theorem snF_at {beh snd ap al : Int → Int} {gone : Int} {off : Int → Int} {n : Nat} (hb : ∀ i : Int, 0 ≤ i → i < n → beh i < i) {i : Int} (h0 : 0 ≤ i) (h1 : i < n) : snF beh snd ap al gone off n i = sgv beh snd ap al gone off (snF beh snd ap al gone off n) i := by
  obtain ⟨k, rfl⟩ : ∃ k : Nat, i = k := ⟨i.toNat, by omega⟩
  obtain ⟨d, rfl⟩ : ∃ d : Nat, n = (k + 1) + d := ⟨n - (k + 1), by omega⟩
  rw [snF_lt (k + 1) k (by omega) d, snF, uf_s]
  unfold sgv sgb
  by_cases hz : beh k < 0
  · rw [if_pos hz, if_pos hz]
  · have := hb k h0 h1
    rw [if_neg hz, if_neg hz, hdM_congr (show snF beh snd ap al gone off k (beh k) = snF beh snd ap al gone off (k + 1 + d) (beh k) from ?_)]
    rw [show k + 1 + d = k + (1 + d) by omega, snF_lt k (beh k) this (1 + d)]
def aM_route (S : St) (sign what : Int) : Int := if ¬ (¬ S 0 18 = 0 ∧ 0 ≤ sign ∧ sign < S 0 20) ∨ ¬ (0 ≤ what ∧ what ≤ 1) then -1 else if what = 0 then chN (S 12) 5 sign else if rtS S sign = 1000000 then -1000000 else rtS S sign
end
section
/-! the reference: route -/
theorem rt_at {S : St} (hl : ldM S) {i : Int} (h0 : 0 ≤ i) (h1 : i < S 0 20) : rtS S i = if S 12 i < 0 then S 10 i else if hdM (S 14) (rtS S) (S 13 i) (S 12 i) = 1000000 then 1000000 else hdM (S 14) (rtS S) (S 13 i) (S 12 i) + S 10 i := by
  have hn := hl.2.1
  have e := snF_at (snd := S 13) (ap := S 10) (al := S 14) (gone := 0) (off := fun _ => 0) (n := (S 0 20).toNat) (fun i j0 j1 => (hl.2.2.2.1 i j0 (by omega)).2.2.2.2.2.1) h0 (by omega)
  have hz : ¬ iand (ishr 0 i) 1 = 1 := by
    obtain ⟨k, rfl⟩ : ∃ k : Nat, i = k := ⟨i.toNat, by omega⟩
    have := bit_nat (a := 0) (k := k) (by omega) (by omega)
    rw [show ((0 : Nat) : Int) = 0 from rfl] at this
    rw [this, Nat.zero_div]
    decide
  change rtS S i = sgv (S 12) (S 13) (S 10) (S 14) 0 (fun _ => 0) (rtS S) i at e
  rw [e]
  unfold sgv sgb
  dsimp only
  by_cases hb : S 12 i < 0
  · rw [if_pos hb, if_pos hb, if_neg (by omega)]
    omega
  · rw [if_neg hb, if_neg hb]
    by_cases hq : hdM (S 14) (rtS S) (S 13 i) (S 12 i) = 1000000
    · rw [if_pos (Or.inl hq), if_pos hq]
    · rw [if_neg (fun z => by rcases z with z | z; exact hq z; exact hz z), if_neg hq]
      omega
theorem rt_b {S : St} (hl : ldM S) {i : Int} (h0 : 0 ≤ i) (h1 : i < S 0 20) : rtS S i = 1000000 ∨ (-500 ≤ rtS S i ∧ rtS S i ≤ 500) := by
  have hn := hl.2.1
  have := snF_b (n := S 0 20) (beh := S 12) (snd := S 13) (ap := S 10) (al := S 14) (gone := 0) (off := fun _ => 0) ⟨by omega, fun i j0 j1 => by have := hl.2.2.2.1 i j0 j1; omega, hl.2.2.2.2.1⟩ (fun i j0 j1 => by dsimp only; omega) (S 0 20).toNat (by omega) i h0 (by omega)
  change rtS S i = 1000000 ∨ (-(100 * (i + 1)) ≤ rtS S i ∧ rtS S i ≤ 100 * (i + 1)) at this
  omega
set_option maxHeartbeats 1000000 in
theorem t_M_route (S : St) (sign what : Int) (Q : Option AV → St → Prop) (hL : ¬ S 0 18 = 0 → ldM S) (hQ : ∀ S', Fr [17, 18, 19, 20, 21, 22, 23, 24, 25, 26, 27, 28, 29, 31] [(0, 0), (0, 38)] S S' → Q (some (.inl (aM_route S sign what))) S') : Smm H_M_route 0 [some (.inr (.inr 0)), some (.inl sign), some (.inl what), none, none, none, none, none] [] S Q := by
  have e18 : th S 0 18 = S 0 18 := th_0 S (by decide)
  have e20 : th S 0 20 = S 0 20 := th_0 S (by decide)
  have no : (¬ (¬ S 0 18 = 0 ∧ 0 ≤ sign ∧ sign < S 0 20) ∨ ¬ (0 ≤ what ∧ what ≤ 1)) → Q (some (.inl (-1))) (th S) := fun hz => by
    have := hQ (th S) (th_fr S)
    unfold aM_route at this
    rwa [if_pos hz] at this
  refine sound ok_M_route [39] 60 ?_
  refine t_M_isSign (th S) sign _ (fun h1 => ?_) (fun h1 => by
    rw [e18, e20] at h1
    exact ⟨fun _ => no (Or.inl h1), fun z => absurd rfl z⟩)
  rw [e18, e20] at h1
  refine ⟨fun z => absurd z (by decide), fun _ => ?_⟩
  refine t_M_isPart _ _ _ _ (fun h2 => ?_) (fun h2 => ⟨fun z => absurd rfl z, fun _ => no (Or.inr h2)⟩)
  refine ⟨fun _ => ?_, fun z => absurd z (by decide)⟩
  have hl0 := hL h1.1
  have hn5 := hl0.2.1
  have hq := hQ (th S) (th_fr S)
  unfold aM_route at hq
  rw [if_neg (by omega)] at hq
  have c1 : th S 10 = S 10 := th_c S (by decide)
  have c2 : th S 12 = S 12 := th_c S (by decide)
  have c3 : th S 13 = S 13 := th_c S (by decide)
  have c4 : th S 14 = S 14 := th_c S (by decide)
  have loop : ∀ (q : Int × Int × Int × Int), (0 ≤ q.1 ∧ q.1 ≤ sign ∧ 0 ≤ q.2.1 ∧ q.2.1 ≤ sign - q.1 ∧ q.2.2.1 ≤ 100 * (sign - q.1 + 1) ∧ -(10 * (sign - q.1)) ≤ q.2.2.1 ∧ q.2.1 + chN (S 12) 5 q.1 = chN (S 12) 5 sign ∧ ((q.2.2.2 = 1 ∧ rtS S sign = 1000000) ∨ (q.2.2.2 = 0 ∧ (rtS S q.1 = 1000000 → rtS S sign = 1000000) ∧ (¬ rtS S q.1 = 1000000 → rtS S sign = q.2.2.1 - S 10 q.1 + rtS S q.1)))) →
      Smm H_M_route 39 [some (.inr (.inr 0)), some (.inl sign), some (.inl what), some (.inl q.2.1), some (.inl q.2.2.1), some (.inl q.2.2.2), some (.inl q.1), none] [] (th S) Q := by
    refine lp_me (P := fun (q : Int × Int × Int × Int) => Smm H_M_route 39 [some (.inr (.inr 0)), some (.inl sign), some (.inl what), some (.inl q.2.1), some (.inl q.2.2.1), some (.inl q.2.2.2), some (.inl q.1), none] [] (th S) Q) _ (fun q => q.1.toNat) ?_
    rintro ⟨s, n, sum, nv⟩ ⟨a1, a2, a3, a4, a6, a7, a8, a9⟩ ih
    dsimp only at a1 a2 a3 a4 a6 a7 a8 a9 ih ⊢
    have hs := hl0.2.2.2.1 s a1 (by omega)
    have hrt := rt_at hl0 a1 (by omega)
    refine sound ok_M_route [39, 81] 60 ?_
    refine ⟨by omega, ?_⟩
    rw [c2]
    refine ⟨fun h3 => ?_, fun h3 => ?_⟩
    · rw [if_pos h3] at hrt
      have hch : chN (S 12) 5 s = 0 := by rw [chN, if_pos h3]
      rw [hch] at a8
      refine ⟨fun h4 => ?_, fun h4 => ?_⟩
      · rw [if_neg h4] at hq
        refine ⟨fun h5 => ?_, fun h5 => ?_⟩
        · have : rtS S sign = sum := by omega
          rw [if_neg (by omega), this] at hq
          exact hq
        · rw [if_pos (by omega)] at hq
          exact hq
      · rw [if_pos h4, ← a8, Int.add_zero] at hq
        exact hq
    · rw [if_neg (by omega)] at hrt
      generalize hb : S 12 s = b at hs hrt h3
      have hb2 := hl0.2.2.2.1 b (by omega) (by omega)
      have hd := hl0.2.2.2.2.1 (5 * S 13 s + b) (by omega) (by omega)
      have hch : chN (S 12) 5 s = chN (S 12) 5 b + 1 := by
        conv => lhs; rw [chN]
        rw [hb, if_neg (by omega), chN_st (n := S 0 20) (fun i j0 j1 => (hl0.2.2.2.1 i j0 j1).2.2.2.2.2.1) 4 b (by omega) (by omega) (by omega)]
      have e0 : i32 (i32 (5 * S 13 s) + b) = 5 * S 13 s + b := by rw [i32_id (v := 5 * S 13 s) (by omega) (by omega)]; exact i32_id (by omega) (by omega)
      unfold hdM at hrt
      generalize hdv : S 14 (5 * S 13 s + b) = d at hd hrt
      have e1 : i32 (sum + i32 (d + S 10 b)) = sum + d + S 10 b := by rw [i32_id (v := d + S 10 b) (by omega) (by omega)]; rw [i32_id (by omega) (by omega)]; omega
      have e2 : i32 (n + 1) = n + 1 := i32_id (by omega) (by omega)
      have rest : ∀ nv' : Int, nv' = (if d < 0 then 1 else nv) → Smm H_M_route 81 [some (.inr (.inr 0)), some (.inl sign), some (.inl what), some (.inl n), some (.inl sum), some (.inl nv'), some (.inl s), some (.inl d)] [] (th S) Q := by
        intro nv' hnv
        refine sound ok_M_route [39] 60 ?_
        refine ⟨by omega, ?_⟩
        rw [c2, hb]
        refine ⟨by omega, ?_⟩
        refine ⟨by omega, ?_⟩
        refine Smm.sub (ih (b, n + 1, sum + d + S 10 b, nv') ⟨by dsimp only; omega, by dsimp only; omega, by dsimp only; omega, by dsimp only; omega, by dsimp only; omega, by dsimp only; omega, by dsimp only; omega, ?_⟩ (by dsimp only; omega)) ⟨Or.inr rfl, Or.inr rfl, Or.inr rfl, Or.inr (sI e2.symm), Or.inr (sI (by rw [c1, e1])), Or.inr rfl, Or.inr (sI (by rw [c2, hb])), Or.inl rfl, trivial⟩
        dsimp only
        by_cases hz : d < 0
        · rw [if_pos hz] at hnv
          rw [if_pos (by rw [if_pos (Or.inl hz)])] at hrt
          left
          exact ⟨hnv, by omega⟩
        · rw [if_neg hz] at hnv
          by_cases hz2 : rtS S b = 1000000
          · rw [if_pos (by rw [if_pos (Or.inr hz2)])] at hrt
            rcases a9 with q | q
            · exact Or.inl ⟨by omega, q.2⟩
            · exact Or.inr ⟨by omega, fun _ => q.2.1 hrt, fun z => absurd hz2 z⟩
          · rw [if_neg (c := d < 0 ∨ rtS S b = 1000000) (by omega)] at hrt
            rcases a9 with q | q
            · exact Or.inl ⟨by omega, q.2⟩
            · refine Or.inr ⟨by omega, fun z => absurd z hz2, fun _ => ?_⟩
              have hrb := rt_b hl0 (i := b) (by omega) (by omega)
              rw [if_neg (by omega)] at hrt
              have := q.2.2 (by omega)
              omega
      refine ⟨by omega, ?_⟩
      refine ⟨by omega, ?_⟩
      rw [c2, c3, hb]
      refine ⟨by rw [e0]; omega, ?_⟩
      rw [c4, e0, hdv]
      refine ⟨fun h4 => ?_, fun h4 => ?_⟩
      · exact rest nv (by rw [if_neg (by omega)])
      · exact rest 1 (by rw [if_pos h4])
  refine ⟨by omega, ?_⟩
  refine Smm.sub (loop (sign, 0, S 10 sign, 0) ⟨h1.2.1, Int.le_refl _, Int.le_refl _, by dsimp only; omega, ?_, ?_, by dsimp only; omega, Or.inr ⟨rfl, fun z => z, fun _ => ?_⟩⟩) ⟨Or.inr rfl, Or.inr rfl, Or.inr rfl, Or.inr rfl, Or.inr (sI (by rw [c1])), Or.inr rfl, Or.inr rfl, Or.inl rfl, trivial⟩
  · have := hl0.2.2.2.1 sign h1.2.1 h1.2.2; dsimp only; omega
  · have := hl0.2.2.2.1 sign h1.2.1 h1.2.2; dsimp only; omega
  · dsimp only; omega
end
section
/-! the reference: waits; best, thief -/
/-- so many later, if at all -/
def plN (h n : Int) : Int := if h = 1000000 then 1000000 else h + n
/-- does it open on a way, if guard g turns at v instead -/
def op1 (T : St) (f : Int → Int) (g v : Int) : Bool := decide (apF (T 0 21) (uf (tnM T (smM T f)) g v) (T 0 19).toNat ≤ T 0 22)
/-- tallies: of the ways ahead, and of this one up to place i -/
def tyI (P : Int → (Int → Int) → Bool) (pre : List (Int → Int)) (f : Int → Int) (i N : Int) (t : Int → Int) : Prop := ∀ k, 0 ≤ k → k < N → t k = (pre.countP (P k) : Int) + if k < i ∧ P k f = true then 1 else 0
theorem ty_yes {P : Int → (Int → Int) → Bool} {pre : List (Int → Int)} {f : Int → Int} {i N : Int} {t : Int → Int} (h : tyI P pre f i N t) (h0 : 0 ≤ i) (h1 : i < N) (hp : P i f = true) : tyI P pre f (i + 1) N (uf t i (t i + 1)) := by
  intro k k0 k1
  have hk := h k k0 k1
  by_cases hz : k = i
  · subst hz
    rw [uf_s, hk, if_neg (by omega), if_pos ⟨by omega, hp⟩]
    omega
  · rw [uf_n _ _ hz, hk]
    simp [show (k < i + 1 ↔ k < i) by omega]
theorem ty_no {P : Int → (Int → Int) → Bool} {pre : List (Int → Int)} {f : Int → Int} {i N : Int} {t : Int → Int} (h : tyI P pre f i N t) (hp : P i f = false) : tyI P pre f (i + 1) N t := by
  intro k k0 k1
  rw [h k k0 k1]
  by_cases hz : k = i
  · subst hz
    simp [hp]
  · simp [show (k < i + 1 ↔ k < i) by omega]
theorem ty_next {P : Int → (Int → Int) → Bool} {pre : List (Int → Int)} {f : Int → Int} {N : Int} {t : Int → Int} (h : tyI P pre f N N t) (f' : Int → Int) : tyI P (pre ++ [f]) f' 0 N t := by
  intro k k0 k1
  rw [h k k0 k1, List.countP_append, List.countP_cons, List.countP_nil, if_neg (c := k < 0 ∧ P k f' = true) (by omega)]
  by_cases hp : P k f = true
  · simp [hp, k1]
  · simp [hp]
theorem ty_b {P : Int → (Int → Int) → Bool} {pre : List (Int → Int)} {f : Int → Int} {i N : Int} {t : Int → Int} (h : tyI P pre f i N t) {k : Int} (h0 : 0 ≤ k) (h1 : k < N) : 0 ≤ t k ∧ t k ≤ pre.length + 1 := by
  rw [h k h0 h1]
  have := List.countP_le_length (p := P k) (l := pre)
  split <;> omega
/-- the first of the highest -/
def bmF (t : Int → Int) : Nat → Int
  | 0 => 0
  | k + 1 => if t (bmF t k) < t k then k else bmF t k
theorem bmF_b (t : Int → Int) : ∀ k : Nat, 0 ≤ bmF t k ∧ (bmF t k < k ∨ bmF t k = 0)
  | 0 => ⟨Int.le_refl _, Or.inr rfl⟩
  | k + 1 => by
    have := bmF_b t k
    rw [bmF]
    split <;> omega
theorem bmF_1 (t : Int → Int) : bmF t 1 = 0 := by simp [bmF]
theorem bmF_congr {t t' : Int → Int} : ∀ k : Nat, (∀ j : Int, 0 ≤ j → j < k → t j = t' j) → bmF t k = bmF t' k
  | 0, _ => rfl
  | k + 1, h => by
    have hb := bmF_b t' k
    rw [bmF, bmF, bmF_congr k (fun j h0 hj => h j h0 (by omega)), h k (by omega) (by omega), h (bmF t' k) (by omega) (by omega)]
/-- by waiting n parts -/
def waP (T : St) (g : Int) (n : Int) (f : Int → Int) : Bool := op1 T f g (plN (tnM T (smM T f) g) n)
def aM_waits (S : St) (g what : Int) : Int := if ¬ (¬ S 0 18 = 0 ∧ 0 ≤ g ∧ g < S 0 19) ∨ ¬ (0 ≤ what ∧ what ≤ 1) then -1 else
  if what = 0 then bmF (fun n => ((wyM (tl S)).countP (waP (tl S) g n) : Int)) 10 else ((wyM (tl S)).countP (waP (tl S) g (bmF (fun n => ((wyM (tl S)).countP (waP (tl S) g n) : Int)) 10)) : Int)
set_option maxHeartbeats 2000000 in
theorem t_M_waits (S : St) (g what : Int) (Q : Option AV → St → Prop) (hL : ¬ S 0 18 = 0 → ldM S) (hp : plM S) (hQ : ∀ S', Fr [17, 18, 19, 20, 21, 22, 23, 24, 25, 26, 27, 28, 29, 31] [(0, 0), (0, 38)] S S' → Q (some (.inl (aM_waits S g what))) S') : Smm H_M_waits 0 [some (.inr (.inr 0)), some (.inl g), some (.inl what), none, none] [] S Q := by
  have e18 : th S 0 18 = S 0 18 := th_0 S (by decide)
  have e19 : th S 0 19 = S 0 19 := th_0 S (by decide)
  have no : (¬ (¬ S 0 18 = 0 ∧ 0 ≤ g ∧ g < S 0 19) ∨ ¬ (0 ≤ what ∧ what ≤ 1)) → Q (some (.inl (-1))) (th S) := fun hz => by
    have := hQ (th S) (th_fr S)
    unfold aM_waits at this
    rwa [if_pos hz] at this
  refine sound ok_M_waits [29] 60 ?_
  refine t_M_isGuard (th S) g _ (fun h1 => ?_) (fun h1 => by
    rw [e18, e19] at h1
    exact ⟨fun _ => no (Or.inl h1), fun z => absurd rfl z⟩)
  rw [e18, e19] at h1
  refine ⟨fun z => absurd z (by decide), fun _ => ?_⟩
  refine t_M_isPart _ _ _ _ (fun h2 => ?_) (fun h2 => ?_)
  · refine ⟨fun _ => ?_, fun z => absurd z (by decide)⟩
    have hl0 := hL h1.1
    have hA := tl_mAs hl0 hp
    have hk4 := hl0.1
    have p19 : tl S 0 19 = S 0 19 := tl_0 S (by decide) (by decide)
    have fin : ∀ (T : St) (x y : Int), Fr [21, 22, 23, 24, 25, 26, 27, 28, 29, 31] [] (tl S) T → tyI (waP (tl S) g) (wyM (tl S)) (fun _ => 0) 0 10 (T 26) → Smm H_M_waits 123 [some (.inr (.inr 0)), some (.inl g), some (.inl what), some (.inl x), some (.inl y)] [] T Q := by
      intro T x y hF hx
      have ht : ∀ k : Int, 0 ≤ k → k < 10 → T 26 k = ((wyM (tl S)).countP (waP (tl S) g k) : Int) := fun k k0 k1 => by
        rw [hx k k0 k1, if_neg (by omega)]; omega
      have eb := bmF_congr (t := T 26) (t' := fun n => ((wyM (tl S)).countP (waP (tl S) g n) : Int)) 10 (fun j j0 j1 => ht j j0 (by omega))
      have hbb := bmF_b (T 26) 10
      have hq := hQ T ((tl_fr S).tr (hF.mo rfl rfl))
      unfold aM_waits at hq
      rw [if_neg (by omega), ← eb] at hq
      have loop : ∀ (i : Int) (_ : Unit), (1 ≤ i ∧ i ≤ 10) → Smm H_M_waits 128 [some (.inr (.inr 0)), some (.inl g), some (.inl what), some (.inl (bmF (T 26) i.toNat)), some (.inl i)] [] T Q := by
        refine lp_up (P := fun i _ => Smm H_M_waits 128 [some (.inr (.inr 0)), some (.inl g), some (.inl what), some (.inl (bmF (T 26) i.toNat)), some (.inl i)] [] T Q) (fun i _ => 1 ≤ i ∧ i ≤ 10) 10 ?_ ?_
        · rintro i - hi hi2
          rw [show i.toNat = 10 by omega]
          refine sound ok_M_waits [128] 30 ?_
          refine ⟨fun _ => ?_, fun h3 => absurd h3 (by omega)⟩
          refine ⟨fun h4 => ?_, fun h4 => ?_⟩
          · rw [if_neg h4, ← ht _ hbb.1 (by omega)] at hq
            refine ⟨by omega, ?_⟩
            exact hq
          · rw [if_pos h4] at hq
            exact hq
        · rintro i - hi hi2 ih
          obtain ⟨k, rfl⟩ : ∃ k : Nat, i = k := ⟨i.toNat, by omega⟩
          have ih := ih () (by omega)
          rw [show ((k : Int) + 1).toNat = k + 1 by omega, bmF] at ih
          rw [show ((k : Int)).toNat = k by omega]
          have hb := bmF_b (T 26) k
          refine sound ok_M_waits [128] 40 ?_
          refine ⟨fun h3 => absurd h3 (by omega), fun _ => ?_⟩
          refine ⟨by omega, ?_⟩
          refine ⟨by omega, ?_⟩
          refine ⟨fun h3 => ?_, fun h3 => ?_⟩
          · rw [if_neg (by omega)] at ih
            exact Smm.sub ih ⟨Or.inr rfl, Or.inr rfl, Or.inr rfl, Or.inr rfl, Or.inr (sI (i32_id (by omega) (by omega)).symm), trivial⟩
          · rw [if_pos (by omega)] at ih
            exact Smm.sub ih ⟨Or.inr rfl, Or.inr rfl, Or.inr rfl, Or.inr rfl, Or.inr (sI (i32_id (by omega) (by omega)).symm), trivial⟩
      refine sound ok_M_waits [128] 20 ?_
      exact Smm.sub (loop 1 () (by omega)) ⟨Or.inr rfl, Or.inr rfl, Or.inr rfl, Or.inr (sI (bmF_1 _)), Or.inr rfl, trivial⟩
    have hlen := wyM_len hA
    have loop : ∀ (post pre : List (Int → Int)) (f : Int → Int) (T : St), wyM (tl S) = pre ++ f :: post → (Fr [21, 22, 23, 24, 25, 26, 27, 28, 29, 31] [] (tl S) T ∧ Wy T f ∧ tyI (waP (tl S) g) pre (fun _ => 0) 0 10 (T 26)) → Smm H_M_waits 52 [some (.inr (.inr 0)), some (.inl g), some (.inl what), none, none] [] T Q := by
      refine lp_wy (P := fun _ (T : St) => Smm H_M_waits 52 [some (.inr (.inr 0)), some (.inl g), some (.inl what), none, none] [] T Q) (fun pre f T => Fr [21, 22, 23, 24, 25, 26, 27, 28, 29, 31] [] (tl S) T ∧ Wy T f ∧ tyI (waP (tl S) g) pre (fun _ => 0) 0 10 (T 26)) ?_
      rintro pre f post T hl ⟨hF, hW, hI⟩ ih
      have hSm : Sm (tl S) T := Sm.of hF rfl
      have hA' := mAs_sm hSm hA
      have hfm0 : f ∈ wyM (tl S) := by rw [hl]; exact List.mem_append_right _ List.mem_cons_self
      have hfm : f ∈ wyM T := by rw [wyM_sm hSm]; exact hfm0
      have hpl : pre.length < (wyM (tl S)).length := by rw [hl, List.length_append, List.length_cons]; omega
      have next : ∀ (T2 : St) (x y : Int), Fr [21, 22, 23, 24, 25, 26, 27, 28, 29, 31] [] (tl S) T2 → (∀ i, 0 ≤ i → i < (tl S) 0 20 → T2 21 i = f i) → tyI (waP (tl S) g) (pre ++ [f]) (fun _ => 0) 0 10 (T2 26) → Smm H_M_waits 116 [some (.inr (.inr 0)), some (.inl g), some (.inl what), some (.inl x), some (.inl y)] [] T2 Q := by
        intro T2 x y hF2 ho2 hI2
        have hSm2 : Sm (tl S) T2 := Sm.of hF2 rfl
        refine sound ok_M_waits [52, 123] 20 ?_
        refine t_M_nextW T2 pre f post _ (mAs_sm hSm2 hA) (by rw [wyM_sm hSm2]; exact hl) (fun i i0 i1 => ho2 i i0 (by rw [hSm2.1] at i1; exact i1)) (fun f' post' S3 hp hF3 hW3 => ?_) (fun S3 hp hF3 => ?_)
        · refine ⟨fun _ => ?_, fun z => absurd z (by decide)⟩
          refine Smm.sub (ih f' post' S3 hp ⟨hF2.tr (hF3.mo rfl rfl), hW3, ?_⟩) ⟨Or.inr rfl, Or.inr rfl, Or.inr rfl, Or.inl rfl, Or.inl rfl, trivial⟩
          rw [hF3.c 26 rfl]
          exact hI2
        · refine ⟨fun z => absurd rfl z, fun _ => ?_⟩
          have hx : tyI (waP (tl S) g) (wyM (tl S)) (fun _ => 0) 0 10 (S3 26) := by rw [hF3.c 26 rfl, hl, hp]; exact hI2
          have hFx := hF2.tr (hF3.mo rfl rfl)
          exact Smm.sub (fin S3 x y hFx hx) ⟨Or.inr rfl, Or.inr rfl, Or.inr rfl, Or.inr rfl, Or.inr rfl, trivial⟩
      have q19 : T 0 19 = S 0 19 := by rw [hSm.1, p19]
      have hv : T 23 g = tnM (tl S) (smM (tl S) f) g := by rw [hW.2.2 g h1.2.1 (by omega), tnM_sm hSm, smM_sm hSm]
      have hvb := tnM_b hA.1 (wyM_of hA hfm0) h1.2.1 (by omega)
      generalize hown : tnM (tl S) (smM (tl S) f) g = own at hv hvb
      have inner : ∀ (i : Int) (T2 : St), ((0 ≤ i ∧ i ≤ 10) ∧ Fr [25, 23, 26] [] T T2 ∧ (∀ j, ¬ j = g → T2 23 j = T 23 j) ∧ tyI (waP (tl S) g) pre f i 10 (T2 26)) → Smm H_M_waits 62 [some (.inr (.inr 0)), some (.inl g), some (.inl what), some (.inl own), some (.inl i)] [] T2 Q := by
        refine lp_up (P := fun i T2 => Smm H_M_waits 62 [some (.inr (.inr 0)), some (.inl g), some (.inl what), some (.inl own), some (.inl i)] [] T2 Q) _ 10 ?_ ?_
        · rintro i T2 hi ⟨hi2, hF2, htn, hty⟩
          refine sound ok_M_waits [116] 20 ?_
          refine ⟨fun _ => ?_, fun h3 => absurd h3 (by omega)⟩
          refine next T2 _ _ (hF.tr (hF2.mo rfl rfl)) (fun j j0 j1 => ?_) ?_
          · rw [hF2.c 21 rfl]
            exact hW.1 j j0 (by rw [hSm.1]; exact j1)
          · rw [show i = 10 by omega] at hty
            exact ty_next hty _
        · rintro i T2 hi ⟨hi2, hF2, htn, hty⟩ ih
          have r0 : T2 0 = T 0 := hF2.c 0 rfl
          have r19 : T2 0 19 = S 0 19 := by rw [r0, q19]
          have hwa : waP (tl S) g i f = op1 (tl S) f g (plN own i) := by unfold waP; rw [hown]
          have hub := ty_b hty hi2.1 hi
          have go : ∀ v, v = plN own i → Smm H_M_waits 91 [some (.inr (.inr 0)), some (.inl g), some (.inl what), some (.inl own), some (.inl i)] [.inl v, .inl g, .inr (.inr 23)] T2 Q := by
            intro v hvv
            have hvb2 : v = 1000000 ∨ (-1000 ≤ v ∧ v ≤ 2000) := by rw [hvv]; unfold plN; split <;> omega
            have hF3 := hF2.up 23 g v rfl
            have etn : ∀ j, 0 ≤ j → j < S 0 19 → up T2 23 g v 23 j = uf (tnM (tl S) (smM (tl S) f)) g v j := fun j j0 j1 => by
              by_cases hj : j = g
              · rw [hj, up_s, uf_s]
              · rw [up_n _ _ _ hj, uf_n _ _ hj, htn j hj, hW.2.2 j j0 (by omega), tnM_sm hSm, smM_sm hSm]
            have u0 : up T2 23 g v 0 = tl S 0 := by rw [up_o _ _ _ (by decide), r0, hSm.1]
            have eap : apF (up T2 23 g v 0 21) (up T2 23 g v 23) (up T2 23 g v 0 19).toNat = apF (tl S 0 21) (uf (tnM (tl S) (smM (tl S) f)) g v) (tl S 0 19).toNat := by
              rw [u0]
              exact apF_congr (fun j j0 j1 => etn j j0 (by omega))
            refine sound ok_M_waits [62] 40 ?_
            refine ⟨by omega, ?_⟩
            refine t_M_doesOpen (up T2 23 g v) _ (by rw [u0]; exact hA.1.2.1) (by rw [u0]; exact ⟨hA.2.1.2.1, hA.2.1.2.2.1⟩) (fun j j0 j1 => ?_) (fun T3 hF4 hop => ?_) (fun T3 hF4 hop => ?_)
            · rw [u0, p19] at j1
              rw [etn j j0 j1]
              by_cases hj : j = g
              · rw [hj, uf_s]; exact hvb2
              · rw [uf_n _ _ hj]
                have := tnM_b hA.1 (wyM_of hA hfm0) j0 (show j < 4 by omega)
                omega
            · rw [eap, u0] at hop
              have ht3 : T3 26 = T2 26 := by rw [hF4.c 26 rfl, up_o _ _ _ (by decide)]
              refine ⟨fun z => absurd z (by decide), fun _ => ?_⟩
              refine ⟨by omega, ?_⟩
              refine ⟨by omega, ?_⟩
              refine Smm.sub (ih (up T3 26 i (i32 (T3 26 i + 1))) ⟨by omega, (hF3.tr (hF4.mo rfl rfl)).up _ _ _ rfl, fun j hj => ?_, ?_⟩) ⟨Or.inr rfl, Or.inr rfl, Or.inr rfl, Or.inr rfl, Or.inr (sI (i32_id (by omega) (by omega)).symm), trivial⟩
              · rw [up_o _ _ _ (by decide), hF4.c 23 rfl, up_n _ _ _ hj]
                exact htn j hj
              · rw [up_c, ht3, i32_id (by omega) (by omega)]
                exact ty_yes hty hi2.1 hi (by rw [hwa, ← hvv]; exact decide_eq_true hop)
            · rw [eap, u0] at hop
              have ht3 : T3 26 = T2 26 := by rw [hF4.c 26 rfl, up_o _ _ _ (by decide)]
              refine ⟨fun _ => ?_, fun z => absurd rfl z⟩
              refine Smm.sub (ih T3 ⟨by omega, hF3.tr (hF4.mo rfl rfl), fun j hj => ?_, ?_⟩) ⟨Or.inr rfl, Or.inr rfl, Or.inr rfl, Or.inr rfl, Or.inr (sI (i32_id (by omega) (by omega)).symm), trivial⟩
              · rw [hF4.c 23 rfl, up_n _ _ _ hj]
                exact htn j hj
              · rw [ht3]
                exact ty_no hty (by rw [hwa, ← hvv]; exact decide_eq_false hop)
          refine sound ok_M_waits [91] 40 ?_
          refine ⟨fun h3 => absurd h3 (by omega), fun _ => ?_⟩
          refine ⟨fun h3 => ?_, fun h3 => ?_⟩
          · exact go _ (by unfold plN; rw [if_neg h3]; exact i32_id (by omega) (by omega))
          · exact go _ (by unfold plN; rw [if_pos h3])
      refine sound ok_M_waits [62] 30 ?_
      refine ⟨by omega, ?_⟩
      rw [hv]
      refine inner 0 T ⟨by omega, Fr.rf _ _ _, fun _ _ => rfl, ?_⟩
      intro k k0 k1
      have := hI k k0 k1
      rw [this]
      simp [show ¬ k < 0 by omega]
    obtain ⟨r, hr⟩ := wy_first (err := (tl S) 18) ((tl S) 0 20).toNat (fun i hi => (hA.2.2 i (by omega) (by have := hA.1.1.1; omega)).1)
    refine t_M_asTold (th S) _ (by rw [th_0 S (by decide)]; have := hl0.2.1; omega) (by rw [th_0 S (by decide)]; have := hl0.1; omega) ?_
    have clear : ∀ (i : Int) (T : St), ((0 ≤ i ∧ i ≤ 10) ∧ Fr [26] [] (tl S) T ∧ ∀ k, 0 ≤ k → k < i → T 26 k = 0) → Smm H_M_waits 29 [some (.inr (.inr 0)), some (.inl g), some (.inl what), some (.inl i), none] [] T Q := by
      refine lp_up (P := fun i T => Smm H_M_waits 29 [some (.inr (.inr 0)), some (.inl g), some (.inl what), some (.inl i), none] [] T Q) _ 10 ?_ ?_
      · rintro i T hi ⟨hi2, hF, hz⟩
        have hSm : Sm (tl S) T := Sm.of hF rfl
        refine sound ok_M_waits [52] 20 ?_
        refine ⟨fun _ => ?_, fun h3 => absurd h3 (by omega)⟩
        refine t_M_firstWay T _ (mAs_sm hSm hA) (fun T2 hF2 hW => ?_)
        refine Smm.sub (loop r [] (fsF (tl S 18) (tl S 0 20).toNat) T2 hr ⟨(hF.mo rfl rfl).tr (hF2.mo rfl rfl), ?_, ?_⟩) ⟨Or.inr rfl, Or.inr rfl, Or.inr rfl, Or.inl rfl, Or.inl rfl, trivial⟩
        · rw [← hSm.1, ← hSm.2.2.2.2.2.2.1]
          exact hW
        · rw [hF2.c 26 rfl]
          intro k k0 k1
          rw [hz k k0 (by omega), if_neg (by omega)]
          rfl
      · rintro i T hi ⟨hi2, hF, hz⟩ ih
        refine sound ok_M_waits [29] 20 ?_
        refine ⟨fun h3 => absurd h3 (by omega), fun _ => ?_⟩
        refine ⟨by omega, ?_⟩
        refine Smm.sub (ih (up T 26 i 0) ⟨by omega, hF.up _ _ _ rfl, fun k k0 k1 => ?_⟩) ⟨Or.inr rfl, Or.inr rfl, Or.inr rfl, Or.inr (sI (i32_id (by omega) (by omega)).symm), Or.inl rfl, trivial⟩
        by_cases hk : k = i
        · rw [hk, up_s]
        · rw [up_n _ _ _ hk]
          exact hz k k0 (by omega)
    exact clear 0 (tl S) ⟨by omega, Fr.rf _ _ _, fun k k0 k1 => by omega⟩
  · exact ⟨fun z => absurd rfl z, fun _ => no (Or.inr h2)⟩
end
section
/-! the reference: best, thief -/
/-- a simple plan k instead (z: 0 by what the guard hears, else by the signs as they are) -/
def beP (T : St) (g z k : Int) (f : Int → Int) : Bool := op1 T f g (plN (if z = 0 then hdM (T 19) (smM T f) g (k / 10) else smM T f (k / 10)) (k % 10))
set_option maxHeartbeats 2000000 in
theorem t_M_talliesOne (B : St) (g z : Int) (Q : Option AV → St → Prop) (hA : mAs B) (h1 : 0 ≤ g ∧ g < B 0 19) (hQ : ∀ S', Fr [21, 22, 23, 24, 25, 26, 27, 28, 29, 31] [] B S' → (∀ k, 0 ≤ k → k < 10 * B 0 20 → S' 26 k = ((wyM B).countP (beP B g z k) : Int)) → Q none S') : Smm H_M_talliesOne 0 [some (.inr (.inr 0)), some (.inl g), some (.inl z), none, none, none, none] [] B Q := by
    have hk4 := hA.1.2.1
    have hn5 := hA.1.1.1
    generalize hN : 10 * B 0 20 = N at hQ
    have hlen := wyM_len hA
    have loop : ∀ (post pre : List (Int → Int)) (f : Int → Int) (T : St), wyM B = pre ++ f :: post → (Fr [21, 22, 23, 24, 25, 26, 27, 28, 29, 31] [] B T ∧ Wy T f ∧ tyI (beP B g z) pre (fun _ => 0) 0 N (T 26)) → Smm H_M_talliesOne 25 [some (.inr (.inr 0)), some (.inl g), some (.inl z), none, none, none, none] [] T Q := by
      refine lp_wy (P := fun _ (T : St) => Smm H_M_talliesOne 25 [some (.inr (.inr 0)), some (.inl g), some (.inl z), none, none, none, none] [] T Q) (fun pre f T => Fr [21, 22, 23, 24, 25, 26, 27, 28, 29, 31] [] B T ∧ Wy T f ∧ tyI (beP B g z) pre (fun _ => 0) 0 N (T 26)) ?_
      rintro pre f post T hl ⟨hF, hW, hI⟩ ih
      have hSm : Sm B T := Sm.of hF rfl
      have hA' := mAs_sm hSm hA
      have hfm0 : f ∈ wyM B := by rw [hl]; exact List.mem_append_right _ List.mem_cons_self
      have hfm : f ∈ wyM T := by rw [wyM_sm hSm]; exact hfm0
      have hpl : pre.length < (wyM B).length := by rw [hl, List.length_append, List.length_cons]; omega
      have next : ∀ (T2 : St) (x y : Int) (x5 x6 : Option AV), Fr [21, 22, 23, 24, 25, 26, 27, 28, 29, 31] [] B T2 → (∀ i, 0 ≤ i → i < B 0 20 → T2 21 i = f i) → tyI (beP B g z) (pre ++ [f]) (fun _ => 0) 0 N (T2 26) → Smm H_M_talliesOne 145 [some (.inr (.inr 0)), some (.inl g), some (.inl z), some (.inl x), some (.inl y), x5, x6] [] T2 Q := by
        intro T2 x y x5 x6 hF2 ho2 hI2
        have hSm2 : Sm B T2 := Sm.of hF2 rfl
        refine sound ok_M_talliesOne [25, 152] 20 ?_
        refine t_M_nextW T2 pre f post _ (mAs_sm hSm2 hA) (by rw [wyM_sm hSm2]; exact hl) (fun i i0 i1 => ho2 i i0 (by rw [hSm2.1] at i1; exact i1)) (fun f' post' S3 hp hF3 hW3 => ?_) (fun S3 hp hF3 => ?_)
        · refine ⟨fun _ => ?_, fun z => absurd z (by decide)⟩
          refine Smm.sub (ih f' post' S3 hp ⟨hF2.tr (hF3.mo rfl rfl), hW3, ?_⟩) ⟨Or.inr rfl, Or.inr rfl, Or.inr rfl, Or.inl rfl, Or.inl rfl, Or.inl rfl, Or.inl rfl, trivial⟩
          rw [hF3.c 26 rfl]
          exact hI2
        · refine ⟨fun z => absurd rfl z, fun _ => ?_⟩
          have hx : tyI (beP B g z) (wyM B) (fun _ => 0) 0 N (S3 26) := by rw [hF3.c 26 rfl, hl, hp]; exact hI2
          have hFx := hF2.tr (hF3.mo rfl rfl)
          refine sound ok_M_talliesOne [] 10 ?_
          exact hQ S3 hFx (fun k k0 k1 => by rw [hx k k0 k1, if_neg (by omega)]; omega)
      have q19 : T 0 19 = B 0 19 := by rw [hSm.1]
      have hv : T 23 g = tnM B (smM B f) g := by rw [hW.2.2 g h1.1 (by omega), tnM_sm hSm, smM_sm hSm]
      have ho := wyM_of hA hfm0
      generalize hown : tnM B (smM B f) g = own at hv
      have outer : ∀ (s : Int) (q : St × Option AV × Option AV), ((0 ≤ s ∧ s ≤ B 0 20) ∧ Fr [25, 23, 26] [] T q.1 ∧ (∀ j, ¬ j = g → q.1 23 j = T 23 j) ∧ tyI (beP B g z) pre f (10 * s) N (q.1 26)) → Smm H_M_talliesOne 35 [some (.inr (.inr 0)), some (.inl g), some (.inl z), some (.inl own), some (.inl s), q.2.1, q.2.2] [] q.1 Q := by
        refine lp_up (P := fun s (q : St × Option AV × Option AV) => Smm H_M_talliesOne 35 [some (.inr (.inr 0)), some (.inl g), some (.inl z), some (.inl own), some (.inl s), q.2.1, q.2.2] [] q.1 Q) _ (B 0 20) ?_ ?_
        · rintro s ⟨T2, x5, x6⟩ hi ⟨hi2, hF2, htn, hty⟩
          dsimp only at hF2 htn hty ⊢
          have r0 : T2 0 = B 0 := by rw [hF2.c 0 rfl, hSm.1]
          have r20 : T2 0 20 = B 0 20 := by rw [r0]
          refine sound ok_M_talliesOne [145] 20 ?_
          refine ⟨fun _ => ?_, fun h3 => absurd h3 (by omega)⟩
          refine ⟨by omega, ?_⟩
          have hF3 := hF2.up 23 g own rfl
          refine next _ own s x5 x6 (hF.tr (hF3.mo rfl rfl)) (fun j j0 j1 => ?_) ?_
          · rw [hF3.c 21 rfl]
            exact hW.1 j j0 (by rw [hSm.1]; exact j1)
          · rw [up_o _ _ _ (by decide)]
            rw [show 10 * s = N by omega] at hty
            exact ty_next hty _
        · rintro s ⟨T2, x5, x6⟩ hi ⟨hi2, hF2, htn, hty⟩ ihO
          dsimp only at hF2 htn hty ⊢
          have r0 : T2 0 = B 0 := by rw [hF2.c 0 rfl, hSm.1]
          have r20 : T2 0 20 = B 0 20 := by rw [r0]
          have hsn : T2 22 s = smM B f s := by rw [hF2.c 22 rfl, hW.2.1 s hi2.1 (by rw [hSm.1]; exact hi), smM_sm hSm]
          have hsb := smM_b hA.1 ho hi2.1 hi
          have hal := hA.1.1.2.2 (5 * g + s) (by omega) (by omega)
          have eal : T2 19 = B 19 := by rw [hF2.c 19 rfl, hSm.2.2.2.2.2.2.2.1]
          generalize hh : (if z = 0 then hdM (B 19) (smM B f) g s else smM B f s) = h
          have hhb : h = 1000000 ∨ (-600 ≤ h ∧ h ≤ 600) := by
            have h9 := hdM_b (al := B 19) (f := smM B f) (g := g) (s := s) (b := 500) (by omega) hsb hal
            rw [← hh]
            split <;> omega
          have inner : ∀ (i : Int) (T3 : St), ((0 ≤ i ∧ i ≤ 10) ∧ Fr [25, 23, 26] [] T T3 ∧ (∀ j, ¬ j = g → T3 23 j = T 23 j) ∧ tyI (beP B g z) pre f (10 * s + i) N (T3 26)) → Smm H_M_talliesOne 70 [some (.inr (.inr 0)), some (.inl g), some (.inl z), some (.inl own), some (.inl s), some (.inl h), some (.inl i)] [] T3 Q := by
            refine lp_up (P := fun i T3 => Smm H_M_talliesOne 70 [some (.inr (.inr 0)), some (.inl g), some (.inl z), some (.inl own), some (.inl s), some (.inl h), some (.inl i)] [] T3 Q) _ 10 ?_ ?_
            · rintro i T3 hj ⟨hj2, hF3, htn3, hty3⟩
              refine sound ok_M_talliesOne [35] 20 ?_
              refine ⟨fun _ => ?_, fun h3 => absurd h3 (by omega)⟩
              rw [show 10 * s + i = 10 * (s + 1) by omega] at hty3
              exact Smm.sub (ihO (T3, some (.inl h), some (.inl i)) ⟨by omega, hF3, htn3, hty3⟩) ⟨Or.inr rfl, Or.inr rfl, Or.inr rfl, Or.inr rfl, Or.inr (sI (i32_id (by omega) (by omega)).symm), Or.inr rfl, Or.inr rfl, trivial⟩
            · rintro i T3 hj ⟨hj2, hF3, htn3, hty3⟩ ih
              have t0 : T3 0 = B 0 := by rw [hF3.c 0 rfl, hSm.1]
              have hki : 0 ≤ 10 * s + i ∧ 10 * s + i < N := by omega
              have hwa : beP B g z (10 * s + i) f = op1 B f g (plN h i) := by
                unfold beP
                rw [show (10 * s + i) / 10 = s by omega, show (10 * s + i) % 10 = i by omega, hh]
              have hub := ty_b hty3 hki.1 hki.2
              have eix : i32 (i32 (10 * s) + i) = 10 * s + i := by rw [i32_id (v := 10 * s) (by omega) (by omega)]; exact i32_id (by omega) (by omega)
              have go : ∀ v, v = plN h i → Smm H_M_talliesOne 101 [some (.inr (.inr 0)), some (.inl g), some (.inl z), some (.inl own), some (.inl s), some (.inl h), some (.inl i)] [.inl v, .inl g, .inr (.inr 23)] T3 Q := by
                intro v hvv
                have hvb2 : v = 1000000 ∨ (-1000 ≤ v ∧ v ≤ 2000) := by rw [hvv]; unfold plN; split <;> omega
                have hF4 := hF3.up 23 g v rfl
                have etn : ∀ j, 0 ≤ j → j < B 0 19 → up T3 23 g v 23 j = uf (tnM B (smM B f)) g v j := fun j j0 j1 => by
                  by_cases hj : j = g
                  · rw [hj, up_s, uf_s]
                  · rw [up_n _ _ _ hj, uf_n _ _ hj, htn3 j hj, hW.2.2 j j0 (by omega), tnM_sm hSm, smM_sm hSm]
                have u0 : up T3 23 g v 0 = B 0 := by rw [up_o _ _ _ (by decide), t0]
                have eap : apF (up T3 23 g v 0 21) (up T3 23 g v 23) (up T3 23 g v 0 19).toNat = apF (B 0 21) (uf (tnM B (smM B f)) g v) (B 0 19).toNat := by
                  rw [u0]
                  exact apF_congr (fun j j0 j1 => etn j j0 (by omega))
                refine sound ok_M_talliesOne [70] 40 ?_
                refine ⟨by omega, ?_⟩
                refine t_M_doesOpen (up T3 23 g v) _ (by rw [u0]; exact hA.1.2.1) (by rw [u0]; exact ⟨hA.2.1.2.1, hA.2.1.2.2.1⟩) (fun j j0 j1 => ?_) (fun T4 hF5 hop => ?_) (fun T4 hF5 hop => ?_)
                · rw [u0] at j1
                  rw [etn j j0 j1]
                  by_cases hj : j = g
                  · rw [hj, uf_s]; exact hvb2
                  · rw [uf_n _ _ hj]
                    have := tnM_b hA.1 ho j0 (show j < 4 by omega)
                    omega
                · rw [eap, u0] at hop
                  have ht4 : T4 26 = T3 26 := by rw [hF5.c 26 rfl, up_o _ _ _ (by decide)]
                  refine ⟨fun z => absurd z (by decide), fun _ => ?_⟩
                  refine ⟨by rw [eix]; omega, ?_⟩
                  refine ⟨by rw [eix]; omega, ?_⟩
                  rw [eix]
                  refine Smm.sub (ih (up T4 26 (10 * s + i) (i32 (T4 26 (10 * s + i) + 1))) ⟨by omega, (hF4.tr (hF5.mo rfl rfl)).up _ _ _ rfl, fun j hj => ?_, ?_⟩) ⟨Or.inr rfl, Or.inr rfl, Or.inr rfl, Or.inr rfl, Or.inr rfl, Or.inr rfl, Or.inr (sI (i32_id (by omega) (by omega)).symm), trivial⟩
                  · rw [up_o _ _ _ (by decide), hF5.c 23 rfl, up_n _ _ _ hj]
                    exact htn3 j hj
                  · rw [up_c, ht4, i32_id (by omega) (by omega)]
                    rw [show 10 * s + (i + 1) = 10 * s + i + 1 by omega]
                    exact ty_yes hty3 hki.1 hki.2 (by rw [hwa, ← hvv]; exact decide_eq_true hop)
                · rw [eap, u0] at hop
                  have ht4 : T4 26 = T3 26 := by rw [hF5.c 26 rfl, up_o _ _ _ (by decide)]
                  refine ⟨fun _ => ?_, fun z => absurd rfl z⟩
                  refine Smm.sub (ih T4 ⟨by omega, hF4.tr (hF5.mo rfl rfl), fun j hj => ?_, ?_⟩) ⟨Or.inr rfl, Or.inr rfl, Or.inr rfl, Or.inr rfl, Or.inr rfl, Or.inr rfl, Or.inr (sI (i32_id (by omega) (by omega)).symm), trivial⟩
                  · rw [hF5.c 23 rfl, up_n _ _ _ hj]
                    exact htn3 j hj
                  · rw [ht4, show 10 * s + (i + 1) = 10 * s + i + 1 by omega]
                    exact ty_no hty3 (by rw [hwa, ← hvv]; exact decide_eq_false hop)
              refine sound ok_M_talliesOne [101] 40 ?_
              refine ⟨fun h3 => absurd h3 (by omega), fun _ => ?_⟩
              refine ⟨fun h3 => ?_, fun h3 => ?_⟩
              · exact go _ (by unfold plN; rw [if_neg h3]; exact i32_id (by omega) (by omega))
              · exact go _ (by unfold plN; rw [if_pos h3])
          have start : Smm H_M_talliesOne 70 [some (.inr (.inr 0)), some (.inl g), some (.inl z), some (.inl own), some (.inl s), some (.inl h), some (.inl 0)] [] T2 Q := inner 0 T2 ⟨by omega, hF2, htn, by rw [Int.add_zero]; exact hty⟩
          refine sound ok_M_talliesOne [70] 40 ?_
          refine ⟨fun h3 => absurd h3 (by omega), fun _ => ?_⟩
          refine ⟨fun h3 => ?_, fun h3 => ?_⟩
          · rw [if_pos h3] at hh
            refine t_M_heardAt T2 g s _ (by omega) (by omega) (by rw [hsn]; omega) (by rw [eal]; exact hal.2) ?_
            have eh : hdM (T2 19) (T2 22) g s = h := by rw [eal, ← hh]; exact hdM_congr hsn
            rw [eh]
            exact start
          · rw [if_neg h3] at hh
            refine ⟨by omega, ?_⟩
            rw [hsn, hh]
            exact start
      refine sound ok_M_talliesOne [35] 30 ?_
      refine ⟨by omega, ?_⟩
      rw [hv]
      refine outer 0 (T, none, none) ⟨by omega, Fr.rf _ _ _, fun _ _ => rfl, ?_⟩
      intro k k0 k1
      have := hI k k0 k1
      dsimp only
      rw [this]
      simp [show ¬ k < 0 by omega]
    obtain ⟨r, hr⟩ := wy_first (err := B 18) (B 0 20).toNat (fun i hi => (hA.2.2 i (by omega) (by have := hA.1.1.1; omega)).1)
    have clear : ∀ (i : Int) (T : St), ((0 ≤ i ∧ i ≤ 50) ∧ Fr [26] [] B T ∧ ∀ k, 0 ≤ k → k < i → T 26 k = 0) → Smm H_M_talliesOne 2 [some (.inr (.inr 0)), some (.inl g), some (.inl z), some (.inl i), none, none, none] [] T Q := by
      refine lp_up (P := fun i T => Smm H_M_talliesOne 2 [some (.inr (.inr 0)), some (.inl g), some (.inl z), some (.inl i), none, none, none] [] T Q) _ 50 ?_ ?_
      · rintro i T hi ⟨hi2, hF, hz⟩
        have hSm : Sm B T := Sm.of hF rfl
        refine sound ok_M_talliesOne [25] 20 ?_
        refine ⟨fun _ => ?_, fun h3 => absurd h3 (by omega)⟩
        refine t_M_firstWay T _ (mAs_sm hSm hA) (fun T2 hF2 hW => ?_)
        refine Smm.sub (loop r [] (fsF (B 18) (B 0 20).toNat) T2 hr ⟨(hF.mo rfl rfl).tr (hF2.mo rfl rfl), ?_, ?_⟩) ⟨Or.inr rfl, Or.inr rfl, Or.inr rfl, Or.inl rfl, Or.inl rfl, Or.inl rfl, Or.inl rfl, trivial⟩
        · rw [← hSm.1, ← hSm.2.2.2.2.2.2.1]
          exact hW
        · rw [hF2.c 26 rfl]
          intro k k0 k1
          rw [hz k k0 (by omega), if_neg (by omega)]
          rfl
      · rintro i T hi ⟨hi2, hF, hz⟩ ih
        refine sound ok_M_talliesOne [2] 20 ?_
        refine ⟨fun h3 => absurd h3 (by omega), fun _ => ?_⟩
        refine ⟨by omega, ?_⟩
        refine Smm.sub (ih (up T 26 i 0) ⟨by omega, hF.up _ _ _ rfl, fun k k0 k1 => ?_⟩) ⟨Or.inr rfl, Or.inr rfl, Or.inr rfl, Or.inr (sI (i32_id (by omega) (by omega)).symm), Or.inl rfl, Or.inl rfl, Or.inl rfl, trivial⟩
        by_cases hk : k = i
        · rw [hk, up_s]
        · rw [up_n _ _ _ hk]
          exact hz k k0 (by omega)
    refine sound ok_M_talliesOne [2] 10 ?_
    exact clear 0 B ⟨by omega, Fr.rf _ _ _, fun k k0 k1 => by omega⟩
theorem t_M_firstMost (T : St) (Q : Option AV → St → Prop) (hn : 1 ≤ T 0 20 ∧ T 0 20 ≤ 5) (hQ : Q (some (.inl (bmF (T 26) (10 * T 0 20).toNat))) T) : Smm H_M_firstMost 0 [some (.inr (.inr 0)), none, none] [] T Q := by
  have en : i32 (10 * T 0 20) = 10 * T 0 20 := i32_id (by omega) (by omega)
  have loop : ∀ (i : Int) (_ : Unit), (1 ≤ i ∧ i ≤ 10 * T 0 20) → Smm H_M_firstMost 4 [some (.inr (.inr 0)), some (.inl (bmF (T 26) i.toNat)), some (.inl i)] [] T Q := by
    refine lp_up (P := fun i _ => Smm H_M_firstMost 4 [some (.inr (.inr 0)), some (.inl (bmF (T 26) i.toNat)), some (.inl i)] [] T Q) (fun i _ => 1 ≤ i ∧ i ≤ 10 * T 0 20) (10 * T 0 20) ?_ ?_
    · rintro i - hi hi2
      refine sound ok_M_firstMost [4] 30 ?_
      refine ⟨fun _ => ?_, fun h3 => absurd h3 (by omega)⟩
      rw [show i = 10 * T 0 20 by omega]
      exact hQ
    · rintro i - hi hi2 ih
      obtain ⟨k, rfl⟩ : ∃ k : Nat, i = k := ⟨i.toNat, by omega⟩
      have ih := ih () (by omega)
      rw [show ((k : Int) + 1).toNat = k + 1 by omega, bmF] at ih
      rw [show ((k : Int)).toNat = k by omega]
      have hb := bmF_b (T 26) k
      refine sound ok_M_firstMost [4] 40 ?_
      refine ⟨fun h3 => absurd h3 (by omega), fun _ => ?_⟩
      refine ⟨by omega, ?_⟩
      refine ⟨by omega, ?_⟩
      refine ⟨fun h3 => ?_, fun h3 => ?_⟩
      · rw [if_neg (by omega)] at ih
        exact Smm.sub ih ⟨Or.inr rfl, Or.inr rfl, Or.inr (sI (i32_id (by omega) (by omega)).symm), trivial⟩
      · rw [if_pos (by omega)] at ih
        exact Smm.sub ih ⟨Or.inr rfl, Or.inr rfl, Or.inr (sI (i32_id (by omega) (by omega)).symm), trivial⟩
  refine sound ok_M_firstMost [4] 20 ?_
  exact Smm.sub (loop 1 () (by omega)) ⟨Or.inr rfl, Or.inr (sI (bmF_1 _)), Or.inr rfl, trivial⟩
def aM_best (S : St) (z g what : Int) : Int := if ¬ (¬ S 0 18 = 0 ∧ 0 ≤ g ∧ g < S 0 19) ∨ ¬ (0 ≤ what ∧ what ≤ 1) then -1 else
  if what = 0 then bmF (fun k => ((wyM (tl S)).countP (beP (tl S) g z k) : Int)) (10 * S 0 20).toNat else ((wyM (tl S)).countP (beP (tl S) g z (bmF (fun k => ((wyM (tl S)).countP (beP (tl S) g z k) : Int)) (10 * S 0 20).toNat)) : Int)
theorem t_M_best (S : St) (g what : Int) (Q : Option AV → St → Prop) (hL : ¬ S 0 18 = 0 → ldM S) (hp : plM S) (hQ : ∀ S', Fr [17, 18, 19, 20, 21, 22, 23, 24, 25, 26, 27, 28, 29, 31] [(0, 0), (0, 38)] S S' → Q (some (.inl (aM_best S 0 g what))) S') : Smm H_M_best 0 [some (.inr (.inr 0)), some (.inl g), some (.inl what), none] [] S Q := by
  have e18 : th S 0 18 = S 0 18 := th_0 S (by decide)
  have e19 : th S 0 19 = S 0 19 := th_0 S (by decide)
  have no : (¬ (¬ S 0 18 = 0 ∧ 0 ≤ g ∧ g < S 0 19) ∨ ¬ (0 ≤ what ∧ what ≤ 1)) → Q (some (.inl (-1))) (th S) := fun hz => by
    have := hQ (th S) (th_fr S)
    unfold aM_best at this
    rwa [if_pos hz] at this
  refine sound ok_M_best [] 60 ?_
  refine t_M_isGuard (th S) g _ (fun h1 => ?_) (fun h1 => by
    rw [e18, e19] at h1
    exact ⟨fun _ => no (Or.inl h1), fun z => absurd rfl z⟩)
  rw [e18, e19] at h1
  refine ⟨fun z => absurd z (by decide), fun _ => ?_⟩
  refine t_M_isPart _ _ _ _ (fun h2 => ?_) (fun h2 => ?_)
  · refine ⟨fun _ => ?_, fun z => absurd z (by decide)⟩
    have hl0 := hL h1.1
    have hA := tl_mAs hl0 hp
    have hk4 := hl0.1
    have hn5 := hl0.2.1
    have p19 : tl S 0 19 = S 0 19 := tl_0 S (by decide) (by decide)
    have p20 : tl S 0 20 = S 0 20 := tl_0 S (by decide) (by decide)
    refine t_M_asTold (th S) _ (by rw [th_0 S (by decide)]; omega) (by rw [th_0 S (by decide)]; omega) ?_
    refine t_M_talliesOne (tl S) g 0 _ hA (by omega) (fun T hF ht => ?_)
    have r20 : T 0 20 = S 0 20 := by rw [hF.c 0 rfl, p20]
    have eb := bmF_congr (t := T 26) (t' := fun k => ((wyM (tl S)).countP (beP (tl S) g 0 k) : Int)) (10 * S 0 20).toNat (fun j j0 j1 => ht j j0 (by omega))
    have hbb := bmF_b (T 26) (10 * S 0 20).toNat
    have hq := hQ T ((tl_fr S).tr (hF.mo rfl rfl))
    unfold aM_best at hq
    rw [if_neg (by omega), ← eb] at hq
    refine t_M_firstMost T _ (by omega) ?_
    rw [r20]
    refine ⟨fun h4 => ?_, fun h4 => ?_⟩
    · rw [if_neg h4, ← ht _ hbb.1 (by omega)] at hq
      refine ⟨by omega, ?_⟩
      exact hq
    · rw [if_pos h4] at hq
      exact hq
  · exact ⟨fun z => absurd rfl z, fun _ => no (Or.inr h2)⟩
theorem t_M_thief (S : St) (g what : Int) (Q : Option AV → St → Prop) (hL : ¬ S 0 18 = 0 → ldM S) (hp : plM S) (hQ : ∀ S', Fr [17, 18, 19, 20, 21, 22, 23, 24, 25, 26, 27, 28, 29, 31] [(0, 0), (0, 38)] S S' → Q (some (.inl (aM_best S 1 g what))) S') : Smm H_M_thief 0 [some (.inr (.inr 0)), some (.inl g), some (.inl what), none] [] S Q := by
  have e18 : th S 0 18 = S 0 18 := th_0 S (by decide)
  have e19 : th S 0 19 = S 0 19 := th_0 S (by decide)
  have no : (¬ (¬ S 0 18 = 0 ∧ 0 ≤ g ∧ g < S 0 19) ∨ ¬ (0 ≤ what ∧ what ≤ 1)) → Q (some (.inl (-1))) (th S) := fun hz => by
    have := hQ (th S) (th_fr S)
    unfold aM_best at this
    rwa [if_pos hz] at this
  refine sound ok_M_thief [] 60 ?_
  refine t_M_isGuard (th S) g _ (fun h1 => ?_) (fun h1 => by
    rw [e18, e19] at h1
    exact ⟨fun _ => no (Or.inl h1), fun z => absurd rfl z⟩)
  rw [e18, e19] at h1
  refine ⟨fun z => absurd z (by decide), fun _ => ?_⟩
  refine t_M_isPart _ _ _ _ (fun h2 => ?_) (fun h2 => ?_)
  · refine ⟨fun _ => ?_, fun z => absurd z (by decide)⟩
    have hl0 := hL h1.1
    have hA := tl_mAs hl0 hp
    have hk4 := hl0.1
    have hn5 := hl0.2.1
    have p19 : tl S 0 19 = S 0 19 := tl_0 S (by decide) (by decide)
    have p20 : tl S 0 20 = S 0 20 := tl_0 S (by decide) (by decide)
    refine t_M_asTold (th S) _ (by rw [th_0 S (by decide)]; omega) (by rw [th_0 S (by decide)]; omega) ?_
    refine t_M_talliesOne (tl S) g 1 _ hA (by omega) (fun T hF ht => ?_)
    have r20 : T 0 20 = S 0 20 := by rw [hF.c 0 rfl, p20]
    have eb := bmF_congr (t := T 26) (t' := fun k => ((wyM (tl S)).countP (beP (tl S) g 1 k) : Int)) (10 * S 0 20).toNat (fun j j0 j1 => ht j j0 (by omega))
    have hbb := bmF_b (T 26) (10 * S 0 20).toNat
    have hq := hQ T ((tl_fr S).tr (hF.mo rfl rfl))
    unfold aM_best at hq
    rw [if_neg (by omega), ← eb] at hq
    refine t_M_firstMost T _ (by omega) ?_
    rw [r20]
    refine ⟨fun h4 => ?_, fun h4 => ?_⟩
    · rw [if_neg h4, ← ht _ hbb.1 (by omega)] at hq
      refine ⟨by omega, ?_⟩
      exact hq
    · rw [if_pos h4] at hq
      exact hq
  · exact ⟨fun z => absurd rfl z, fun _ => no (Or.inr h2)⟩
end
section
/-! the reference: pairs -/
/-- places of a grid, row by row, that are still to come -/
def rmR (a : Nat) : Nat → Nat → List (Nat × Nat)
  | 0, _ => []
  | d + 1, b => (a, b) :: rmR a d (b + 1)
def rmA (w : Nat) : Nat → Nat → List (Nat × Nat)
  | 0, _ => []
  | d + 1, a => rmR a w 0 ++ rmA w d (a + 1)
theorem lp_gd {σ : Type} {PO : Nat → σ → Prop} {PI : Nat → Nat → σ → Prop} (w : Nat) (IO : Nat → List (Nat × Nat) → σ → Prop) (II : Nat → Nat → List (Nat × Nat) → σ → Prop)
    (hOx : ∀ s, IO w [] s → PO w s) (hOs : ∀ a s rem, a < w → IO a rem s → (∀ s', II a 0 rem s' → PI a 0 s') → PO a s)
    (hIx : ∀ a s rem, a < w → II a w rem s → (∀ s', IO (a + 1) rem s' → PO (a + 1) s') → PI a w s)
    (hIs : ∀ a b s rem, a < w → b < w → II a b ((a, b) :: rem) s → (∀ s', II a (b + 1) rem s' → PI a (b + 1) s') → PI a b s) (s : σ) (h : IO 0 (rmA w w 0) s) : PO 0 s := by
  have key : ∀ (d a : Nat) (s : σ), a + d = w → IO a (rmA w d a) s → PO a s := by
    intro d
    induction d with
    | zero =>
      intro a s ha h
      rw [show a = w by omega] at h ⊢
      exact hOx s h
    | succ d ih =>
      intro a s ha h
      refine hOs a s _ (by omega) h (fun s' h' => ?_)
      rw [rmA] at h'
      have inner : ∀ (e b : Nat) (s : σ), b + e = w → II a b (rmR a e b ++ rmA w d (a + 1)) s → PI a b s := by
        intro e
        induction e with
        | zero =>
          intro b s hb h
          rw [show b = w by omega] at h ⊢
          exact hIx a s _ (by omega) h (fun s' h' => ih (a + 1) s' (by omega) h')
        | succ e ihe =>
          intro b s hb h
          exact hIs a b s _ (by omega) (by omega) h (fun s' h' => ihe (b + 1) s' (by omega) h')
      exact inner w 0 s' (by omega) h'
  exact key w 0 s (by omega) h
/-- a sum over ways -/
def smL (g : (Int → Int) → Int) : List (Int → Int) → Int
  | [] => 0
  | f :: l => g f + smL g l
theorem smL_app (g : (Int → Int) → Int) : ∀ (l l' : List (Int → Int)), smL g (l ++ l') = smL g l + smL g l'
  | [], l' => by rw [List.nil_append, smL]; omega
  | f :: l, l' => by rw [List.cons_append, smL, smL, smL_app g l l']; omega
theorem smL_b {g : (Int → Int) → Int} {c : Int} (h : ∀ f, 0 ≤ g f ∧ g f ≤ c) : ∀ l : List (Int → Int), 0 ≤ smL g l ∧ smL g l ≤ c * l.length
  | [] => by rw [smL]; simp
  | f :: l => by
    have h1 := h f
    have h2 := smL_b h l
    rw [smL, List.length_cons]
    constructor
    · omega
    · have : c * ((l.length + 1 : Nat) : Int) = c * l.length + c := by rw [Int.natCast_add, Int.mul_add]; simp
      omega
/-- sums in a row: of the ways ahead, and of this one up to place i -/
def tsI (w : Int → (Int → Int) → Int) (pre : List (Int → Int)) (f : Int → Int) (i N : Int) (t : Int → Int) : Prop := ∀ k, 0 ≤ k → k < N → t k = smL (w k) pre + if k < i then w k f else 0
theorem ts_add {w : Int → (Int → Int) → Int} {pre : List (Int → Int)} {f : Int → Int} {i N : Int} {t : Int → Int} (h : tsI w pre f i N t) {x : Int} (hx : x = t i + w i f) : tsI w pre f (i + 1) N (uf t i x) := by
  intro k k0 k1
  have hk := h k k0 k1
  by_cases hz : k = i
  · subst hz
    rw [uf_s, hx, hk, if_neg (by omega), if_pos (by omega)]
    omega
  · rw [uf_n _ _ hz, hk]
    by_cases hi : k < i
    · rw [if_pos hi, if_pos (by omega)]
    · rw [if_neg hi, if_neg (by omega)]
theorem ts_no {w : Int → (Int → Int) → Int} {pre : List (Int → Int)} {f : Int → Int} {i N : Int} {t : Int → Int} (h : tsI w pre f i N t) (hx : w i f = 0) : tsI w pre f (i + 1) N t := by
  intro k k0 k1
  rw [h k k0 k1]
  by_cases hz : k = i
  · subst hz
    rw [if_neg (by omega), if_pos (by omega), hx]
  · by_cases hi : k < i
    · rw [if_pos hi, if_pos (by omega)]
    · rw [if_neg hi, if_neg (by omega)]
theorem ts_jump {w : Int → (Int → Int) → Int} {pre : List (Int → Int)} {f : Int → Int} {i j N : Int} {t : Int → Int} (h : tsI w pre f i N t) (hij : i ≤ j) (hz : ∀ k, i ≤ k → k < j → w k f = 0) : tsI w pre f j N t := by
  intro k k0 k1
  rw [h k k0 k1]
  by_cases hk : k < i
  · rw [if_pos hk, if_pos (by omega)]
  · rw [if_neg hk]
    by_cases hj : k < j
    · rw [if_pos hj, hz k (by omega) hj]
    · rw [if_neg hj]
theorem ts_next {w : Int → (Int → Int) → Int} {pre : List (Int → Int)} {f : Int → Int} {i N : Int} {t : Int → Int} (h : tsI w pre f i N t) (hi : N ≤ i) (f' : Int → Int) : tsI w (pre ++ [f]) f' 0 N t := by
  intro k k0 k1
  rw [h k k0 k1, if_pos (by omega), if_neg (by omega), smL_app, smL, smL]
  omega
theorem ts_b {w : Int → (Int → Int) → Int} {pre : List (Int → Int)} {f : Int → Int} {i N c : Int} {t : Int → Int} (h : tsI w pre f i N t) (hw : ∀ k f, 0 ≤ w k f ∧ w k f ≤ c) {k : Int} (h0 : 0 ≤ k) (h1 : k < N) : 0 ≤ t k ∧ t k ≤ c * pre.length + c := by
  rw [h k h0 h1]
  have := smL_b (hw k) pre
  have := hw k f
  split <;> omega
/-- the turn of a guard by its simple plan a -/
def vsM (T : St) (f : Int → Int) (g a : Int) : Int := plN (hdM (T 19) (smM T f) g (a / 10)) (a % 10)
/-- the turns, if two guards have simple plans -/
def t2M (T : St) (f : Int → Int) (one other a b : Int) : Int → Int := uf (uf (tnM T (smM T f)) one (vsM T f one a)) other (vsM T f other b)
def op2 (T : St) (f : Int → Int) (one other a b : Int) : Bool := decide (apF (T 0 21) (t2M T f one other a b) (T 0 19).toNat ≤ T 0 22)
def ft2 (T : St) (f : Int → Int) (one other a b : Int) : Int := ftF (t2M T f one other a b) (T 0 19).toNat
def vlK (w k : Int) : Prop := k / 50 < w ∧ k % 50 < w
def wP (T : St) (one other k : Int) (f : Int → Int) : Int := if k / 50 < 10 * T 0 20 ∧ k % 50 < 10 * T 0 20 then (if op2 T f one other (k / 50) (k % 50) then 1 else 0) else 0
/-- what guard g (one of them) has of it -/
def wG (T : St) (one other g k : Int) (f : Int → Int) : Int := if k / 50 < 10 * T 0 20 ∧ k % 50 < 10 * T 0 20 then (if op2 T f one other (k / 50) (k % 50) then T 7 g else if ft2 T f one other (k / 50) (k % 50) = g then T 8 g else 0) else 0
def prM (S : St) (one other : Int) : Prop := ¬ S 0 18 = 0 ∧ (0 ≤ one ∧ one < S 0 19) ∧ (0 ≤ other ∧ other < S 0 19) ∧ ¬ one = other ∧ lenM (tl S) ≤ 400
theorem t_M_isPair (S : St) (one other : Int) (Q : Option AV → St → Prop) (hL : ¬ S 0 18 = 0 → ldM S) (hp : plM S) (h0 : ∀ S', Fr [17, 18, 19, 20, 21, 22, 23, 24, 25, 26, 27, 28, 29, 31] [(0, 0), (0, 38)] S S' → ¬ prM S one other → Q (some (.inl 0)) S') (h1 : prM S one other → Q (some (.inl 1)) (tl S)) : Smm H_M_isPair 0 [some (.inr (.inr 0)), some (.inl one), some (.inl other)] [] (th S) Q := by
  have e18 : th S 0 18 = S 0 18 := th_0 S (by decide)
  have e19 : th S 0 19 = S 0 19 := th_0 S (by decide)
  refine sound ok_M_isPair [] 60 ?_
  refine t_M_isGuard (th S) one _ (fun g1 => ?_) (fun g1 => ?_)
  · rw [e18, e19] at g1
    refine ⟨fun z => absurd z (by decide), fun _ => ?_⟩
    refine t_M_isGuard (th S) other _ (fun g2 => ?_) (fun g2 => ?_)
    · rw [e18, e19] at g2
      refine ⟨fun z => absurd z (by decide), fun _ => ?_⟩
      refine ⟨fun h3 => ?_, fun h3 => ⟨Or.inl rfl, h0 _ (th_fr S) (fun z => z.2.2.2.1 h3)⟩⟩
      have hl0 := hL g1.1
      have hA := tl_mAs hl0 hp
      refine t_M_asTold (th S) _ (by rw [th_0 S (by decide)]; have := hl0.2.1; omega) (by rw [th_0 S (by decide)]; have := hl0.1; omega) ?_
      refine t_M_allWays (tl S) _ hA ?_
      refine ⟨fun h4 => ⟨Or.inl rfl, h0 _ (tl_fr S) (fun z => ?_)⟩, fun h4 => ⟨Or.inr rfl, h1 ⟨g1.1, g1.2, g2.2, h3, h4⟩⟩⟩
      have := z.2.2.2.2
      unfold lenM at this
      omega
    · rw [e18, e19] at g2
      exact ⟨fun _ => ⟨Or.inl rfl, h0 _ (th_fr S) (fun z => g2 ⟨z.1, z.2.2.1⟩)⟩, fun z => absurd rfl z⟩
  · rw [e18, e19] at g1
    exact ⟨fun _ => ⟨Or.inl rfl, h0 _ (th_fr S) (fun z => g1 ⟨z.1, z.2.1⟩)⟩, fun z => absurd rfl z⟩
end
section
/-! the reference: talliesPairs -/
theorem vsM_b {T : St} (hA : mAs T) {f : Int → Int} (hf : f ∈ wyM T) {g a : Int} (hg : 0 ≤ g ∧ g < 4) (ha : 0 ≤ a ∧ a < 10 * T 0 20) : vsM T f g a = 1000000 ∨ (-1000 ≤ vsM T f g a ∧ vsM T f g a ≤ 2000) := by
  have hn5 := hA.1.1.1
  have h9 := hdM_b (al := T 19) (f := smM T f) (g := g) (s := a / 10) (b := 500) (by omega) (smM_b hA.1 (wyM_of hA hf) (by omega) (by omega)) (hA.1.1.2.2 (5 * g + a / 10) (by omega) (by omega))
  unfold vsM plN
  split <;> omega
/-- the sums of three rows at once -/
def ts3 (B : St) (one other : Int) (pre : List (Int → Int)) (f : Int → Int) (i : Int) (T : St) : Prop := tsI (wP B one other) pre f i 2500 (T 27) ∧ tsI (wG B one other one) pre f i 2500 (T 28) ∧ tsI (wG B one other other) pre f i 2500 (T 29)
theorem gd_k {a b w : Nat} (ha : a < w) (hb : b < w) (hw : w ≤ 50) : (50 * (a : Int) + b) / 50 = a ∧ (50 * (a : Int) + b) % 50 = b ∧ 0 ≤ 50 * (a : Int) + b ∧ 50 * (a : Int) + b < 2500 := by omega
theorem gd_n {b w : Nat} (hb : b < w) (hw : w ≤ 50) : ((b + 1 : Nat) : Int) = i32 ((b : Int) + 1) := by rw [i32_id (v := (b : Int) + 1) (by omega) (by omega)]; omega
theorem gd_j {a b : Nat} {k : Int} (h : 50 * (a : Int) + b = k) : 50 * (a : Int) + ((b + 1 : Nat) : Int) = k + 1 := by omega
theorem gd_b {x c n : Int} {l : Nat} (h : 0 ≤ x ∧ x ≤ 99 * l + 99) (hl : l < 16807) (hc : 0 ≤ c ∧ c ≤ 99) : i32 (x + c) = x + c := i32_id (by omega) (by omega)
theorem gd_i {a b w : Nat} (ha : a < w) (hb : b < w) (hw : w ≤ 50) : i32 (i32 (50 * (a : Int)) + b) = 50 * a + b := by rw [i32_id (v := 50 * (a : Int)) (by omega) (by omega)]; exact i32_id (by omega) (by omega)
/-- what stays within one way -/
def KI (B T : St) (one other : Int) (pre : List (Int → Int)) (f : Int → Int) (i : Int) (T2 : St) : Prop := Fr [25, 23, 27, 28, 29] [] T T2 ∧ (∀ j, ¬ j = one → ¬ j = other → T2 23 j = T 23 j) ∧ ts3 B one other pre f i T2
set_option maxHeartbeats 4000000 in
theorem t_M_talliesPairs (B : St) (one other : Int) (Q : Option AV → St → Prop) (hA : mAs B) (h1 : 0 ≤ one ∧ one < B 0 19) (h2 : 0 ≤ other ∧ other < B 0 19) (hne : ¬ one = other) (hpt : ∀ g, 0 ≤ g → g < B 0 19 → 0 ≤ B 7 g ∧ B 7 g ≤ 99 ∧ 0 ≤ B 8 g ∧ B 8 g ≤ 99)
    (hQ : ∀ S', Fr [21, 22, 23, 24, 25, 26, 27, 28, 29, 31] [] B S' → (∀ k, 0 ≤ k → k < 2500 → S' 27 k = smL (wP B one other k) (wyM B) ∧ S' 28 k = smL (wG B one other one k) (wyM B) ∧ S' 29 k = smL (wG B one other other k) (wyM B)) → Q none S') : Smm H_M_talliesPairs 0 [some (.inr (.inr 0)), some (.inl one), some (.inl other), none, none, none, none, none, none] [] B Q := by
    have hk4 := hA.1.2.1
    have hn5 := hA.1.1.1
    have hn1 := hA.2.1.1
    have wPb : ∀ k f, 0 ≤ wP B one other k f ∧ wP B one other k f ≤ 99 := fun k f => by
      unfold wP
      split
      · split <;> omega
      · omega
    have wGb : ∀ g, 0 ≤ g → g < B 0 19 → ∀ k f, 0 ≤ wG B one other g k f ∧ wG B one other g k f ≤ 99 := fun g g0 g1 k f => by
      have := hpt g g0 g1
      unfold wG
      split
      · split
        · omega
        · split <;> omega
      · omega
    have hlen := wyM_len hA
    have loop : ∀ (post pre : List (Int → Int)) (f : Int → Int) (T : St), wyM B = pre ++ f :: post → (Fr [21, 22, 23, 24, 25, 26, 27, 28, 29, 31] [] B T ∧ Wy T f ∧ (tsI (wP B one other) pre (fun _ => 0) 0 2500 (T 27) ∧ tsI (wG B one other one) pre (fun _ => 0) 0 2500 (T 28) ∧ tsI (wG B one other other) pre (fun _ => 0) 0 2500 (T 29))) → Smm H_M_talliesPairs 40 [some (.inr (.inr 0)), some (.inl one), some (.inl other), none, none, none, none, none, none] [] T Q := by
      refine lp_wy (P := fun _ (T : St) => Smm H_M_talliesPairs 40 [some (.inr (.inr 0)), some (.inl one), some (.inl other), none, none, none, none, none, none] [] T Q) (fun pre f T => Fr [21, 22, 23, 24, 25, 26, 27, 28, 29, 31] [] B T ∧ Wy T f ∧ (tsI (wP B one other) pre (fun _ => 0) 0 2500 (T 27) ∧ tsI (wG B one other one) pre (fun _ => 0) 0 2500 (T 28) ∧ tsI (wG B one other other) pre (fun _ => 0) 0 2500 (T 29))) ?_
      rintro pre f post T hl ⟨hF, hW, hI⟩ ih
      have hSm : Sm B T := Sm.of hF rfl
      have hA' := mAs_sm hSm hA
      have hfm0 : f ∈ wyM B := by rw [hl]; exact List.mem_append_right _ List.mem_cons_self
      have hfm : f ∈ wyM T := by rw [wyM_sm hSm]; exact hfm0
      have hpl : pre.length < (wyM B).length := by rw [hl, List.length_append, List.length_cons]; omega
      have next : ∀ (T2 : St) (x : Int) (x4 x5 x6 x7 x8 : Option AV), Fr [21, 22, 23, 24, 25, 26, 27, 28, 29, 31] [] B T2 → (∀ i, 0 ≤ i → i < B 0 20 → T2 21 i = f i) → (tsI (wP B one other) (pre ++ [f]) (fun _ => 0) 0 2500 (T2 27) ∧ tsI (wG B one other one) (pre ++ [f]) (fun _ => 0) 0 2500 (T2 28) ∧ tsI (wG B one other other) (pre ++ [f]) (fun _ => 0) 0 2500 (T2 29)) → Smm H_M_talliesPairs 270 [some (.inr (.inr 0)), some (.inl one), some (.inl other), some (.inl x), x4, x5, x6, x7, x8] [] T2 Q := by
        intro T2 x x4 x5 x6 x7 x8 hF2 ho2 hI2
        have hSm2 : Sm B T2 := Sm.of hF2 rfl
        refine sound ok_M_talliesPairs [40, 277] 20 ?_
        refine t_M_nextW T2 pre f post _ (mAs_sm hSm2 hA) (by rw [wyM_sm hSm2]; exact hl) (fun i i0 i1 => ho2 i i0 (by rw [hSm2.1] at i1; exact i1)) (fun f' post' S3 hp hF3 hW3 => ?_) (fun S3 hp hF3 => ?_)
        · refine ⟨fun _ => ?_, fun z => absurd z (by decide)⟩
          refine Smm.sub (ih f' post' S3 hp ⟨hF2.tr (hF3.mo rfl rfl), hW3, ?_⟩) ⟨Or.inr rfl, Or.inr rfl, Or.inr rfl, Or.inl rfl, Or.inl rfl, Or.inl rfl, Or.inl rfl, Or.inl rfl, Or.inl rfl, trivial⟩
          rw [hF3.c 27 rfl, hF3.c 28 rfl, hF3.c 29 rfl]
          exact hI2
        · refine ⟨fun z => absurd rfl z, fun _ => ?_⟩
          have hx : (tsI (wP B one other) (wyM B) (fun _ => 0) 0 2500 (S3 27) ∧ tsI (wG B one other one) (wyM B) (fun _ => 0) 0 2500 (S3 28) ∧ tsI (wG B one other other) (wyM B) (fun _ => 0) 0 2500 (S3 29)) := by rw [hF3.c 27 rfl, hF3.c 28 rfl, hF3.c 29 rfl, hl, hp]; exact hI2
          have hFx := hF2.tr (hF3.mo rfl rfl)
          refine sound ok_M_talliesPairs [] 10 ?_
          have un : ∀ (w : Int → (Int → Int) → Int) (t : Int → Int), tsI w (wyM B) (fun _ => 0) 0 2500 t → ∀ k, 0 ≤ k → k < 2500 → t k = smL (w k) (wyM B) := fun w t h k k0 k1 => by
            rw [h k k0 k1, if_neg (by omega)]; omega
          exact hQ S3 hFx (fun k k0 k1 => ⟨un _ _ hx.1 k k0 k1, un _ _ hx.2.1 k k0 k1, un _ _ hx.2.2 k k0 k1⟩)
      have q0 : T 0 = B 0 := hSm.1
      have hof := wyM_of hA hfm0
      obtain ⟨w, hw⟩ : ∃ w : Nat, 10 * B 0 20 = w := ⟨(10 * B 0 20).toNat, by omega⟩
      have hw50 : w ≤ 50 := by omega
      have hW3 : ∀ j, 0 ≤ j → j < B 0 19 → T 23 j = tnM B (smM B f) j := fun j j0 j1 => by rw [hW.2.2 j j0 (by rw [q0]; exact j1), tnM_sm hSm, smM_sm hSm]
      have facts : ∀ T2, Fr [25, 23, 27, 28, 29] [] T T2 → T2 0 = B 0 ∧ T2 19 = B 19 ∧ (∀ s, 0 ≤ s → s < B 0 20 → T2 22 s = smM B f s) ∧ T2 7 = B 7 ∧ T2 8 = B 8 := fun T2 h => by
        refine ⟨by rw [h.c 0 rfl, q0], by rw [h.c 19 rfl, hSm.2.2.2.2.2.2.2.1], fun s s0 s1 => by rw [h.c 22 rfl, hW.2.1 s s0 (by rw [q0]; exact s1), smM_sm hSm], by rw [h.c 7 rfl, hF.c 7 rfl], by rw [h.c 8 rfl, hF.c 8 rfl]⟩
      have hear : ∀ (T2 : St) (g s : Int) (Q2 : Option AV → St → Prop), Fr [25, 23, 27, 28, 29] [] T T2 → 0 ≤ g ∧ g < 4 → 0 ≤ s ∧ s < B 0 20 → Q2 (some (.inl (hdM (B 19) (smM B f) g s))) T2 → Smm H_M_heardAt 0 [some (.inr (.inr 0)), some (.inl g), some (.inl s), none] [] T2 Q2 := by
        intro T2 g s Q2 h hg hs hq
        obtain ⟨f0, f1, f2, f3, f4⟩ := facts T2 h
        have hsb := smM_b hA.1 hof hs.1 hs.2
        have hal := hA.1.1.2.2 (5 * g + s) (by omega) (by omega)
        refine t_M_heardAt T2 g s _ hg (by omega) (by rw [f2 s hs.1 hs.2]; omega) (by rw [f1]; exact hal.2) ?_
        rw [f1, hdM_congr (f2 s hs.1 hs.2)]
        exact hq
      have grid : ∀ (q : St × Option AV × Option AV × Option AV × Option AV × Option AV), KI B T one other pre f 0 q.1 → Smm H_M_talliesPairs 42 [some (.inr (.inr 0)), some (.inl one), some (.inl other), some (.inl ((0 : Nat) : Int)), q.2.1, q.2.2.1, q.2.2.2.1, q.2.2.2.2.1, q.2.2.2.2.2] [] q.1 Q := by
        intro q hq
        refine lp_gd (PO := fun a (q : St × Option AV × Option AV × Option AV × Option AV × Option AV) => Smm H_M_talliesPairs 42 [some (.inr (.inr 0)), some (.inl one), some (.inl other), some (.inl (a : Int)), q.2.1, q.2.2.1, q.2.2.2.1, q.2.2.2.2.1, q.2.2.2.2.2] [] q.1 Q) (PI := fun a b q => ∀ v, q.2.1 = some (.inl v) → Smm H_M_talliesPairs 94 [some (.inr (.inr 0)), some (.inl one), some (.inl other), some (.inl (a : Int)), some (.inl v), some (.inl (b : Int)), q.2.2.2.1, q.2.2.2.2.1, q.2.2.2.2.2] [] q.1 Q) w
          (fun a _ q => KI B T one other pre f (50 * a) q.1) (fun a b _ q => KI B T one other pre f (50 * a + b) q.1 ∧ q.1 23 one = vsM B f one a) ?_ ?_ ?_ ?_ q hq
        · rintro ⟨T2, x4, x5, x6, x7, x8⟩ ⟨hF2, htn, hts⟩
          dsimp only at hF2 htn hts ⊢
          obtain ⟨f0, f1, f2, f3, f4⟩ := facts T2 hF2
          have en : i32 (10 * T2 0 20) = w := by rw [f0, ← hw]; exact i32_id (by omega) (by omega)
          refine sound ok_M_talliesPairs [270] 20 ?_
          refine ⟨fun _ => ?_, fun h3 => absurd h3 (by rw [en]; omega)⟩
          refine next T2 _ _ _ _ _ _ (hF.tr (hF2.mo rfl rfl)) (fun j j0 j1 => ?_) ?_
          · rw [hF2.c 21 rfl]
            exact hW.1 j j0 (by rw [q0]; exact j1)
          · have z1 : ∀ k, 50 * (w : Int) ≤ k → k < 2500 → wP B one other k f = 0 := fun k k0 k1 => by unfold wP; rw [if_neg (by omega)]
            have z2 : ∀ g k, 50 * (w : Int) ≤ k → k < 2500 → wG B one other g k f = 0 := fun g k k0 k1 => by unfold wG; rw [if_neg (by omega)]
            exact ⟨ts_next (ts_jump hts.1 (by omega) z1) (Int.le_refl _) _, ts_next (ts_jump hts.2.1 (by omega) (z2 one)) (Int.le_refl _) _, ts_next (ts_jump hts.2.2 (by omega) (z2 other)) (Int.le_refl _) _⟩
        · rintro a ⟨T2, x4, x5, x6, x7, x8⟩ rem ha ⟨hF2, htn, hts⟩ ih
          dsimp only at hF2 htn hts ⊢
          obtain ⟨f0, f1, f2, f3, f4⟩ := facts T2 hF2
          have en : i32 (10 * T2 0 20) = w := by rw [f0, ← hw]; exact i32_id (by omega) (by omega)
          have e1 : idiv (a : Int) 10 = a / 10 := idiv_pos (by omega) (by omega) (by omega) (by omega)
          have e2 : irem (a : Int) 10 = a % 10 := irem_pos (by omega) (by omega) (by omega) (by omega)
          refine sound ok_M_talliesPairs [90] 40 ?_
          refine ⟨fun h3 => absurd h3 (by rw [en]; omega), fun _ => ?_⟩
          refine ⟨by decide, ?_⟩
          rw [e1]
          refine hear T2 one (a / 10) _ hF2 (by omega) (by omega) ?_
          have go : ∀ v, v = vsM B f one a → ∀ y, Smm H_M_talliesPairs 90 [some (.inr (.inr 0)), some (.inl one), some (.inl other), some (.inl (a : Int)), some (.inl y), x5, x6, x7, x8] [.inl v, .inl one, .inr (.inr 23)] T2 Q := by
            intro v hv y
            refine sound ok_M_talliesPairs [94] 20 ?_
            refine ⟨by omega, ?_⟩
            refine ih (up T2 23 one v, some (.inl y), none, x6, x7, x8) ⟨⟨hF2.up _ _ _ rfl, fun j j1 j2 => ?_, ?_⟩, ?_⟩ y rfl
            · dsimp only
              rw [up_n _ _ _ j1]
              exact htn j j1 j2
            · dsimp only
              unfold ts3
              rw [up_o _ _ _ (by decide), up_o _ _ _ (by decide), up_o _ _ _ (by decide)]
              rw [show 50 * (a : Int) + ((0 : Nat) : Int) = 50 * a by omega]
              exact hts
            · dsimp only
              rw [up_s, hv]
          refine ⟨fun h3 => ?_, fun h3 => ?_⟩
          · refine ⟨by decide, ?_⟩
            refine go _ ?_ _
            have hb := vsM_b hA hfm0 (g := one) (a := a) (by omega) (by omega)
            unfold vsM plN at hb ⊢
            rw [if_neg h3] at hb ⊢
            rw [e2]
            exact i32_id (by omega) (by omega)
          · refine go _ ?_ _
            unfold vsM plN
            rw [if_pos h3]
        · rintro a ⟨T2, x4, x5, x6, x7, x8⟩ rem ha ⟨⟨hF2, htn, hts⟩, hone⟩ ih v hv4
          dsimp only at hF2 htn hts hone hv4 ⊢
          obtain ⟨f0, f1, f2, f3, f4⟩ := facts T2 hF2
          have en : i32 (10 * T2 0 20) = w := by rw [f0, ← hw]; exact i32_id (by omega) (by omega)
          refine sound ok_M_talliesPairs [42] 20 ?_
          refine ⟨fun _ => ?_, fun h3 => absurd h3 (by rw [en]; omega)⟩
          have z1 : ∀ k, 50 * (a : Int) + w ≤ k → k < 50 * ((a + 1 : Nat) : Int) → wP B one other k f = 0 := fun k k0 k1 => by unfold wP; rw [if_neg (by omega)]
          have z2 : ∀ g k, 50 * (a : Int) + w ≤ k → k < 50 * ((a + 1 : Nat) : Int) → wG B one other g k f = 0 := fun g k k0 k1 => by unfold wG; rw [if_neg (by omega)]
          refine Smm.sub (ih (T2, some (.inl v), some (.inl (w : Int)), x6, x7, x8) ⟨hF2, htn, ts_jump hts.1 (by omega) z1, ts_jump hts.2.1 (by omega) (z2 one), ts_jump hts.2.2 (by omega) (z2 other)⟩) ⟨Or.inr rfl, Or.inr rfl, Or.inr rfl, Or.inr (sI ?_), Or.inr rfl, Or.inr rfl, Or.inr rfl, Or.inr rfl, Or.inr rfl, trivial⟩
          rw [i32_id (by omega) (by omega)]
          omega
        · rintro a b ⟨T2, x4, x5, x6, x7, x8⟩ rem ha hb ⟨⟨hF2, htn, hts⟩, hone⟩ ih v hv4
          dsimp only at hF2 htn hts hone hv4 ⊢
          obtain ⟨f0, f1, f2, f3, f4⟩ := facts T2 hF2
          have en : i32 (10 * T2 0 20) = w := by rw [f0, ← hw]; exact i32_id (by omega) (by omega)
          have e1 : Unit → idiv (b : Int) 10 = b / 10 := fun _ => idiv_pos (by omega) (by omega) (by omega) (by omega)
          have e2 : Unit → irem (b : Int) 10 = b % 10 := fun _ => irem_pos (by omega) (by omega) (by omega) (by omega)
          have oo : Unit → (0 ≤ (b : Int) / 10 ∧ (b : Int) / 10 < B 0 20) ∧ (¬ hdM (B 19) (smM B f) other ((b : Int) / 10) = 1000000 → i32 (hdM (B 19) (smM B f) other ((b : Int) / 10) + (b : Int) % 10) = vsM B f other b) ∧ ¬ (w : Int) ≤ b := fun _ => by
            refine ⟨by omega, fun h3 => ?_, by omega⟩
            have hb := vsM_b hA hfm0 (g := other) (a := b) (by omega) (by omega)
            unfold vsM plN at hb ⊢
            rw [if_neg h3] at hb ⊢
            exact i32_id (by omega) (by omega)
          have h14 : 0 ≤ one ∧ one < 4 := ⟨h1.1, Int.lt_of_lt_of_le h1.2 hk4.2⟩
          have h24 : 0 ≤ other ∧ other < 4 := ⟨h2.1, Int.lt_of_lt_of_le h2.2 hk4.2⟩
          have hpl2 : pre.length < 16807 := Nat.lt_of_lt_of_le hpl hlen.2
          have ek := gd_i ha hb hw50
          obtain ⟨hk1, hk2, hkb⟩ := gd_k ha hb hw50
          generalize hk : 50 * (a : Int) + b = k at ek hk1 hk2 hkb
          have wpv : wP B one other k f = if op2 B f one other a b then 1 else 0 := by unfold wP; rw [hk1, hk2, if_pos ⟨by rw [hw]; exact_mod_cast ha, by rw [hw]; exact_mod_cast hb⟩]
          have wgv : ∀ g, wG B one other g k f = if op2 B f one other a b then B 7 g else if ft2 B f one other a b = g then B 8 g else 0 := fun g => by unfold wG; rw [hk1, hk2, if_pos ⟨by rw [hw]; exact_mod_cast ha, by rw [hw]; exact_mod_cast hb⟩]
          clear hk1 hk2
          have b1 := ts_b hts.1 wPb hkb.1 hkb.2
          have b2 := ts_b hts.2.1 (wGb one h1.1 h1.2) hkb.1 hkb.2
          have b3 := ts_b hts.2.2 (wGb other h2.1 h2.2) hkb.1 hkb.2
          rw [hk] at hts
          have hp1 := hpt one h1.1 h1.2
          have hp2 := hpt other h2.1 h2.2
          have nx : ∀ (T5 : St) (y6 y7 y8 : Option AV), Fr [25, 23, 27, 28, 29] [] T T5 → (∀ j, ¬ j = one → ¬ j = other → T5 23 j = T 23 j) → T5 23 one = vsM B f one a → ts3 B one other pre f (k + 1) T5 → Smm H_M_talliesPairs 258 [some (.inr (.inr 0)), some (.inl one), some (.inl other), some (.inl (a : Int)), some (.inl v), some (.inl (b : Int)), y6, y7, y8] [] T5 Q := by
            intro T5 y6 y7 y8 g1 g2 g3 g4
            refine sound ok_M_talliesPairs [94] 20 ?_
            refine Smm.sub (ih (T5, some (.inl v), none, y6, y7, y8) ⟨⟨g1, g2, ?_⟩, g3⟩ v rfl) ⟨Or.inr rfl, Or.inr rfl, Or.inr rfl, Or.inr rfl, Or.inr rfl, Or.inr (sI ?_), Or.inr rfl, Or.inr rfl, Or.inr rfl, trivial⟩
            · dsimp only
              rw [gd_j hk]
              exact g4
            · exact gd_n hb hw50
          have go : ∀ u, u = vsM B f other b → ∀ y, Smm H_M_talliesPairs 145 [some (.inr (.inr 0)), some (.inl one), some (.inl other), some (.inl (a : Int)), some (.inl v), some (.inl (b : Int)), some (.inl y), x7, x8] [.inl u, .inl other, .inr (.inr 23)] T2 Q := by
            intro u hu y
            have hF3 := hF2.up 23 other u rfl
            have etn : ∀ j, 0 ≤ j → j < B 0 19 → up T2 23 other u 23 j = t2M B f one other a b j := fun j j0 j1 => by
              unfold t2M
              by_cases hj : j = other
              · rw [hj, up_s, uf_s, hu]
              · rw [up_n _ _ _ hj, uf_n _ _ hj]
                by_cases hj2 : j = one
                · rw [hj2, uf_s, hone]
                · rw [uf_n _ _ hj2, htn j hj2 hj, hW3 j j0 j1]
            have u0 : up T2 23 other u 0 = B 0 := by rw [up_o _ _ _ (by decide), f0]
            have eap : apF (up T2 23 other u 0 21) (up T2 23 other u 23) (up T2 23 other u 0 19).toNat = apF (B 0 21) (t2M B f one other a b) (B 0 19).toNat := by
              rw [u0]
              exact apF_congr (fun j j0 j1 => etn j j0 (by rw [Int.toNat_of_nonneg hk4.1] at j1; exact j1))
            have htu : ∀ T4, Fr [25] [] (up T2 23 other u) T4 → (∀ j, ¬ j = one → ¬ j = other → T4 23 j = T 23 j) ∧ T4 23 one = vsM B f one a ∧ T4 27 = T2 27 ∧ T4 28 = T2 28 ∧ T4 29 = T2 29 ∧ T4 7 = B 7 ∧ T4 8 = B 8 := fun T4 h => by
              refine ⟨fun j j1 j2 => by rw [h.c 23 rfl, up_n _ _ _ j2]; exact htn j j1 j2, by rw [h.c 23 rfl, up_n _ _ _ hne]; exact hone, by rw [h.c 27 rfl, up_o _ _ _ (by decide)], by rw [h.c 28 rfl, up_o _ _ _ (by decide)], by rw [h.c 29 rfl, up_o _ _ _ (by decide)], by rw [h.c 7 rfl, up_o _ _ _ (by decide), f3], by rw [h.c 8 rfl, up_o _ _ _ (by decide), f4]⟩
            have at155 : Smm H_M_talliesPairs 155 [some (.inr (.inr 0)), some (.inl one), some (.inl other), some (.inl (a : Int)), some (.inl v), some (.inl (b : Int)), some (.inl y), some (.inl k), x8] [] (up T2 23 other u) Q → Smm H_M_talliesPairs 145 [some (.inr (.inr 0)), some (.inl one), some (.inl other), some (.inl (a : Int)), some (.inl v), some (.inl (b : Int)), some (.inl y), x7, x8] [.inl u, .inl other, .inr (.inr 23)] T2 Q := fun h => by
              refine sound ok_M_talliesPairs [155] 20 ?_
              refine ⟨by first | exact hkb | exact h14 | exact h24, ?_⟩
              exact Smm.sub h ⟨Or.inr rfl, Or.inr rfl, Or.inr rfl, Or.inr rfl, Or.inr rfl, Or.inr rfl, Or.inr rfl, Or.inr (sI ek.symm), Or.inr rfl, trivial⟩
            refine at155 ?_
            refine sound ok_M_talliesPairs [236, 258] 60 ?_
            refine t_M_doesOpen (up T2 23 other u) _ (by rw [u0]; exact hk4) (by rw [u0]; exact ⟨hA.2.1.2.1, hA.2.1.2.2.1⟩) (fun j j0 j1 => ?_) (fun T4 hF5 hop => ?_) (fun T4 hF5 hop => ?_)
            · rw [u0] at j1
              rw [etn j j0 j1]
              unfold t2M
              by_cases hj : j = other
              · rw [hj, uf_s]; exact vsM_b hA hfm0 h24 ⟨Int.natCast_nonneg _, by rw [hw]; exact_mod_cast hb⟩
              · rw [uf_n _ _ hj]
                by_cases hj2 : j = one
                · rw [hj2, uf_s]; exact vsM_b hA hfm0 h14 ⟨Int.natCast_nonneg _, by rw [hw]; exact_mod_cast ha⟩
                · rw [uf_n _ _ hj2]
                  exact (tnM_b hA.1 hof j0 (Int.lt_of_lt_of_le j1 hk4.2)).imp_right (fun z => ⟨z.1, Int.le_trans z.2 (by decide)⟩)
            · rw [eap, u0] at hop
              have ho : op2 B f one other a b = true := decide_eq_true hop
              obtain ⟨t1, t2, t3, t4, t5, t6, t7⟩ := htu T4 hF5
              refine ⟨fun z => absurd z (by decide), fun _ => ?_⟩
              refine ⟨by first | exact hkb | exact h14 | exact h24, ?_⟩
              refine ⟨by first | exact hkb | exact h14 | exact h24, ?_⟩
              refine ⟨by first | exact hkb | exact h14 | exact h24, ?_⟩
              refine ⟨by first | exact hkb | exact h14 | exact h24, ?_⟩
              refine ⟨by first | exact hkb | exact h14 | exact h24, ?_⟩
              refine ⟨by first | exact hkb | exact h14 | exact h24, ?_⟩
              refine ⟨by first | exact hkb | exact h14 | exact h24, ?_⟩
              refine ⟨by first | exact hkb | exact h14 | exact h24, ?_⟩
              refine nx _ _ _ _ (((((hF3.tr (hF5.mo rfl rfl)).up _ _ _ rfl).up _ _ _ rfl).up _ _ _ rfl)) (fun j j1 j2 => ?_) ?_ ⟨?_, ?_, ?_⟩
              · rw [up_o _ _ _ (by decide), up_o _ _ _ (by decide), up_o _ _ _ (by decide)]
                exact t1 j j1 j2
              · rw [up_o _ _ _ (by decide), up_o _ _ _ (by decide), up_o _ _ _ (by decide)]
                exact t2
              · rw [up_o _ _ _ (by decide), up_o _ _ _ (by decide), up_c, t3]
                refine ts_add hts.1 ?_
                rw [gd_b (n := 0) b1 hpl2 (by decide)]
                rw [wpv, ho]
                rfl
              · rw [up_o _ _ _ (by decide), up_c, up_o _ _ _ (by decide), t4]
                refine ts_add hts.2.1 ?_
                rw [up_o _ _ _ (by decide), t6, gd_b (n := 0) b2 hpl2 ⟨hp1.1, hp1.2.1⟩]
                rw [wgv, ho]
                rfl
              · rw [up_c, up_o _ _ _ (by decide), up_o _ _ _ (by decide), t5]
                refine ts_add hts.2.2 ?_
                rw [up_o _ _ _ (by decide), up_o _ _ _ (by decide), t6, gd_b (n := 0) b3 hpl2 ⟨hp2.1, hp2.2.1⟩]
                rw [wgv, ho]
                rfl
            · rw [eap, u0] at hop
              have ho : op2 B f one other a b = false := decide_eq_false hop
              obtain ⟨t1, t2, t3, t4, t5, t6, t7⟩ := htu T4 hF5
              refine ⟨fun _ => ?_, fun z => absurd rfl z⟩
              have hF6 := hF3.tr (hF5.mo rfl rfl)
              have g0 : T4 0 = B 0 := by rw [hF5.c 0 rfl, u0]
              have eft : ftF (T4 23) (T4 0 19).toNat = ft2 B f one other a b := by
                unfold ft2
                rw [g0]
                refine ftF_congr _ (fun j j0 j1 => ?_)
                rw [hF5.c 23 rfl]
                exact etn j j0 (by rw [Int.toNat_of_nonneg hk4.1] at j1; exact j1)
              have wp0 : wP B one other k f = 0 := by rw [wpv, ho]; rfl
              have wg0 : ∀ g, ¬ ft2 B f one other a b = g → wG B one other g k f = 0 := fun g hz => by rw [wgv, ho, if_neg (by decide), if_neg hz]
              have wg1 : ∀ g, ft2 B f one other a b = g → wG B one other g k f = B 8 g := fun g hz => by rw [wgv, ho, if_neg (by decide), if_pos hz]
              have last : ∀ (T5 : St), Fr [25, 23, 27, 28, 29] [] T T5 → (∀ j, ¬ j = one → ¬ j = other → T5 23 j = T 23 j) → T5 23 one = vsM B f one a → T5 8 = B 8 → T5 29 = T2 29 → T5 27 = T2 27 → tsI (wG B one other one) pre f (k + 1) 2500 (T5 28) → Smm H_M_talliesPairs 236 [some (.inr (.inr 0)), some (.inl one), some (.inl other), some (.inl (a : Int)), some (.inl v), some (.inl (b : Int)), some (.inl y), some (.inl k), some (.inl (ft2 B f one other a b))] [] T5 Q := by
                intro T5 g1 g2 g3 g4 g5 g6 g7
                refine sound ok_M_talliesPairs [258] 40 ?_
                refine ⟨fun h3 => ?_, fun h3 => ?_⟩
                · refine nx T5 _ _ _ g1 g2 g3 ⟨?_, g7, ?_⟩
                  · rw [g6]; exact ts_no hts.1 wp0
                  · rw [g5]; exact ts_no hts.2.2 (wg0 other h3)
                · refine ⟨by first | exact hkb | exact h14 | exact h24, ?_⟩
                  refine ⟨by first | exact hkb | exact h14 | exact h24, ?_⟩
                  refine ⟨by first | exact hkb | exact h14 | exact h24, ?_⟩
                  refine nx _ _ _ _ (g1.up _ _ _ rfl) (fun j j1 j2 => ?_) ?_ ⟨?_, ?_, ?_⟩
                  · rw [up_o _ _ _ (by decide)]; exact g2 j j1 j2
                  · rw [up_o _ _ _ (by decide)]; exact g3
                  · rw [up_o _ _ _ (by decide), g6]; exact ts_no hts.1 wp0
                  · rw [up_o _ _ _ (by decide)]; exact g7
                  · rw [up_c, g5]
                    refine ts_add hts.2.2 ?_
                    rw [g4, gd_b (n := 0) b3 hpl2 hp2.2.2, wg1 other h3]
              refine t_M_firstToTurn T4 _ (by rw [g0]; exact hk4) ?_
              rw [eft]
              refine ⟨fun h3 => ?_, fun h3 => ?_⟩
              · refine last T4 hF6 t1 t2 t7 t5 t3 ?_
                rw [t4]; exact ts_no hts.2.1 (wg0 one h3)
              · refine ⟨by first | exact hkb | exact h14 | exact h24, ?_⟩
                refine ⟨by first | exact hkb | exact h14 | exact h24, ?_⟩
                refine ⟨by first | exact hkb | exact h14 | exact h24, ?_⟩
                refine last _ (hF6.up _ _ _ rfl) (fun j j1 j2 => ?_) ?_ ?_ ?_ ?_ ?_
                · rw [up_o _ _ _ (by decide)]; exact t1 j j1 j2
                · rw [up_o _ _ _ (by decide)]; exact t2
                · rw [up_o _ _ _ (by decide)]; exact t7
                · rw [up_o _ _ _ (by decide)]; exact t5
                · rw [up_o _ _ _ (by decide)]; exact t3
                · rw [up_c, t4]
                  refine ts_add hts.2.1 ?_
                  rw [t7, gd_b (n := 0) b2 hpl2 hp1.2.2, wg1 one h3]
          refine sound ok_M_talliesPairs [145] 40 ?_
          refine ⟨fun h3 => absurd h3 (by rw [en]; exact (oo ()).2.2), fun _ => ?_⟩
          refine ⟨by decide, ?_⟩
          rw [e1 ()]
          refine hear T2 other (b / 10) _ hF2 h24 (oo ()).1 ?_
          refine ⟨fun h3 => ?_, fun h3 => ?_⟩
          · refine ⟨by decide, ?_⟩
            refine go _ ?_ _
            rw [e2 ()]
            exact (oo ()).2.1 h3
          · refine go _ ?_ _
            unfold vsM plN
            rw [if_pos h3]
      refine sound ok_M_talliesPairs [42] 30 ?_
      refine grid (T, none, none, none, none, none) ⟨Fr.rf _ _ _, fun _ _ _ => rfl, ?_⟩
      have cv : ∀ (w : Int → (Int → Int) → Int) (t : Int → Int), tsI w pre (fun _ => 0) 0 2500 t → tsI w pre f 0 2500 t := fun w t h k k0 k1 => by
        rw [h k k0 k1, if_neg (by omega), if_neg (by omega)]
      exact ⟨cv _ _ hI.1, cv _ _ hI.2.1, cv _ _ hI.2.2⟩
    obtain ⟨r, hr⟩ := wy_first (err := B 18) (B 0 20).toNat (fun i hi => (hA.2.2 i (by omega) (by have := hA.1.1.1; omega)).1)
    have clear : ∀ (i : Int) (T : St), ((0 ≤ i ∧ i ≤ 2500) ∧ Fr [27, 28, 29] [] B T ∧ ∀ k, 0 ≤ k → k < i → T 27 k = 0 ∧ T 28 k = 0 ∧ T 29 k = 0) → Smm H_M_talliesPairs 2 [some (.inr (.inr 0)), some (.inl one), some (.inl other), some (.inl i), none, none, none, none, none] [] T Q := by
      refine lp_up (P := fun i T => Smm H_M_talliesPairs 2 [some (.inr (.inr 0)), some (.inl one), some (.inl other), some (.inl i), none, none, none, none, none] [] T Q) _ 2500 ?_ ?_
      · rintro i T hi ⟨hi2, hF, hz⟩
        have hSm : Sm B T := Sm.of hF rfl
        refine sound ok_M_talliesPairs [40] 20 ?_
        refine ⟨fun _ => ?_, fun h3 => absurd h3 (by omega)⟩
        refine t_M_firstWay T _ (mAs_sm hSm hA) (fun T2 hF2 hW => ?_)
        refine Smm.sub (loop r [] (fsF (B 18) (B 0 20).toNat) T2 hr ⟨(hF.mo rfl rfl).tr (hF2.mo rfl rfl), ?_, ?_⟩) ⟨Or.inr rfl, Or.inr rfl, Or.inr rfl, Or.inl rfl, Or.inl rfl, Or.inl rfl, Or.inl rfl, Or.inl rfl, Or.inl rfl, trivial⟩
        · rw [← hSm.1, ← hSm.2.2.2.2.2.2.1]
          exact hW
        · rw [hF2.c 27 rfl, hF2.c 28 rfl, hF2.c 29 rfl]
          refine ⟨fun k k0 k1 => ?_, fun k k0 k1 => ?_, fun k k0 k1 => ?_⟩
          · rw [(hz k k0 (by omega)).1, if_neg (by omega)]; rfl
          · rw [(hz k k0 (by omega)).2.1, if_neg (by omega)]; rfl
          · rw [(hz k k0 (by omega)).2.2, if_neg (by omega)]; rfl
      · rintro i T hi ⟨hi2, hF, hz⟩ ih
        refine sound ok_M_talliesPairs [2] 40 ?_
        refine ⟨fun h3 => absurd h3 (by omega), fun _ => ?_⟩
        refine ⟨by omega, ?_⟩
        refine ⟨by omega, ?_⟩
        refine ⟨by omega, ?_⟩
        refine Smm.sub (ih _ ⟨by omega, ((hF.up _ _ _ rfl).up _ _ _ rfl).up _ _ _ rfl, fun k k0 k1 => ?_⟩) ⟨Or.inr rfl, Or.inr rfl, Or.inr rfl, Or.inr (sI (i32_id (by omega) (by omega)).symm), Or.inl rfl, Or.inl rfl, Or.inl rfl, Or.inl rfl, Or.inl rfl, trivial⟩
        by_cases hk : k = i
        · rw [hk]
          simp [upr]
        · have := hz k k0 (by omega)
          simp [upr, hk, this]
    refine sound ok_M_talliesPairs [2] 10 ?_
    exact clear 0 B ⟨by omega, Fr.rf _ _ _, fun k k0 k1 => by omega⟩
end
