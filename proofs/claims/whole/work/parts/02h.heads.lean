theorem hn_0 : plainName (clN 0) = true := by decide +kernel
theorem hn_1 : plainName (clN 1) = true := by decide +kernel
theorem hn_2 : plainName (clN 2) = true := by decide +kernel
theorem hn_3 : plainName (clN 3) = true := by decide +kernel
theorem hn_4 : plainName (clN 4) = true := by decide +kernel
theorem hn_5 : plainName (clN 5) = true := by decide +kernel
theorem hn_6 : plainName (clN 6) = true := by decide +kernel
theorem hn_7 : plainName (clN 7) = true := by decide +kernel
theorem hn_8 : plainName (clN 8) = true := by decide +kernel
theorem hn_9 : plainName (clN 9) = true := by decide +kernel
theorem hn_10 : plainName (clN 10) = true := by decide +kernel
theorem hn_11 : plainName (clN 11) = true := by decide +kernel
theorem hn_12 : plainName (clN 12) = true := by decide +kernel
theorem hn_14 : plainName (clN 14) = true := by decide +kernel
theorem hk_0 : clN 0 ≠ "java/lang/invoke/MethodHandle" ∧ clN 0 ≠ "java/lang/invoke/VarHandle" := by decide +kernel
theorem hk_1 : clN 1 ≠ "java/lang/invoke/MethodHandle" ∧ clN 1 ≠ "java/lang/invoke/VarHandle" := by decide +kernel
theorem hk_2 : clN 2 ≠ "java/lang/invoke/MethodHandle" ∧ clN 2 ≠ "java/lang/invoke/VarHandle" := by decide +kernel
theorem hk_3 : clN 3 ≠ "java/lang/invoke/MethodHandle" ∧ clN 3 ≠ "java/lang/invoke/VarHandle" := by decide +kernel
theorem hk_4 : clN 4 ≠ "java/lang/invoke/MethodHandle" ∧ clN 4 ≠ "java/lang/invoke/VarHandle" := by decide +kernel
theorem hk_5 : clN 5 ≠ "java/lang/invoke/MethodHandle" ∧ clN 5 ≠ "java/lang/invoke/VarHandle" := by decide +kernel
theorem hk_6 : clN 6 ≠ "java/lang/invoke/MethodHandle" ∧ clN 6 ≠ "java/lang/invoke/VarHandle" := by decide +kernel
theorem hk_7 : clN 7 ≠ "java/lang/invoke/MethodHandle" ∧ clN 7 ≠ "java/lang/invoke/VarHandle" := by decide +kernel
theorem hk_8 : clN 8 ≠ "java/lang/invoke/MethodHandle" ∧ clN 8 ≠ "java/lang/invoke/VarHandle" := by decide +kernel
theorem hk_9 : clN 9 ≠ "java/lang/invoke/MethodHandle" ∧ clN 9 ≠ "java/lang/invoke/VarHandle" := by decide +kernel
theorem hk_10 : clN 10 ≠ "java/lang/invoke/MethodHandle" ∧ clN 10 ≠ "java/lang/invoke/VarHandle" := by decide +kernel
theorem hk_11 : clN 11 ≠ "java/lang/invoke/MethodHandle" ∧ clN 11 ≠ "java/lang/invoke/VarHandle" := by decide +kernel
theorem hk_12 : clN 12 ≠ "java/lang/invoke/MethodHandle" ∧ clN 12 ≠ "java/lang/invoke/VarHandle" := by decide +kernel
theorem hk_13 : clN 13 ≠ "java/lang/invoke/MethodHandle" ∧ clN 13 ≠ "java/lang/invoke/VarHandle" := by decide +kernel
theorem hk_14 : clN 14 ≠ "java/lang/invoke/MethodHandle" ∧ clN 14 ≠ "java/lang/invoke/VarHandle" := by decide +kernel
theorem hi_0 : Cond.initialized (clN 0) ∈ G := mG 86 (by decide +kernel) rfl
theorem hi_1 : Cond.initialized (clN 1) ∈ G := mG 91 (by decide +kernel) rfl
theorem hi_2 : Cond.initialized (clN 2) ∈ G := mG 83 (by decide +kernel) rfl
theorem hi_3 : Cond.initialized (clN 3) ∈ G := mG 82 (by decide +kernel) rfl
theorem hi_4 : Cond.initialized (clN 4) ∈ G := mG 84 (by decide +kernel) rfl
theorem hi_5 : Cond.initialized (clN 5) ∈ G := mG 85 (by decide +kernel) rfl
theorem hi_6 : Cond.initialized (clN 6) ∈ G := mG 88 (by decide +kernel) rfl
theorem hi_7 : Cond.initialized (clN 7) ∈ G := mG 90 (by decide +kernel) rfl
theorem hi_8 : Cond.initialized (clN 8) ∈ G := mG 89 (by decide +kernel) rfl
theorem hi_9 : Cond.initialized (clN 9) ∈ G := mG 81 (by decide +kernel) rfl
theorem hi_10 : Cond.initialized (clN 10) ∈ G := mG 87 (by decide +kernel) rfl
theorem hi_11 : Cond.initialized (clN 11) ∈ G := mG 80 (by decide +kernel) rfl
theorem hi_12 : Cond.initialized (clN 12) ∈ G := mG 92 (by decide +kernel) rfl
theorem hi_13 : Cond.initialized (clN 13) ∈ G := mG 98 (by decide +kernel) rfl
theorem hi_14 : Cond.initialized (clN 14) ∈ G := mG 99 (by decide +kernel) rfl
/-- what the tables say of a method -/
def hdOk (h : Hd) : Prop := Cond.code h.2.1 h.2.2.1 h.2.2.2.1 h.2.2.2.2.1 ∈ G ∧ Cond.initialized h.2.1.cls ∈ G ∧ h.2.1.cls = clN h.1 ∧ plainName h.2.1.cls = true ∧ (h.2.1.cls ≠ "java/lang/invoke/MethodHandle" ∧ h.2.1.cls ≠ "java/lang/invoke/VarHandle" ∧ (parseMethodDescriptor h.2.1.desc).map (fun d => d.parameters.length) = some h.2.2.2.2.2.2.2.2) ∧ ((h.2.2.2.2.2.2.2.1 = 0 ∧ Cond.static h.2.1 ∈ G) ∨ (¬ h.2.2.2.2.2.2.2.1 = 0 ∧ Cond.instanceMethod h.2.1 ∈ G ∧ Cond.selects h.2.1.cls h.2.1 h.2.1 ∈ G))
set_option maxRecDepth 20000 in
theorem ho_0 : hdOk H_Book_copy := ⟨mG 1242 rfl rfl, hi_0, rfl, hn_0, ⟨hk_0.1, hk_0.2, by decide +kernel⟩, Or.inr ⟨by decide, mG 1240 (by decide +kernel) rfl, mG 1241 (by decide +kernel) rfl⟩⟩
set_option maxRecDepth 20000 in
theorem ho_1 : hdOk H_Book_leaveLand := ⟨mG 728 rfl rfl, hi_0, rfl, hn_0, ⟨hk_0.1, hk_0.2, by decide +kernel⟩, Or.inr ⟨by decide, mG 726 (by decide +kernel) rfl, mG 727 (by decide +kernel) rfl⟩⟩
set_option maxRecDepth 20000 in
theorem ho_2 : hdOk H_Book_addScratch := ⟨mG 1102 rfl rfl, hi_0, rfl, hn_0, ⟨hk_0.1, hk_0.2, by decide +kernel⟩, Or.inr ⟨by decide, mG 1100 (by decide +kernel) rfl, mG 1101 (by decide +kernel) rfl⟩⟩
set_option maxRecDepth 20000 in
theorem ho_3 : hdOk H_Book_scratchedSigns := ⟨mG 1110 rfl rfl, hi_0, rfl, hn_0, ⟨hk_0.1, hk_0.2, by decide +kernel⟩, Or.inr ⟨by decide, mG 1108 (by decide +kernel) rfl, mG 1109 (by decide +kernel) rfl⟩⟩
set_option maxRecDepth 20000 in
theorem ho_4 : hdOk H_Book_unlike := ⟨mG 1115 rfl rfl, hi_0, rfl, hn_0, ⟨hk_0.1, hk_0.2, by decide +kernel⟩, Or.inr ⟨by decide, mG 1113 (by decide +kernel) rfl, mG 1114 (by decide +kernel) rfl⟩⟩
set_option maxRecDepth 20000 in
theorem ho_5 : hdOk H_Book_draw := ⟨mG 1207 rfl rfl, hi_0, rfl, hn_0, ⟨hk_0.1, hk_0.2, by decide +kernel⟩, Or.inr ⟨by decide, mG 1205 (by decide +kernel) rfl, mG 1206 (by decide +kernel) rfl⟩⟩
set_option maxRecDepth 20000 in
theorem ho_6 : hdOk H_Book_addNight := ⟨mG 1213 rfl rfl, hi_0, rfl, hn_0, ⟨hk_0.1, hk_0.2, by decide +kernel⟩, Or.inr ⟨by decide, mG 1211 (by decide +kernel) rfl, mG 1212 (by decide +kernel) rfl⟩⟩
set_option maxRecDepth 20000 in
theorem ho_7 : hdOk H_Book_dropNight := ⟨mG 1234 rfl rfl, hi_0, rfl, hn_0, ⟨hk_0.1, hk_0.2, by decide +kernel⟩, Or.inr ⟨by decide, mG 1232 (by decide +kernel) rfl, mG 1233 (by decide +kernel) rfl⟩⟩
set_option maxRecDepth 20000 in
theorem ho_8 : hdOk H_Book_countOpened := ⟨mG 1254 rfl rfl, hi_0, rfl, hn_0, ⟨hk_0.1, hk_0.2, by decide +kernel⟩, Or.inr ⟨by decide, mG 1252 (by decide +kernel) rfl, mG 1253 (by decide +kernel) rfl⟩⟩
set_option maxRecDepth 20000 in
theorem ho_9 : hdOk H_Duel_fill := ⟨mG 995 rfl rfl, hi_1, rfl, hn_1, ⟨hk_1.1, hk_1.2, by decide +kernel⟩, Or.inr ⟨by decide, mG 993 (by decide +kernel) rfl, mG 994 (by decide +kernel) rfl⟩⟩
set_option maxRecDepth 20000 in
theorem ho_10 : hdOk H_Duel_mostOpen := ⟨mG 1025 rfl rfl, hi_1, rfl, hn_1, ⟨hk_1.1, hk_1.2, by decide +kernel⟩, Or.inr ⟨by decide, mG 1023 (by decide +kernel) rfl, mG 1024 (by decide +kernel) rfl⟩⟩
set_option maxRecDepth 20000 in
theorem ho_11 : hdOk H_Duel_codeOf := ⟨mG 1029 rfl rfl, hi_1, rfl, hn_1, ⟨hk_1.1, hk_1.2, by decide +kernel⟩, Or.inr ⟨by decide, mG 1027 (by decide +kernel) rfl, mG 1028 (by decide +kernel) rfl⟩⟩
set_option maxRecDepth 20000 in
theorem ho_12 : hdOk H_Duel_countOpenIn := ⟨mG 1037 rfl rfl, hi_1, rfl, hn_1, ⟨hk_1.1, hk_1.2, by decide +kernel⟩, Or.inr ⟨by decide, mG 1035 (by decide +kernel) rfl, mG 1036 (by decide +kernel) rfl⟩⟩
set_option maxRecDepth 20000 in
theorem ho_13 : hdOk H_Duel_findRest := ⟨mG 1076 rfl rfl, hi_1, rfl, hn_1, ⟨hk_1.1, hk_1.2, by decide +kernel⟩, Or.inr ⟨by decide, mG 1074 (by decide +kernel) rfl, mG 1075 (by decide +kernel) rfl⟩⟩
set_option maxRecDepth 20000 in
theorem ho_14 : hdOk H_Duel_addSpan := ⟨mG 972 rfl rfl, hi_1, rfl, hn_1, ⟨hk_1.1, hk_1.2, by decide +kernel⟩, Or.inl ⟨rfl, mG 971 (by decide +kernel) rfl⟩⟩
set_option maxRecDepth 20000 in
theorem ho_15 : hdOk H_Duel_findMosts := ⟨mG 1080 rfl rfl, hi_1, rfl, hn_1, ⟨hk_1.1, hk_1.2, by decide +kernel⟩, Or.inr ⟨by decide, mG 1079 (by decide +kernel) rfl, mG 35 (by decide +kernel) rfl⟩⟩
set_option maxRecDepth 20000 in
theorem ho_16 : hdOk H_Duel_gainOfOne := ⟨mG 1084 rfl rfl, hi_1, rfl, hn_1, ⟨hk_1.1, hk_1.2, by decide +kernel⟩, Or.inr ⟨by decide, mG 1083 (by decide +kernel) rfl, mG 36 (by decide +kernel) rfl⟩⟩
set_option maxRecDepth 20000 in
theorem ho_17 : hdOk H_Duel_gainOfOther := ⟨mG 1089 rfl rfl, hi_1, rfl, hn_1, ⟨hk_1.1, hk_1.2, by decide +kernel⟩, Or.inr ⟨by decide, mG 1088 (by decide +kernel) rfl, mG 37 (by decide +kernel) rfl⟩⟩
set_option maxRecDepth 20000 in
theorem ho_18 : hdOk H_Duel_tryPlan := ⟨mG 1002 rfl rfl, hi_1, rfl, hn_1, ⟨hk_1.1, hk_1.2, by decide +kernel⟩, Or.inr ⟨by decide, mG 1001 (by decide +kernel) rfl, mG 32 (by decide +kernel) rfl⟩⟩
set_option maxRecDepth 20000 in
theorem ho_19 : hdOk H_Duel_findFirst := ⟨mG 1014 rfl rfl, hi_1, rfl, hn_1, ⟨hk_1.1, hk_1.2, by decide +kernel⟩, Or.inr ⟨by decide, mG 1013 (by decide +kernel) rfl, mG 33 (by decide +kernel) rfl⟩⟩
set_option maxRecDepth 20000 in
theorem ho_20 : hdOk H_Duel_addWay := ⟨mG 1018 rfl rfl, hi_1, rfl, hn_1, ⟨hk_1.1, hk_1.2, by decide +kernel⟩, Or.inr ⟨by decide, mG 1017 (by decide +kernel) rfl, mG 34 (by decide +kernel) rfl⟩⟩
set_option maxRecDepth 20000 in
theorem ho_21 : hdOk H_Land_clear := ⟨mG 621 rfl rfl, hi_2, rfl, hn_2, ⟨hk_2.1, hk_2.2, by decide +kernel⟩, Or.inr ⟨by decide, mG 619 (by decide +kernel) rfl, mG 620 (by decide +kernel) rfl⟩⟩
set_option maxRecDepth 20000 in
theorem ho_22 : hdOk H_Land_copy := ⟨mG 721 rfl rfl, hi_2, rfl, hn_2, ⟨hk_2.1, hk_2.2, by decide +kernel⟩, Or.inr ⟨by decide, mG 719 (by decide +kernel) rfl, mG 720 (by decide +kernel) rfl⟩⟩
set_option maxRecDepth 20000 in
theorem ho_23 : hdOk H_Land_isFull := ⟨mG 639 rfl rfl, hi_2, rfl, hn_2, ⟨hk_2.1, hk_2.2, by decide +kernel⟩, Or.inr ⟨by decide, mG 637 (by decide +kernel) rfl, mG 638 (by decide +kernel) rfl⟩⟩
set_option maxRecDepth 20000 in
theorem ho_24 : hdOk H_Land_take := ⟨mG 679 rfl rfl, hi_2, rfl, hn_2, ⟨hk_2.1, hk_2.2, by decide +kernel⟩, Or.inr ⟨by decide, mG 677 (by decide +kernel) rfl, mG 678 (by decide +kernel) rfl⟩⟩
set_option maxRecDepth 20000 in
theorem ho_25 : hdOk H_Land_isWhole := ⟨mG 684 rfl rfl, hi_2, rfl, hn_2, ⟨hk_2.1, hk_2.2, by decide +kernel⟩, Or.inr ⟨by decide, mG 682 (by decide +kernel) rfl, mG 683 (by decide +kernel) rfl⟩⟩
set_option maxRecDepth 20000 in
theorem ho_26 : hdOk H_Land_allWays := ⟨mG 881 rfl rfl, hi_2, rfl, hn_2, ⟨hk_2.1, hk_2.2, by decide +kernel⟩, Or.inr ⟨by decide, mG 879 (by decide +kernel) rfl, mG 880 (by decide +kernel) rfl⟩⟩
set_option maxRecDepth 20000 in
theorem ho_27 : hdOk H_Land_heardBy := ⟨mG 807 rfl rfl, hi_2, rfl, hn_2, ⟨hk_2.1, hk_2.2, by decide +kernel⟩, Or.inr ⟨by decide, mG 805 (by decide +kernel) rfl, mG 806 (by decide +kernel) rfl⟩⟩
set_option maxRecDepth 20000 in
theorem ho_28 : hdOk H_Land_makeDeaf := ⟨mG 1187 rfl rfl, hi_2, rfl, hn_2, ⟨hk_2.1, hk_2.2, by decide +kernel⟩, Or.inr ⟨by decide, mG 1185 (by decide +kernel) rfl, mG 1186 (by decide +kernel) rfl⟩⟩
set_option maxRecDepth 20000 in
theorem ho_29 : hdOk H_Land_countAhead := ⟨mG 1179 rfl rfl, hi_2, rfl, hn_2, ⟨hk_2.1, hk_2.2, by decide +kernel⟩, Or.inr ⟨by decide, mG 1177 (by decide +kernel) rfl, mG 1178 (by decide +kernel) rfl⟩⟩
set_option maxRecDepth 20000 in
theorem ho_30 : hdOk H_Land_timeOf := ⟨mG 816 rfl rfl, hi_2, rfl, hn_2, ⟨hk_2.1, hk_2.2, by decide +kernel⟩, Or.inr ⟨by decide, mG 814 (by decide +kernel) rfl, mG 815 (by decide +kernel) rfl⟩⟩
set_option maxRecDepth 20000 in
theorem ho_31 : hdOk H_Land_gainOf := ⟨mG 1068 rfl rfl, hi_2, rfl, hn_2, ⟨hk_2.1, hk_2.2, by decide +kernel⟩, Or.inr ⟨by decide, mG 1066 (by decide +kernel) rfl, mG 1067 (by decide +kernel) rfl⟩⟩
set_option maxRecDepth 20000 in
theorem ho_32 : hdOk H_LandReader_read := ⟨mG 613 rfl rfl, hi_3, rfl, hn_3, ⟨hk_3.1, hk_3.2, by decide +kernel⟩, Or.inr ⟨by decide, mG 611 (by decide +kernel) rfl, mG 612 (by decide +kernel) rfl⟩⟩
set_option maxRecDepth 20000 in
theorem ho_33 : hdOk H_LandReader_readClause := ⟨mG 628 rfl rfl, hi_3, rfl, hn_3, ⟨hk_3.1, hk_3.2, by decide +kernel⟩, Or.inr ⟨by decide, mG 627 (by decide +kernel) rfl, mG 0 (by decide +kernel) rfl⟩⟩
set_option maxRecDepth 20000 in
theorem ho_34 : hdOk H_LandReader_isClauseOver := ⟨mG 652 rfl rfl, hi_3, rfl, hn_3, ⟨hk_3.1, hk_3.2, by decide +kernel⟩, Or.inr ⟨by decide, mG 651 (by decide +kernel) rfl, mG 1 (by decide +kernel) rfl⟩⟩
set_option maxRecDepth 20000 in
theorem ho_35 : hdOk H_LandReader_readItem := ⟨mG 656 rfl rfl, hi_3, rfl, hn_3, ⟨hk_3.1, hk_3.2, by decide +kernel⟩, Or.inr ⟨by decide, mG 655 (by decide +kernel) rfl, mG 2 (by decide +kernel) rfl⟩⟩
set_option maxRecDepth 20000 in
theorem ho_36 : hdOk H_LandReader_kindOf := ⟨mG 635 rfl rfl, hi_3, rfl, hn_3, ⟨hk_3.1, hk_3.2, by decide +kernel⟩, Or.inl ⟨rfl, mG 634 (by decide +kernel) rfl⟩⟩
set_option maxRecDepth 20000 in
theorem ho_37 : hdOk H_LandReader_itemOf := ⟨mG 659 rfl rfl, hi_3, rfl, hn_3, ⟨hk_3.1, hk_3.2, by decide +kernel⟩, Or.inl ⟨rfl, mG 658 (by decide +kernel) rfl⟩⟩
set_option maxRecDepth 20000 in
theorem ho_38 : hdOk H_PlanReader_read := ⟨mG 688 rfl rfl, hi_4, rfl, hn_4, ⟨hk_4.1, hk_4.2, by decide +kernel⟩, Or.inr ⟨by decide, mG 686 (by decide +kernel) rfl, mG 687 (by decide +kernel) rfl⟩⟩
set_option maxRecDepth 20000 in
theorem ho_39 : hdOk H_PlanReader_readUnit := ⟨mG 695 rfl rfl, hi_4, rfl, hn_4, ⟨hk_4.1, hk_4.2, by decide +kernel⟩, Or.inr ⟨by decide, mG 694 (by decide +kernel) rfl, mG 4 (by decide +kernel) rfl⟩⟩
set_option maxRecDepth 20000 in
theorem ho_40 : hdOk H_PlanReader_readLetter := ⟨mG 703 rfl rfl, hi_4, rfl, hn_4, ⟨hk_4.1, hk_4.2, by decide +kernel⟩, Or.inr ⟨by decide, mG 702 (by decide +kernel) rfl, mG 6 (by decide +kernel) rfl⟩⟩
set_option maxRecDepth 20000 in
theorem ho_41 : hdOk H_PlanReader_readBehindUnit := ⟨mG 709 rfl rfl, hi_4, rfl, hn_4, ⟨hk_4.1, hk_4.2, by decide +kernel⟩, Or.inr ⟨by decide, mG 708 (by decide +kernel) rfl, mG 7 (by decide +kernel) rfl⟩⟩
set_option maxRecDepth 20000 in
theorem ho_42 : hdOk H_PlanReader_write := ⟨mG 699 rfl rfl, hi_4, rfl, hn_4, ⟨hk_4.1, hk_4.2, by decide +kernel⟩, Or.inr ⟨by decide, mG 698 (by decide +kernel) rfl, mG 5 (by decide +kernel) rfl⟩⟩
set_option maxRecDepth 20000 in
theorem ho_43 : hdOk H_Plans_add := ⟨mG 740 rfl rfl, hi_5, rfl, hn_5, ⟨hk_5.1, hk_5.2, by decide +kernel⟩, Or.inr ⟨by decide, mG 738 (by decide +kernel) rfl, mG 739 (by decide +kernel) rfl⟩⟩
set_option maxRecDepth 20000 in
theorem ho_44 : hdOk H_Plans_lettersOf := ⟨mG 803 rfl rfl, hi_5, rfl, hn_5, ⟨hk_5.1, hk_5.2, by decide +kernel⟩, Or.inr ⟨by decide, mG 801 (by decide +kernel) rfl, mG 802 (by decide +kernel) rfl⟩⟩
set_option maxRecDepth 20000 in
theorem ho_45 : hdOk H_Plans_turnOf := ⟨mG 821 rfl rfl, hi_5, rfl, hn_5, ⟨hk_5.1, hk_5.2, by decide +kernel⟩, Or.inr ⟨by decide, mG 819 (by decide +kernel) rfl, mG 820 (by decide +kernel) rfl⟩⟩
set_option maxRecDepth 20000 in
theorem ho_46 : hdOk H_Plans_openLevel := ⟨mG 826 rfl rfl, hi_5, rfl, hn_5, ⟨hk_5.1, hk_5.2, by decide +kernel⟩, Or.inr ⟨by decide, mG 825 (by decide +kernel) rfl, mG 19 (by decide +kernel) rfl⟩⟩
set_option maxRecDepth 20000 in
theorem ho_47 : hdOk H_Row_gather := ⟨mG 847 rfl rfl, hi_6, rfl, hn_6, ⟨hk_6.1, hk_6.2, by decide +kernel⟩, Or.inr ⟨by decide, mG 845 (by decide +kernel) rfl, mG 846 (by decide +kernel) rfl⟩⟩
set_option maxRecDepth 20000 in
theorem ho_48 : hdOk H_Row_copy := ⟨mG 1008 rfl rfl, hi_6, rfl, hn_6, ⟨hk_6.1, hk_6.2, by decide +kernel⟩, Or.inr ⟨by decide, mG 1006 (by decide +kernel) rfl, mG 1007 (by decide +kernel) rfl⟩⟩
set_option maxRecDepth 20000 in
theorem ho_49 : hdOk H_Row_put := ⟨mG 851 rfl rfl, hi_6, rfl, hn_6, ⟨hk_6.1, hk_6.2, by decide +kernel⟩, Or.inr ⟨by decide, mG 849 (by decide +kernel) rfl, mG 850 (by decide +kernel) rfl⟩⟩
set_option maxRecDepth 20000 in
theorem ho_50 : hdOk H_Row_spread := ⟨mG 856 rfl rfl, hi_6, rfl, hn_6, ⟨hk_6.1, hk_6.2, by decide +kernel⟩, Or.inr ⟨by decide, mG 854 (by decide +kernel) rfl, mG 855 (by decide +kernel) rfl⟩⟩
set_option maxRecDepth 20000 in
theorem ho_51 : hdOk H_Row_momentOf := ⟨mG 865 rfl rfl, hi_6, rfl, hn_6, ⟨hk_6.1, hk_6.2, by decide +kernel⟩, Or.inr ⟨by decide, mG 863 (by decide +kernel) rfl, mG 864 (by decide +kernel) rfl⟩⟩
set_option maxRecDepth 20000 in
theorem ho_52 : hdOk H_Row_findSpans := ⟨mG 953 rfl rfl, hi_6, rfl, hn_6, ⟨hk_6.1, hk_6.2, by decide +kernel⟩, Or.inr ⟨by decide, mG 951 (by decide +kernel) rfl, mG 952 (by decide +kernel) rfl⟩⟩
set_option maxRecDepth 20000 in
theorem ho_53 : hdOk H_Row_addSpan := ⟨mG 960 rfl rfl, hi_6, rfl, hn_6, ⟨hk_6.1, hk_6.2, by decide +kernel⟩, Or.inr ⟨by decide, mG 959 (by decide +kernel) rfl, mG 28 (by decide +kernel) rfl⟩⟩
set_option maxRecDepth 20000 in
theorem ho_54 : hdOk H_Solo_trySimple := ⟨mG 938 rfl rfl, hi_7, rfl, hn_7, ⟨hk_7.1, hk_7.2, by decide +kernel⟩, Or.inr ⟨by decide, mG 936 (by decide +kernel) rfl, mG 937 (by decide +kernel) rfl⟩⟩
set_option maxRecDepth 20000 in
theorem ho_55 : hdOk H_Solo_tryWaiting := ⟨mG 1060 rfl rfl, hi_7, rfl, hn_7, ⟨hk_7.1, hk_7.2, by decide +kernel⟩, Or.inr ⟨by decide, mG 1058 (by decide +kernel) rfl, mG 1059 (by decide +kernel) rfl⟩⟩
set_option maxRecDepth 20000 in
theorem ho_56 : hdOk H_Solo_answer := ⟨mG 979 rfl rfl, hi_7, rfl, hn_7, ⟨hk_7.1, hk_7.2, by decide +kernel⟩, Or.inr ⟨by decide, mG 977 (by decide +kernel) rfl, mG 978 (by decide +kernel) rfl⟩⟩
set_option maxRecDepth 20000 in
theorem ho_57 : hdOk H_Solo_clear := ⟨mG 942 rfl rfl, hi_7, rfl, hn_7, ⟨hk_7.1, hk_7.2, by decide +kernel⟩, Or.inr ⟨by decide, mG 941 (by decide +kernel) rfl, mG 26 (by decide +kernel) rfl⟩⟩
set_option maxRecDepth 20000 in
theorem ho_58 : hdOk H_Solo_findSpans := ⟨mG 948 rfl rfl, hi_7, rfl, hn_7, ⟨hk_7.1, hk_7.2, by decide +kernel⟩, Or.inr ⟨by decide, mG 947 (by decide +kernel) rfl, mG 27 (by decide +kernel) rfl⟩⟩
set_option maxRecDepth 20000 in
theorem ho_59 : hdOk H_Solo_addOpen := ⟨mG 969 rfl rfl, hi_7, rfl, hn_7, ⟨hk_7.1, hk_7.2, by decide +kernel⟩, Or.inr ⟨by decide, mG 968 (by decide +kernel) rfl, mG 29 (by decide +kernel) rfl⟩⟩
set_option maxRecDepth 20000 in
theorem ho_60 : hdOk H_Survey_take := ⟨mG 785 rfl rfl, hi_8, rfl, hn_8, ⟨hk_8.1, hk_8.2, by decide +kernel⟩, Or.inr ⟨by decide, mG 783 (by decide +kernel) rfl, mG 784 (by decide +kernel) rfl⟩⟩
set_option maxRecDepth 20000 in
theorem ho_61 : hdOk H_Survey_openSets := ⟨mG 1139 rfl rfl, hi_8, rfl, hn_8, ⟨hk_8.1, hk_8.2, by decide +kernel⟩, Or.inr ⟨by decide, mG 1137 (by decide +kernel) rfl, mG 1138 (by decide +kernel) rfl⟩⟩
set_option maxRecDepth 20000 in
theorem ho_62 : hdOk H_Survey_clear := ⟨mG 789 rfl rfl, hi_8, rfl, hn_8, ⟨hk_8.1, hk_8.2, by decide +kernel⟩, Or.inr ⟨by decide, mG 788 (by decide +kernel) rfl, mG 16 (by decide +kernel) rfl⟩⟩
set_option maxRecDepth 20000 in
theorem ho_63 : hdOk H_Survey_seeTurns := ⟨mG 841 rfl rfl, hi_8, rfl, hn_8, ⟨hk_8.1, hk_8.2, by decide +kernel⟩, Or.inr ⟨by decide, mG 840 (by decide +kernel) rfl, mG 21 (by decide +kernel) rfl⟩⟩
set_option maxRecDepth 20000 in
theorem ho_64 : hdOk H_Survey_seeSpread := ⟨mG 861 rfl rfl, hi_8, rfl, hn_8, ⟨hk_8.1, hk_8.2, by decide +kernel⟩, Or.inr ⟨by decide, mG 860 (by decide +kernel) rfl, mG 22 (by decide +kernel) rfl⟩⟩
set_option maxRecDepth 20000 in
theorem ho_65 : hdOk H_Survey_seeMoment := ⟨mG 869 rfl rfl, hi_8, rfl, hn_8, ⟨hk_8.1, hk_8.2, by decide +kernel⟩, Or.inr ⟨by decide, mG 868 (by decide +kernel) rfl, mG 23 (by decide +kernel) rfl⟩⟩
set_option maxRecDepth 20000 in
theorem ho_66 : hdOk H_Survey_seeFirst := ⟨mG 873 rfl rfl, hi_8, rfl, hn_8, ⟨hk_8.1, hk_8.2, by decide +kernel⟩, Or.inr ⟨by decide, mG 872 (by decide +kernel) rfl, mG 24 (by decide +kernel) rfl⟩⟩
set_option maxRecDepth 20000 in
theorem ho_67 : hdOk H_Tape_filled := ⟨mG 597 rfl rfl, hi_9, rfl, hn_9, ⟨hk_9.1, hk_9.2, by decide +kernel⟩, Or.inl ⟨rfl, mG 596 (by decide +kernel) rfl⟩⟩
set_option maxRecDepth 20000 in
theorem ho_68 : hdOk H_Tape_add := ⟨mG 601 rfl rfl, hi_9, rfl, hn_9, ⟨hk_9.1, hk_9.2, by decide +kernel⟩, Or.inr ⟨by decide, mG 599 (by decide +kernel) rfl, mG 600 (by decide +kernel) rfl⟩⟩
set_option maxRecDepth 20000 in
theorem ho_69 : hdOk H_Tape_rewind := ⟨mG 617 rfl rfl, hi_9, rfl, hn_9, ⟨hk_9.1, hk_9.2, by decide +kernel⟩, Or.inr ⟨by decide, mG 615 (by decide +kernel) rfl, mG 616 (by decide +kernel) rfl⟩⟩
set_option maxRecDepth 20000 in
theorem ho_70 : hdOk H_Tape_fail := ⟨mG 643 rfl rfl, hi_9, rfl, hn_9, ⟨hk_9.1, hk_9.2, by decide +kernel⟩, Or.inr ⟨by decide, mG 641 (by decide +kernel) rfl, mG 642 (by decide +kernel) rfl⟩⟩
set_option maxRecDepth 20000 in
theorem ho_71 : hdOk H_Tape_isFine := ⟨mG 648 rfl rfl, hi_9, rfl, hn_9, ⟨hk_9.1, hk_9.2, by decide +kernel⟩, Or.inr ⟨by decide, mG 646 (by decide +kernel) rfl, mG 647 (by decide +kernel) rfl⟩⟩
set_option maxRecDepth 20000 in
theorem ho_72 : hdOk H_Tape_next := ⟨mG 632 rfl rfl, hi_9, rfl, hn_9, ⟨hk_9.1, hk_9.2, by decide +kernel⟩, Or.inr ⟨by decide, mG 630 (by decide +kernel) rfl, mG 631 (by decide +kernel) rfl⟩⟩
set_option maxRecDepth 20000 in
theorem ho_73 : hdOk H_Tape_number := ⟨mG 669 rfl rfl, hi_9, rfl, hn_9, ⟨hk_9.1, hk_9.2, by decide +kernel⟩, Or.inr ⟨by decide, mG 667 (by decide +kernel) rfl, mG 668 (by decide +kernel) rfl⟩⟩
set_option maxRecDepth 20000 in
theorem ho_74 : hdOk H_Tape_isDigitAt := ⟨mG 674 rfl rfl, hi_9, rfl, hn_9, ⟨hk_9.1, hk_9.2, by decide +kernel⟩, Or.inr ⟨by decide, mG 673 (by decide +kernel) rfl, mG 3 (by decide +kernel) rfl⟩⟩
set_option maxRecDepth 20000 in
theorem ho_75 : hdOk H_Walk_place := ⟨mG 904 rfl rfl, hi_10, rfl, hn_10, ⟨hk_10.1, hk_10.2, by decide +kernel⟩, Or.inr ⟨by decide, mG 902 (by decide +kernel) rfl, mG 903 (by decide +kernel) rfl⟩⟩
set_option maxRecDepth 20000 in
theorem ho_76 : hdOk H_Walk_start := ⟨mG 795 rfl rfl, hi_10, rfl, hn_10, ⟨hk_10.1, hk_10.2, by decide +kernel⟩, Or.inr ⟨by decide, mG 793 (by decide +kernel) rfl, mG 794 (by decide +kernel) rfl⟩⟩
set_option maxRecDepth 20000 in
theorem ho_77 : hdOk H_Walk_step := ⟨mG 877 rfl rfl, hi_10, rfl, hn_10, ⟨hk_10.1, hk_10.2, by decide +kernel⟩, Or.inr ⟨by decide, mG 875 (by decide +kernel) rfl, mG 876 (by decide +kernel) rfl⟩⟩
set_option maxRecDepth 20000 in
theorem ho_78 : hdOk H_Walk_isOpen := ⟨mG 916 rfl rfl, hi_10, rfl, hn_10, ⟨hk_10.1, hk_10.2, by decide +kernel⟩, Or.inr ⟨by decide, mG 914 (by decide +kernel) rfl, mG 915 (by decide +kernel) rfl⟩⟩
set_option maxRecDepth 20000 in
theorem ho_79 : hdOk H_Walk_isOpenBy := ⟨mG 1143 rfl rfl, hi_10, rfl, hn_10, ⟨hk_10.1, hk_10.2, by decide +kernel⟩, Or.inr ⟨by decide, mG 1141 (by decide +kernel) rfl, mG 1142 (by decide +kernel) rfl⟩⟩
set_option maxRecDepth 20000 in
theorem ho_80 : hdOk H_Walk_tally := ⟨mG 1045 rfl rfl, hi_10, rfl, hn_10, ⟨hk_10.1, hk_10.2, by decide +kernel⟩, Or.inr ⟨by decide, mG 1043 (by decide +kernel) rfl, mG 1044 (by decide +kernel) rfl⟩⟩
set_option maxRecDepth 20000 in
theorem ho_81 : hdOk H_Walk_hearing := ⟨mG 965 rfl rfl, hi_10, rfl, hn_10, ⟨hk_10.1, hk_10.2, by decide +kernel⟩, Or.inr ⟨by decide, mG 963 (by decide +kernel) rfl, mG 964 (by decide +kernel) rfl⟩⟩
set_option maxRecDepth 20000 in
theorem ho_82 : hdOk H_Walk_offBits := ⟨mG 1120 rfl rfl, hi_10, rfl, hn_10, ⟨hk_10.1, hk_10.2, by decide +kernel⟩, Or.inr ⟨by decide, mG 1118 (by decide +kernel) rfl, mG 1119 (by decide +kernel) rfl⟩⟩
set_option maxRecDepth 20000 in
theorem ho_83 : hdOk H_Walk_enter := ⟨mG 799 rfl rfl, hi_10, rfl, hn_10, ⟨hk_10.1, hk_10.2, by decide +kernel⟩, Or.inr ⟨by decide, mG 798 (by decide +kernel) rfl, mG 17 (by decide +kernel) rfl⟩⟩
set_option maxRecDepth 20000 in
theorem ho_84 : hdOk H_Walk_neededSigns := ⟨mG 837 rfl rfl, hi_10, rfl, hn_10, ⟨hk_10.1, hk_10.2, by decide +kernel⟩, Or.inr ⟨by decide, mG 836 (by decide +kernel) rfl, mG 20 (by decide +kernel) rfl⟩⟩
set_option maxRecDepth 20000 in
theorem ho_85 : hdOk H_Walk_settle := ⟨mG 812 rfl rfl, hi_10, rfl, hn_10, ⟨hk_10.1, hk_10.2, by decide +kernel⟩, Or.inr ⟨by decide, mG 811 (by decide +kernel) rfl, mG 18 (by decide +kernel) rfl⟩⟩
set_option maxRecDepth 20000 in
theorem ho_86 : hdOk H_X_feed := ⟨mG 594 rfl rfl, hi_11, rfl, hn_11, ⟨hk_11.1, hk_11.2, by decide +kernel⟩, Or.inr ⟨by decide, mG 592 (by decide +kernel) rfl, mG 593 (by decide +kernel) rfl⟩⟩
set_option maxRecDepth 20000 in
theorem ho_87 : hdOk H_X_end := ⟨mG 605 rfl rfl, hi_11, rfl, hn_11, ⟨hk_11.1, hk_11.2, by decide +kernel⟩, Or.inr ⟨by decide, mG 603 (by decide +kernel) rfl, mG 604 (by decide +kernel) rfl⟩⟩
set_option maxRecDepth 20000 in
theorem ho_88 : hdOk H_X_fault := ⟨mG 609 rfl rfl, hi_11, rfl, hn_11, ⟨hk_11.1, hk_11.2, by decide +kernel⟩, Or.inr ⟨by decide, mG 607 (by decide +kernel) rfl, mG 608 (by decide +kernel) rfl⟩⟩
set_option maxRecDepth 20000 in
theorem ho_89 : hdOk H_X_text := ⟨mG 713 rfl rfl, hi_11, rfl, hn_11, ⟨hk_11.1, hk_11.2, by decide +kernel⟩, Or.inr ⟨by decide, mG 711 (by decide +kernel) rfl, mG 712 (by decide +kernel) rfl⟩⟩
set_option maxRecDepth 20000 in
theorem ho_90 : hdOk H_X_guard := ⟨mG 745 rfl rfl, hi_11, rfl, hn_11, ⟨hk_11.1, hk_11.2, by decide +kernel⟩, Or.inr ⟨by decide, mG 743 (by decide +kernel) rfl, mG 744 (by decide +kernel) rfl⟩⟩
set_option maxRecDepth 20000 in
theorem ho_91 : hdOk H_X_hears := ⟨mG 753 rfl rfl, hi_11, rfl, hn_11, ⟨hk_11.1, hk_11.2, by decide +kernel⟩, Or.inr ⟨by decide, mG 751 (by decide +kernel) rfl, mG 752 (by decide +kernel) rfl⟩⟩
set_option maxRecDepth 20000 in
theorem ho_92 : hdOk H_X_plan := ⟨mG 762 rfl rfl, hi_11, rfl, hn_11, ⟨hk_11.1, hk_11.2, by decide +kernel⟩, Or.inr ⟨by decide, mG 760 (by decide +kernel) rfl, mG 761 (by decide +kernel) rfl⟩⟩
set_option maxRecDepth 20000 in
theorem ho_93 : hdOk H_X_ways := ⟨mG 770 rfl rfl, hi_11, rfl, hn_11, ⟨hk_11.1, hk_11.2, by decide +kernel⟩, Or.inr ⟨by decide, mG 768 (by decide +kernel) rfl, mG 769 (by decide +kernel) rfl⟩⟩
set_option maxRecDepth 20000 in
theorem ho_94 : hdOk H_X_odds := ⟨mG 885 rfl rfl, hi_11, rfl, hn_11, ⟨hk_11.1, hk_11.2, by decide +kernel⟩, Or.inr ⟨by decide, mG 883 (by decide +kernel) rfl, mG 884 (by decide +kernel) rfl⟩⟩
set_option maxRecDepth 20000 in
theorem ho_95 : hdOk H_X_turnsAt := ⟨mG 895 rfl rfl, hi_11, rfl, hn_11, ⟨hk_11.1, hk_11.2, by decide +kernel⟩, Or.inr ⟨by decide, mG 893 (by decide +kernel) rfl, mG 894 (by decide +kernel) rfl⟩⟩
set_option maxRecDepth 20000 in
theorem ho_96 : hdOk H_X_opens := ⟨mG 912 rfl rfl, hi_11, rfl, hn_11, ⟨hk_11.1, hk_11.2, by decide +kernel⟩, Or.inr ⟨by decide, mG 910 (by decide +kernel) rfl, mG 911 (by decide +kernel) rfl⟩⟩
set_option maxRecDepth 20000 in
theorem ho_97 : hdOk H_X_when := ⟨mG 922 rfl rfl, hi_11, rfl, hn_11, ⟨hk_11.1, hk_11.2, by decide +kernel⟩, Or.inr ⟨by decide, mG 920 (by decide +kernel) rfl, mG 921 (by decide +kernel) rfl⟩⟩
set_option maxRecDepth 20000 in
theorem ho_98 : hdOk H_X_near := ⟨mG 926 rfl rfl, hi_11, rfl, hn_11, ⟨hk_11.1, hk_11.2, by decide +kernel⟩, Or.inr ⟨by decide, mG 924 (by decide +kernel) rfl, mG 925 (by decide +kernel) rfl⟩⟩
set_option maxRecDepth 20000 in
theorem ho_99 : hdOk H_X_enough := ⟨mG 930 rfl rfl, hi_11, rfl, hn_11, ⟨hk_11.1, hk_11.2, by decide +kernel⟩, Or.inr ⟨by decide, mG 928 (by decide +kernel) rfl, mG 929 (by decide +kernel) rfl⟩⟩
set_option maxRecDepth 20000 in
theorem ho_100 : hdOk H_X_best := ⟨mG 934 rfl rfl, hi_11, rfl, hn_11, ⟨hk_11.1, hk_11.2, by decide +kernel⟩, Or.inr ⟨by decide, mG 932 (by decide +kernel) rfl, mG 933 (by decide +kernel) rfl⟩⟩
set_option maxRecDepth 20000 in
theorem ho_101 : hdOk H_X_pair := ⟨mG 983 rfl rfl, hi_11, rfl, hn_11, ⟨hk_11.1, hk_11.2, by decide +kernel⟩, Or.inr ⟨by decide, mG 981 (by decide +kernel) rfl, mG 982 (by decide +kernel) rfl⟩⟩
set_option maxRecDepth 20000 in
theorem ho_102 : hdOk H_X_sure := ⟨mG 1033 rfl rfl, hi_11, rfl, hn_11, ⟨hk_11.1, hk_11.2, by decide +kernel⟩, Or.inr ⟨by decide, mG 1031 (by decide +kernel) rfl, mG 1032 (by decide +kernel) rfl⟩⟩
set_option maxRecDepth 20000 in
theorem ho_103 : hdOk H_X_idle := ⟨mG 1041 rfl rfl, hi_11, rfl, hn_11, ⟨hk_11.1, hk_11.2, by decide +kernel⟩, Or.inr ⟨by decide, mG 1039 (by decide +kernel) rfl, mG 1040 (by decide +kernel) rfl⟩⟩
set_option maxRecDepth 20000 in
theorem ho_104 : hdOk H_X_shift := ⟨mG 1052 rfl rfl, hi_11, rfl, hn_11, ⟨hk_11.1, hk_11.2, by decide +kernel⟩, Or.inr ⟨by decide, mG 1050 (by decide +kernel) rfl, mG 1051 (by decide +kernel) rfl⟩⟩
set_option maxRecDepth 20000 in
theorem ho_105 : hdOk H_X_waits := ⟨mG 1056 rfl rfl, hi_11, rfl, hn_11, ⟨hk_11.1, hk_11.2, by decide +kernel⟩, Or.inr ⟨by decide, mG 1054 (by decide +kernel) rfl, mG 1055 (by decide +kernel) rfl⟩⟩
set_option maxRecDepth 20000 in
theorem ho_106 : hdOk H_X_gain := ⟨mG 1064 rfl rfl, hi_11, rfl, hn_11, ⟨hk_11.1, hk_11.2, by decide +kernel⟩, Or.inr ⟨by decide, mG 1062 (by decide +kernel) rfl, mG 1063 (by decide +kernel) rfl⟩⟩
set_option maxRecDepth 20000 in
theorem ho_107 : hdOk H_X_rest := ⟨mG 1072 rfl rfl, hi_11, rfl, hn_11, ⟨hk_11.1, hk_11.2, by decide +kernel⟩, Or.inr ⟨by decide, mG 1070 (by decide +kernel) rfl, mG 1071 (by decide +kernel) rfl⟩⟩
set_option maxRecDepth 20000 in
theorem ho_108 : hdOk H_X_thief := ⟨mG 1094 rfl rfl, hi_11, rfl, hn_11, ⟨hk_11.1, hk_11.2, by decide +kernel⟩, Or.inr ⟨by decide, mG 1092 (by decide +kernel) rfl, mG 1093 (by decide +kernel) rfl⟩⟩
set_option maxRecDepth 20000 in
theorem ho_109 : hdOk H_X_scratch := ⟨mG 1098 rfl rfl, hi_11, rfl, hn_11, ⟨hk_11.1, hk_11.2, by decide +kernel⟩, Or.inr ⟨by decide, mG 1096 (by decide +kernel) rfl, mG 1097 (by decide +kernel) rfl⟩⟩
set_option maxRecDepth 20000 in
theorem ho_110 : hdOk H_X_fits := ⟨mG 1106 rfl rfl, hi_11, rfl, hn_11, ⟨hk_11.1, hk_11.2, by decide +kernel⟩, Or.inr ⟨by decide, mG 1104 (by decide +kernel) rfl, mG 1105 (by decide +kernel) rfl⟩⟩
set_option maxRecDepth 20000 in
theorem ho_111 : hdOk H_X_lies := ⟨mG 1125 rfl rfl, hi_11, rfl, hn_11, ⟨hk_11.1, hk_11.2, by decide +kernel⟩, Or.inr ⟨by decide, mG 1123 (by decide +kernel) rfl, mG 1124 (by decide +kernel) rfl⟩⟩
set_option maxRecDepth 20000 in
theorem ho_112 : hdOk H_X_sets := ⟨mG 1135 rfl rfl, hi_11, rfl, hn_11, ⟨hk_11.1, hk_11.2, by decide +kernel⟩, Or.inr ⟨by decide, mG 1133 (by decide +kernel) rfl, mG 1134 (by decide +kernel) rfl⟩⟩
set_option maxRecDepth 20000 in
theorem ho_113 : hdOk H_X_moment := ⟨mG 1148 rfl rfl, hi_11, rfl, hn_11, ⟨hk_11.1, hk_11.2, by decide +kernel⟩, Or.inr ⟨by decide, mG 1146 (by decide +kernel) rfl, mG 1147 (by decide +kernel) rfl⟩⟩
set_option maxRecDepth 20000 in
theorem ho_114 : hdOk H_X_better := ⟨mG 1152 rfl rfl, hi_11, rfl, hn_11, ⟨hk_11.1, hk_11.2, by decide +kernel⟩, Or.inr ⟨by decide, mG 1150 (by decide +kernel) rfl, mG 1151 (by decide +kernel) rfl⟩⟩
set_option maxRecDepth 20000 in
theorem ho_115 : hdOk H_X_exact := ⟨mG 1160 rfl rfl, hi_11, rfl, hn_11, ⟨hk_11.1, hk_11.2, by decide +kernel⟩, Or.inr ⟨by decide, mG 1158 (by decide +kernel) rfl, mG 1159 (by decide +kernel) rfl⟩⟩
set_option maxRecDepth 20000 in
theorem ho_116 : hdOk H_X_lossy := ⟨mG 1164 rfl rfl, hi_11, rfl, hn_11, ⟨hk_11.1, hk_11.2, by decide +kernel⟩, Or.inr ⟨by decide, mG 1162 (by decide +kernel) rfl, mG 1163 (by decide +kernel) rfl⟩⟩
set_option maxRecDepth 20000 in
theorem ho_117 : hdOk H_X_route := ⟨mG 1175 rfl rfl, hi_11, rfl, hn_11, ⟨hk_11.1, hk_11.2, by decide +kernel⟩, Or.inr ⟨by decide, mG 1173 (by decide +kernel) rfl, mG 1174 (by decide +kernel) rfl⟩⟩
set_option maxRecDepth 20000 in
theorem ho_118 : hdOk H_X_deaf := ⟨mG 1183 rfl rfl, hi_11, rfl, hn_11, ⟨hk_11.1, hk_11.2, by decide +kernel⟩, Or.inr ⟨by decide, mG 1181 (by decide +kernel) rfl, mG 1182 (by decide +kernel) rfl⟩⟩
set_option maxRecDepth 20000 in
theorem ho_119 : hdOk H_X_helper := ⟨mG 1191 rfl rfl, hi_11, rfl, hn_11, ⟨hk_11.1, hk_11.2, by decide +kernel⟩, Or.inr ⟨by decide, mG 1189 (by decide +kernel) rfl, mG 1190 (by decide +kernel) rfl⟩⟩
set_option maxRecDepth 20000 in
theorem ho_120 : hdOk H_X_seed := ⟨mG 1199 rfl rfl, hi_11, rfl, hn_11, ⟨hk_11.1, hk_11.2, by decide +kernel⟩, Or.inr ⟨by decide, mG 1197 (by decide +kernel) rfl, mG 1198 (by decide +kernel) rfl⟩⟩
set_option maxRecDepth 20000 in
theorem ho_121 : hdOk H_X_night := ⟨mG 1203 rfl rfl, hi_11, rfl, hn_11, ⟨hk_11.1, hk_11.2, by decide +kernel⟩, Or.inr ⟨by decide, mG 1201 (by decide +kernel) rfl, mG 1202 (by decide +kernel) rfl⟩⟩
set_option maxRecDepth 20000 in
theorem ho_122 : hdOk H_X_turned := ⟨mG 1218 rfl rfl, hi_11, rfl, hn_11, ⟨hk_11.1, hk_11.2, by decide +kernel⟩, Or.inr ⟨by decide, mG 1216 (by decide +kernel) rfl, mG 1217 (by decide +kernel) rfl⟩⟩
set_option maxRecDepth 20000 in
theorem ho_123 : hdOk H_X_opened := ⟨mG 1226 rfl rfl, hi_11, rfl, hn_11, ⟨hk_11.1, hk_11.2, by decide +kernel⟩, Or.inr ⟨by decide, mG 1224 (by decide +kernel) rfl, mG 1225 (by decide +kernel) rfl⟩⟩
set_option maxRecDepth 20000 in
theorem ho_124 : hdOk H_X_undo := ⟨mG 1230 rfl rfl, hi_11, rfl, hn_11, ⟨hk_11.1, hk_11.2, by decide +kernel⟩, Or.inr ⟨by decide, mG 1228 (by decide +kernel) rfl, mG 1229 (by decide +kernel) rfl⟩⟩
set_option maxRecDepth 20000 in
theorem ho_125 : hdOk H_X_image := ⟨mG 1238 rfl rfl, hi_11, rfl, hn_11, ⟨hk_11.1, hk_11.2, by decide +kernel⟩, Or.inr ⟨by decide, mG 1236 (by decide +kernel) rfl, mG 1237 (by decide +kernel) rfl⟩⟩
set_option maxRecDepth 20000 in
theorem ho_126 : hdOk H_X_back := ⟨mG 1246 rfl rfl, hi_11, rfl, hn_11, ⟨hk_11.1, hk_11.2, by decide +kernel⟩, Or.inr ⟨by decide, mG 1244 (by decide +kernel) rfl, mG 1245 (by decide +kernel) rfl⟩⟩
set_option maxRecDepth 20000 in
theorem ho_127 : hdOk H_X_count := ⟨mG 1250 rfl rfl, hi_11, rfl, hn_11, ⟨hk_11.1, hk_11.2, by decide +kernel⟩, Or.inr ⟨by decide, mG 1248 (by decide +kernel) rfl, mG 1249 (by decide +kernel) rfl⟩⟩
set_option maxRecDepth 20000 in
theorem ho_128 : hdOk H_X_isTold := ⟨mG 774 rfl rfl, hi_11, rfl, hn_11, ⟨hk_11.1, hk_11.2, by decide +kernel⟩, Or.inr ⟨by decide, mG 773 (by decide +kernel) rfl, mG 14 (by decide +kernel) rfl⟩⟩
set_option maxRecDepth 20000 in
theorem ho_129 : hdOk H_X_isGuard := ⟨mG 749 rfl rfl, hi_11, rfl, hn_11, ⟨hk_11.1, hk_11.2, by decide +kernel⟩, Or.inr ⟨by decide, mG 748 (by decide +kernel) rfl, mG 11 (by decide +kernel) rfl⟩⟩
set_option maxRecDepth 20000 in
theorem ho_130 : hdOk H_X_isSign := ⟨mG 757 rfl rfl, hi_11, rfl, hn_11, ⟨hk_11.1, hk_11.2, by decide +kernel⟩, Or.inr ⟨by decide, mG 756 (by decide +kernel) rfl, mG 12 (by decide +kernel) rfl⟩⟩
set_option maxRecDepth 20000 in
theorem ho_131 : hdOk H_X_isPlan := ⟨mG 766 rfl rfl, hi_11, rfl, hn_11, ⟨hk_11.1, hk_11.2, by decide +kernel⟩, Or.inr ⟨by decide, mG 765 (by decide +kernel) rfl, mG 13 (by decide +kernel) rfl⟩⟩
set_option maxRecDepth 20000 in
theorem ho_132 : hdOk H_X_isNight := ⟨mG 1222 rfl rfl, hi_11, rfl, hn_11, ⟨hk_11.1, hk_11.2, by decide +kernel⟩, Or.inr ⟨by decide, mG 1221 (by decide +kernel) rfl, mG 41 (by decide +kernel) rfl⟩⟩
set_option maxRecDepth 20000 in
theorem ho_133 : hdOk H_X_isPair := ⟨mG 987 rfl rfl, hi_11, rfl, hn_11, ⟨hk_11.1, hk_11.2, by decide +kernel⟩, Or.inr ⟨by decide, mG 986 (by decide +kernel) rfl, mG 30 (by decide +kernel) rfl⟩⟩
set_option maxRecDepth 20000 in
theorem ho_134 : hdOk H_X_isWithin := ⟨mG 777 rfl rfl, hi_11, rfl, hn_11, ⟨hk_11.1, hk_11.2, by decide +kernel⟩, Or.inl ⟨rfl, mG 776 (by decide +kernel) rfl⟩⟩
set_option maxRecDepth 20000 in
theorem ho_135 : hdOk H_X_orHidden := ⟨mG 907 rfl rfl, hi_11, rfl, hn_11, ⟨hk_11.1, hk_11.2, by decide +kernel⟩, Or.inl ⟨rfl, mG 906 (by decide +kernel) rfl⟩⟩
set_option maxRecDepth 20000 in
theorem ho_136 : hdOk H_X_takeLand := ⟨mG 717 rfl rfl, hi_11, rfl, hn_11, ⟨hk_11.1, hk_11.2, by decide +kernel⟩, Or.inr ⟨by decide, mG 716 (by decide +kernel) rfl, mG 8 (by decide +kernel) rfl⟩⟩
set_option maxRecDepth 20000 in
theorem ho_137 : hdOk H_X_takePlan := ⟨mG 736 rfl rfl, hi_11, rfl, hn_11, ⟨hk_11.1, hk_11.2, by decide +kernel⟩, Or.inr ⟨by decide, mG 735 (by decide +kernel) rfl, mG 10 (by decide +kernel) rfl⟩⟩
set_option maxRecDepth 20000 in
theorem ho_138 : hdOk H_X_forgetAnswers := ⟨mG 732 rfl rfl, hi_11, rfl, hn_11, ⟨hk_11.1, hk_11.2, by decide +kernel⟩, Or.inr ⟨by decide, mG 731 (by decide +kernel) rfl, mG 9 (by decide +kernel) rfl⟩⟩
set_option maxRecDepth 20000 in
theorem ho_139 : hdOk H_X_surveyed := ⟨mG 781 rfl rfl, hi_11, rfl, hn_11, ⟨hk_11.1, hk_11.2, by decide +kernel⟩, Or.inr ⟨by decide, mG 780 (by decide +kernel) rfl, mG 15 (by decide +kernel) rfl⟩⟩
set_option maxRecDepth 20000 in
theorem ho_140 : hdOk H_X_dueled := ⟨mG 991 rfl rfl, hi_11, rfl, hn_11, ⟨hk_11.1, hk_11.2, by decide +kernel⟩, Or.inr ⟨by decide, mG 990 (by decide +kernel) rfl, mG 31 (by decide +kernel) rfl⟩⟩
set_option maxRecDepth 20000 in
theorem ho_141 : hdOk H_X_readOffs := ⟨mG 899 rfl rfl, hi_11, rfl, hn_11, ⟨hk_11.1, hk_11.2, by decide +kernel⟩, Or.inr ⟨by decide, mG 898 (by decide +kernel) rfl, mG 25 (by decide +kernel) rfl⟩⟩
set_option maxRecDepth 20000 in
theorem ho_142 : hdOk H_X_tallyWithPlan := ⟨mG 1156 rfl rfl, hi_11, rfl, hn_11, ⟨hk_11.1, hk_11.2, by decide +kernel⟩, Or.inr ⟨by decide, mG 1155 (by decide +kernel) rfl, mG 38 (by decide +kernel) rfl⟩⟩
set_option maxRecDepth 20000 in
theorem ho_143 : hdOk H_X_tallyWithHearing := ⟨mG 1195 rfl rfl, hi_11, rfl, hn_11, ⟨hk_11.1, hk_11.2, by decide +kernel⟩, Or.inr ⟨by decide, mG 1194 (by decide +kernel) rfl, mG 40 (by decide +kernel) rfl⟩⟩
set_option maxRecDepth 20000 in
theorem ho_144 : hdOk H_X_partsOfSet := ⟨mG 1169 rfl rfl, hi_11, rfl, hn_11, ⟨hk_11.1, hk_11.2, by decide +kernel⟩, Or.inr ⟨by decide, mG 1168 (by decide +kernel) rfl, mG 39 (by decide +kernel) rfl⟩⟩
set_option maxRecDepth 20000 in
theorem ho_145 : hdOk H_X_partOfFraction := ⟨mG 888 rfl rfl, hi_11, rfl, hn_11, ⟨hk_11.1, hk_11.2, by decide +kernel⟩, Or.inl ⟨rfl, mG 887 (by decide +kernel) rfl⟩⟩
set_option maxRecDepth 20000 in
theorem ho_146 : hdOk H_X_commonDivisor := ⟨mG 891 rfl rfl, hi_11, rfl, hn_11, ⟨hk_11.1, hk_11.2, by decide +kernel⟩, Or.inl ⟨rfl, mG 890 (by decide +kernel) rfl⟩⟩
set_option maxRecDepth 20000 in
theorem ho_147 : hdOk H_M_thrown := ⟨mG 1332 rfl rfl, hi_12, rfl, hn_12, ⟨hk_12.1, hk_12.2, by decide +kernel⟩, Or.inr ⟨by decide, mG 1330 (by decide +kernel) rfl, mG 1331 (by decide +kernel) rfl⟩⟩
set_option maxRecDepth 20000 in
theorem ho_148 : hdOk H_M_feed := ⟨mG 1543 rfl rfl, hi_12, rfl, hn_12, ⟨hk_12.1, hk_12.2, by decide +kernel⟩, Or.inr ⟨by decide, mG 1541 (by decide +kernel) rfl, mG 1542 (by decide +kernel) rfl⟩⟩
set_option maxRecDepth 20000 in
theorem ho_149 : hdOk H_M_lives := ⟨mG 1546 rfl rfl, hi_12, rfl, hn_12, ⟨hk_12.1, hk_12.2, by decide +kernel⟩, Or.inl ⟨rfl, mG 1545 (by decide +kernel) rfl⟩⟩
set_option maxRecDepth 20000 in
theorem ho_150 : hdOk H_M_comes := ⟨mG 1550 rfl rfl, hi_12, rfl, hn_12, ⟨hk_12.1, hk_12.2, by decide +kernel⟩, Or.inr ⟨by decide, mG 1549 (by decide +kernel) rfl, mG 44 (by decide +kernel) rfl⟩⟩
set_option maxRecDepth 20000 in
theorem ho_151 : hdOk H_M_end := ⟨mG 1554 rfl rfl, hi_12, rfl, hn_12, ⟨hk_12.1, hk_12.2, by decide +kernel⟩, Or.inr ⟨by decide, mG 1552 (by decide +kernel) rfl, mG 1553 (by decide +kernel) rfl⟩⟩
set_option maxRecDepth 20000 in
theorem ho_152 : hdOk H_M_sees := ⟨mG 1570 rfl rfl, hi_12, rfl, hn_12, ⟨hk_12.1, hk_12.2, by decide +kernel⟩, Or.inr ⟨by decide, mG 1569 (by decide +kernel) rfl, mG 47 (by decide +kernel) rfl⟩⟩
set_option maxRecDepth 20000 in
theorem ho_153 : hdOk H_M_isDigit := ⟨mG 1584 rfl rfl, hi_12, rfl, hn_12, ⟨hk_12.1, hk_12.2, by decide +kernel⟩, Or.inl ⟨rfl, mG 1583 (by decide +kernel) rfl⟩⟩
set_option maxRecDepth 20000 in
theorem ho_154 : hdOk H_M_reads := ⟨mG 1581 rfl rfl, hi_12, rfl, hn_12, ⟨hk_12.1, hk_12.2, by decide +kernel⟩, Or.inr ⟨by decide, mG 1580 (by decide +kernel) rfl, mG 49 (by decide +kernel) rfl⟩⟩
set_option maxRecDepth 20000 in
theorem ho_155 : hdOk H_M_wrongLand := ⟨mG 1562 rfl rfl, hi_12, rfl, hn_12, ⟨hk_12.1, hk_12.2, by decide +kernel⟩, Or.inr ⟨by decide, mG 1561 (by decide +kernel) rfl, mG 45 (by decide +kernel) rfl⟩⟩
set_option maxRecDepth 20000 in
theorem ho_156 : hdOk H_M_isWhole := ⟨mG 1588 rfl rfl, hi_12, rfl, hn_12, ⟨hk_12.1, hk_12.2, by decide +kernel⟩, Or.inr ⟨by decide, mG 1587 (by decide +kernel) rfl, mG 50 (by decide +kernel) rfl⟩⟩
set_option maxRecDepth 20000 in
theorem ho_157 : hdOk H_M_readsClause := ⟨mG 1566 rfl rfl, hi_12, rfl, hn_12, ⟨hk_12.1, hk_12.2, by decide +kernel⟩, Or.inr ⟨by decide, mG 1565 (by decide +kernel) rfl, mG 46 (by decide +kernel) rfl⟩⟩
set_option maxRecDepth 20000 in
theorem ho_158 : hdOk H_M_isItem := ⟨mG 1573 rfl rfl, hi_12, rfl, hn_12, ⟨hk_12.1, hk_12.2, by decide +kernel⟩, Or.inl ⟨rfl, mG 1572 (by decide +kernel) rfl⟩⟩
set_option maxRecDepth 20000 in
theorem ho_159 : hdOk H_M_readsItem := ⟨mG 1577 rfl rfl, hi_12, rfl, hn_12, ⟨hk_12.1, hk_12.2, by decide +kernel⟩, Or.inr ⟨by decide, mG 1576 (by decide +kernel) rfl, mG 48 (by decide +kernel) rfl⟩⟩
set_option maxRecDepth 20000 in
theorem ho_160 : hdOk H_M_comesOut := ⟨mG 1596 rfl rfl, hi_12, rfl, hn_12, ⟨hk_12.1, hk_12.2, by decide +kernel⟩, Or.inr ⟨by decide, mG 1595 (by decide +kernel) rfl, mG 52 (by decide +kernel) rfl⟩⟩
set_option maxRecDepth 20000 in
theorem ho_161 : hdOk H_M_wrongPlan := ⟨mG 1592 rfl rfl, hi_12, rfl, hn_12, ⟨hk_12.1, hk_12.2, by decide +kernel⟩, Or.inr ⟨by decide, mG 1591 (by decide +kernel) rfl, mG 51 (by decide +kernel) rfl⟩⟩
set_option maxRecDepth 20000 in
theorem ho_162 : hdOk H_M_fault := ⟨mG 1558 rfl rfl, hi_12, rfl, hn_12, ⟨hk_12.1, hk_12.2, by decide +kernel⟩, Or.inr ⟨by decide, mG 1556 (by decide +kernel) rfl, mG 1557 (by decide +kernel) rfl⟩⟩
set_option maxRecDepth 20000 in
theorem ho_163 : hdOk H_M_wipes := ⟨mG 1342 rfl rfl, hi_12, rfl, hn_12, ⟨hk_12.1, hk_12.2, by decide +kernel⟩, Or.inr ⟨by decide, mG 1341 (by decide +kernel) rfl, mG 43 (by decide +kernel) rfl⟩⟩
set_option maxRecDepth 20000 in
theorem ho_164 : hdOk H_M_text := ⟨mG 1600 rfl rfl, hi_12, rfl, hn_12, ⟨hk_12.1, hk_12.2, by decide +kernel⟩, Or.inr ⟨by decide, mG 1598 (by decide +kernel) rfl, mG 1599 (by decide +kernel) rfl⟩⟩
set_option maxRecDepth 20000 in
theorem ho_165 : hdOk H_M_laysLand := ⟨mG 1604 rfl rfl, hi_12, rfl, hn_12, ⟨hk_12.1, hk_12.2, by decide +kernel⟩, Or.inr ⟨by decide, mG 1603 (by decide +kernel) rfl, mG 53 (by decide +kernel) rfl⟩⟩
set_option maxRecDepth 20000 in
theorem ho_166 : hdOk H_M_isGuard := ⟨mG 1623 rfl rfl, hi_12, rfl, hn_12, ⟨hk_12.1, hk_12.2, by decide +kernel⟩, Or.inr ⟨by decide, mG 1622 (by decide +kernel) rfl, mG 55 (by decide +kernel) rfl⟩⟩
set_option maxRecDepth 20000 in
theorem ho_167 : hdOk H_M_isSign := ⟨mG 1612 rfl rfl, hi_12, rfl, hn_12, ⟨hk_12.1, hk_12.2, by decide +kernel⟩, Or.inr ⟨by decide, mG 1611 (by decide +kernel) rfl, mG 54 (by decide +kernel) rfl⟩⟩
set_option maxRecDepth 20000 in
theorem ho_168 : hdOk H_M_isPart := ⟨mG 1615 rfl rfl, hi_12, rfl, hn_12, ⟨hk_12.1, hk_12.2, by decide +kernel⟩, Or.inl ⟨rfl, mG 1614 (by decide +kernel) rfl⟩⟩
set_option maxRecDepth 20000 in
theorem ho_169 : hdOk H_M_sign := ⟨mG 1608 rfl rfl, hi_12, rfl, hn_12, ⟨hk_12.1, hk_12.2, by decide +kernel⟩, Or.inr ⟨by decide, mG 1606 (by decide +kernel) rfl, mG 1607 (by decide +kernel) rfl⟩⟩
set_option maxRecDepth 20000 in
theorem ho_170 : hdOk H_M_guard := ⟨mG 1619 rfl rfl, hi_12, rfl, hn_12, ⟨hk_12.1, hk_12.2, by decide +kernel⟩, Or.inr ⟨by decide, mG 1617 (by decide +kernel) rfl, mG 1618 (by decide +kernel) rfl⟩⟩
set_option maxRecDepth 20000 in
theorem ho_171 : hdOk H_M_hears := ⟨mG 1627 rfl rfl, hi_12, rfl, hn_12, ⟨hk_12.1, hk_12.2, by decide +kernel⟩, Or.inr ⟨by decide, mG 1625 (by decide +kernel) rfl, mG 1626 (by decide +kernel) rfl⟩⟩
set_option maxRecDepth 20000 in
theorem ho_172 : hdOk H_M_plan := ⟨mG 1631 rfl rfl, hi_12, rfl, hn_12, ⟨hk_12.1, hk_12.2, by decide +kernel⟩, Or.inr ⟨by decide, mG 1629 (by decide +kernel) rfl, mG 1630 (by decide +kernel) rfl⟩⟩
set_option maxRecDepth 20000 in
theorem ho_173 : hdOk H_M_asTold := ⟨mG 1639 rfl rfl, hi_12, rfl, hn_12, ⟨hk_12.1, hk_12.2, by decide +kernel⟩, Or.inr ⟨by decide, mG 1638 (by decide +kernel) rfl, mG 56 (by decide +kernel) rfl⟩⟩
set_option maxRecDepth 20000 in
theorem ho_174 : hdOk H_M_allWays := ⟨mG 1643 rfl rfl, hi_12, rfl, hn_12, ⟨hk_12.1, hk_12.2, by decide +kernel⟩, Or.inr ⟨by decide, mG 1642 (by decide +kernel) rfl, mG 57 (by decide +kernel) rfl⟩⟩
set_option maxRecDepth 20000 in
theorem ho_175 : hdOk H_M_firstWay := ⟨mG 1651 rfl rfl, hi_12, rfl, hn_12, ⟨hk_12.1, hk_12.2, by decide +kernel⟩, Or.inr ⟨by decide, mG 1650 (by decide +kernel) rfl, mG 59 (by decide +kernel) rfl⟩⟩
set_option maxRecDepth 20000 in
theorem ho_176 : hdOk H_M_nextWay := ⟨mG 1680 rfl rfl, hi_12, rfl, hn_12, ⟨hk_12.1, hk_12.2, by decide +kernel⟩, Or.inr ⟨by decide, mG 1679 (by decide +kernel) rfl, mG 66 (by decide +kernel) rfl⟩⟩
set_option maxRecDepth 20000 in
theorem ho_177 : hdOk H_M_heardAt := ⟨mG 1659 rfl rfl, hi_12, rfl, hn_12, ⟨hk_12.1, hk_12.2, by decide +kernel⟩, Or.inr ⟨by decide, mG 1658 (by decide +kernel) rfl, mG 61 (by decide +kernel) rfl⟩⟩
set_option maxRecDepth 20000 in
theorem ho_178 : hdOk H_M_goes := ⟨mG 1655 rfl rfl, hi_12, rfl, hn_12, ⟨hk_12.1, hk_12.2, by decide +kernel⟩, Or.inr ⟨by decide, mG 1654 (by decide +kernel) rfl, mG 60 (by decide +kernel) rfl⟩⟩
set_option maxRecDepth 20000 in
theorem ho_179 : hdOk H_M_byPlan := ⟨mG 1664 rfl rfl, hi_12, rfl, hn_12, ⟨hk_12.1, hk_12.2, by decide +kernel⟩, Or.inr ⟨by decide, mG 1663 (by decide +kernel) rfl, mG 62 (by decide +kernel) rfl⟩⟩
set_option maxRecDepth 20000 in
theorem ho_180 : hdOk H_M_apart := ⟨mG 1672 rfl rfl, hi_12, rfl, hn_12, ⟨hk_12.1, hk_12.2, by decide +kernel⟩, Or.inr ⟨by decide, mG 1671 (by decide +kernel) rfl, mG 64 (by decide +kernel) rfl⟩⟩
set_option maxRecDepth 20000 in
theorem ho_181 : hdOk H_M_sorts := ⟨mG 1676 rfl rfl, hi_12, rfl, hn_12, ⟨hk_12.1, hk_12.2, by decide +kernel⟩, Or.inr ⟨by decide, mG 1675 (by decide +kernel) rfl, mG 65 (by decide +kernel) rfl⟩⟩
set_option maxRecDepth 20000 in
theorem ho_182 : hdOk H_M_doesOpen := ⟨mG 1668 rfl rfl, hi_12, rfl, hn_12, ⟨hk_12.1, hk_12.2, by decide +kernel⟩, Or.inr ⟨by decide, mG 1667 (by decide +kernel) rfl, mG 63 (by decide +kernel) rfl⟩⟩
set_option maxRecDepth 20000 in
theorem ho_183 : hdOk H_M_openings := ⟨mG 1647 rfl rfl, hi_12, rfl, hn_12, ⟨hk_12.1, hk_12.2, by decide +kernel⟩, Or.inr ⟨by decide, mG 1646 (by decide +kernel) rfl, mG 58 (by decide +kernel) rfl⟩⟩
set_option maxRecDepth 20000 in
theorem ho_184 : hdOk H_M_divisor := ⟨mG 1687 rfl rfl, hi_12, rfl, hn_12, ⟨hk_12.1, hk_12.2, by decide +kernel⟩, Or.inl ⟨rfl, mG 1686 (by decide +kernel) rfl⟩⟩
set_option maxRecDepth 20000 in
theorem ho_185 : hdOk H_M_ways := ⟨mG 1635 rfl rfl, hi_12, rfl, hn_12, ⟨hk_12.1, hk_12.2, by decide +kernel⟩, Or.inr ⟨by decide, mG 1633 (by decide +kernel) rfl, mG 1634 (by decide +kernel) rfl⟩⟩
set_option maxRecDepth 20000 in
theorem ho_186 : hdOk H_M_odds := ⟨mG 1684 rfl rfl, hi_12, rfl, hn_12, ⟨hk_12.1, hk_12.2, by decide +kernel⟩, Or.inr ⟨by decide, mG 1682 (by decide +kernel) rfl, mG 1683 (by decide +kernel) rfl⟩⟩
set_option maxRecDepth 20000 in
theorem ho_187 : hdOk H_M_laysWay := ⟨mG 1695 rfl rfl, hi_12, rfl, hn_12, ⟨hk_12.1, hk_12.2, by decide +kernel⟩, Or.inr ⟨by decide, mG 1694 (by decide +kernel) rfl, mG 67 (by decide +kernel) rfl⟩⟩
set_option maxRecDepth 20000 in
theorem ho_188 : hdOk H_M_turnsAt := ⟨mG 1691 rfl rfl, hi_12, rfl, hn_12, ⟨hk_12.1, hk_12.2, by decide +kernel⟩, Or.inr ⟨by decide, mG 1689 (by decide +kernel) rfl, mG 1690 (by decide +kernel) rfl⟩⟩
set_option maxRecDepth 20000 in
theorem ho_189 : hdOk H_M_opens := ⟨mG 1700 rfl rfl, hi_12, rfl, hn_12, ⟨hk_12.1, hk_12.2, by decide +kernel⟩, Or.inr ⟨by decide, mG 1698 (by decide +kernel) rfl, mG 1699 (by decide +kernel) rfl⟩⟩
set_option maxRecDepth 20000 in
theorem ho_190 : hdOk H_M_when := ⟨mG 1704 rfl rfl, hi_12, rfl, hn_12, ⟨hk_12.1, hk_12.2, by decide +kernel⟩, Or.inr ⟨by decide, mG 1702 (by decide +kernel) rfl, mG 1703 (by decide +kernel) rfl⟩⟩
set_option maxRecDepth 20000 in
theorem ho_191 : hdOk H_M_near := ⟨mG 1708 rfl rfl, hi_12, rfl, hn_12, ⟨hk_12.1, hk_12.2, by decide +kernel⟩, Or.inr ⟨by decide, mG 1706 (by decide +kernel) rfl, mG 1707 (by decide +kernel) rfl⟩⟩
set_option maxRecDepth 20000 in
theorem ho_192 : hdOk H_M_enough := ⟨mG 1712 rfl rfl, hi_12, rfl, hn_12, ⟨hk_12.1, hk_12.2, by decide +kernel⟩, Or.inr ⟨by decide, mG 1710 (by decide +kernel) rfl, mG 1711 (by decide +kernel) rfl⟩⟩
set_option maxRecDepth 20000 in
theorem ho_193 : hdOk H_M_firstMost := ⟨mG 1724 rfl rfl, hi_12, rfl, hn_12, ⟨hk_12.1, hk_12.2, by decide +kernel⟩, Or.inr ⟨by decide, mG 1723 (by decide +kernel) rfl, mG 69 (by decide +kernel) rfl⟩⟩
set_option maxRecDepth 20000 in
theorem ho_194 : hdOk H_M_talliesOne := ⟨mG 1720 rfl rfl, hi_12, rfl, hn_12, ⟨hk_12.1, hk_12.2, by decide +kernel⟩, Or.inr ⟨by decide, mG 1719 (by decide +kernel) rfl, mG 68 (by decide +kernel) rfl⟩⟩
set_option maxRecDepth 20000 in
theorem ho_195 : hdOk H_M_best := ⟨mG 1716 rfl rfl, hi_12, rfl, hn_12, ⟨hk_12.1, hk_12.2, by decide +kernel⟩, Or.inr ⟨by decide, mG 1714 (by decide +kernel) rfl, mG 1715 (by decide +kernel) rfl⟩⟩
set_option maxRecDepth 20000 in
theorem ho_196 : hdOk H_M_thief := ⟨mG 1728 rfl rfl, hi_12, rfl, hn_12, ⟨hk_12.1, hk_12.2, by decide +kernel⟩, Or.inr ⟨by decide, mG 1726 (by decide +kernel) rfl, mG 1727 (by decide +kernel) rfl⟩⟩
set_option maxRecDepth 20000 in
theorem ho_197 : hdOk H_M_isPair := ⟨mG 1736 rfl rfl, hi_12, rfl, hn_12, ⟨hk_12.1, hk_12.2, by decide +kernel⟩, Or.inr ⟨by decide, mG 1735 (by decide +kernel) rfl, mG 70 (by decide +kernel) rfl⟩⟩
set_option maxRecDepth 20000 in
theorem ho_198 : hdOk H_M_talliesPairs := ⟨mG 1740 rfl rfl, hi_12, rfl, hn_12, ⟨hk_12.1, hk_12.2, by decide +kernel⟩, Or.inr ⟨by decide, mG 1739 (by decide +kernel) rfl, mG 71 (by decide +kernel) rfl⟩⟩
set_option maxRecDepth 20000 in
theorem ho_199 : hdOk H_M_firstToTurn := ⟨mG 1744 rfl rfl, hi_12, rfl, hn_12, ⟨hk_12.1, hk_12.2, by decide +kernel⟩, Or.inr ⟨by decide, mG 1743 (by decide +kernel) rfl, mG 72 (by decide +kernel) rfl⟩⟩
set_option maxRecDepth 20000 in
theorem ho_200 : hdOk H_M_pair := ⟨mG 1732 rfl rfl, hi_12, rfl, hn_12, ⟨hk_12.1, hk_12.2, by decide +kernel⟩, Or.inr ⟨by decide, mG 1730 (by decide +kernel) rfl, mG 1731 (by decide +kernel) rfl⟩⟩
set_option maxRecDepth 20000 in
theorem ho_201 : hdOk H_M_sure := ⟨mG 1748 rfl rfl, hi_12, rfl, hn_12, ⟨hk_12.1, hk_12.2, by decide +kernel⟩, Or.inr ⟨by decide, mG 1746 (by decide +kernel) rfl, mG 1747 (by decide +kernel) rfl⟩⟩
set_option maxRecDepth 20000 in
theorem ho_202 : hdOk H_M_isRest := ⟨mG 1756 rfl rfl, hi_12, rfl, hn_12, ⟨hk_12.1, hk_12.2, by decide +kernel⟩, Or.inr ⟨by decide, mG 1755 (by decide +kernel) rfl, mG 73 (by decide +kernel) rfl⟩⟩
set_option maxRecDepth 20000 in
theorem ho_203 : hdOk H_M_rest := ⟨mG 1752 rfl rfl, hi_12, rfl, hn_12, ⟨hk_12.1, hk_12.2, by decide +kernel⟩, Or.inr ⟨by decide, mG 1750 (by decide +kernel) rfl, mG 1751 (by decide +kernel) rfl⟩⟩
set_option maxRecDepth 20000 in
theorem ho_204 : hdOk H_M_idle := ⟨mG 1760 rfl rfl, hi_12, rfl, hn_12, ⟨hk_12.1, hk_12.2, by decide +kernel⟩, Or.inr ⟨by decide, mG 1758 (by decide +kernel) rfl, mG 1759 (by decide +kernel) rfl⟩⟩
set_option maxRecDepth 20000 in
theorem ho_205 : hdOk H_M_shift := ⟨mG 1764 rfl rfl, hi_12, rfl, hn_12, ⟨hk_12.1, hk_12.2, by decide +kernel⟩, Or.inr ⟨by decide, mG 1762 (by decide +kernel) rfl, mG 1763 (by decide +kernel) rfl⟩⟩
set_option maxRecDepth 20000 in
theorem ho_206 : hdOk H_M_waits := ⟨mG 1768 rfl rfl, hi_12, rfl, hn_12, ⟨hk_12.1, hk_12.2, by decide +kernel⟩, Or.inr ⟨by decide, mG 1766 (by decide +kernel) rfl, mG 1767 (by decide +kernel) rfl⟩⟩
set_option maxRecDepth 20000 in
theorem ho_207 : hdOk H_M_gain := ⟨mG 1772 rfl rfl, hi_12, rfl, hn_12, ⟨hk_12.1, hk_12.2, by decide +kernel⟩, Or.inr ⟨by decide, mG 1770 (by decide +kernel) rfl, mG 1771 (by decide +kernel) rfl⟩⟩
set_option maxRecDepth 20000 in
theorem ho_208 : hdOk H_M_scratch := ⟨mG 1776 rfl rfl, hi_12, rfl, hn_12, ⟨hk_12.1, hk_12.2, by decide +kernel⟩, Or.inr ⟨by decide, mG 1774 (by decide +kernel) rfl, mG 1775 (by decide +kernel) rfl⟩⟩
set_option maxRecDepth 20000 in
theorem ho_209 : hdOk H_M_misfits := ⟨mG 1784 rfl rfl, hi_12, rfl, hn_12, ⟨hk_12.1, hk_12.2, by decide +kernel⟩, Or.inr ⟨by decide, mG 1783 (by decide +kernel) rfl, mG 74 (by decide +kernel) rfl⟩⟩
set_option maxRecDepth 20000 in
theorem ho_210 : hdOk H_M_fits := ⟨mG 1780 rfl rfl, hi_12, rfl, hn_12, ⟨hk_12.1, hk_12.2, by decide +kernel⟩, Or.inr ⟨by decide, mG 1778 (by decide +kernel) rfl, mG 1779 (by decide +kernel) rfl⟩⟩
set_option maxRecDepth 20000 in
theorem ho_211 : hdOk H_M_bitsOf := ⟨mG 1791 rfl rfl, hi_12, rfl, hn_12, ⟨hk_12.1, hk_12.2, by decide +kernel⟩, Or.inl ⟨rfl, mG 1790 (by decide +kernel) rfl⟩⟩
set_option maxRecDepth 20000 in
theorem ho_212 : hdOk H_M_lies := ⟨mG 1788 rfl rfl, hi_12, rfl, hn_12, ⟨hk_12.1, hk_12.2, by decide +kernel⟩, Or.inr ⟨by decide, mG 1786 (by decide +kernel) rfl, mG 1787 (by decide +kernel) rfl⟩⟩
set_option maxRecDepth 20000 in
theorem ho_213 : hdOk H_M_setBits := ⟨mG 1799 rfl rfl, hi_12, rfl, hn_12, ⟨hk_12.1, hk_12.2, by decide +kernel⟩, Or.inr ⟨by decide, mG 1798 (by decide +kernel) rfl, mG 75 (by decide +kernel) rfl⟩⟩
set_option maxRecDepth 20000 in
theorem ho_214 : hdOk H_M_sets := ⟨mG 1795 rfl rfl, hi_12, rfl, hn_12, ⟨hk_12.1, hk_12.2, by decide +kernel⟩, Or.inr ⟨by decide, mG 1793 (by decide +kernel) rfl, mG 1794 (by decide +kernel) rfl⟩⟩
set_option maxRecDepth 20000 in
theorem ho_215 : hdOk H_M_opening := ⟨mG 1807 rfl rfl, hi_12, rfl, hn_12, ⟨hk_12.1, hk_12.2, by decide +kernel⟩, Or.inr ⟨by decide, mG 1806 (by decide +kernel) rfl, mG 76 (by decide +kernel) rfl⟩⟩
set_option maxRecDepth 20000 in
theorem ho_216 : hdOk H_M_moment := ⟨mG 1803 rfl rfl, hi_12, rfl, hn_12, ⟨hk_12.1, hk_12.2, by decide +kernel⟩, Or.inr ⟨by decide, mG 1801 (by decide +kernel) rfl, mG 1802 (by decide +kernel) rfl⟩⟩
set_option maxRecDepth 20000 in
theorem ho_217 : hdOk H_M_better := ⟨mG 1811 rfl rfl, hi_12, rfl, hn_12, ⟨hk_12.1, hk_12.2, by decide +kernel⟩, Or.inr ⟨by decide, mG 1809 (by decide +kernel) rfl, mG 1810 (by decide +kernel) rfl⟩⟩
set_option maxRecDepth 20000 in
theorem ho_218 : hdOk H_M_exact := ⟨mG 1815 rfl rfl, hi_12, rfl, hn_12, ⟨hk_12.1, hk_12.2, by decide +kernel⟩, Or.inr ⟨by decide, mG 1813 (by decide +kernel) rfl, mG 1814 (by decide +kernel) rfl⟩⟩
set_option maxRecDepth 20000 in
theorem ho_219 : hdOk H_M_lossy := ⟨mG 1819 rfl rfl, hi_12, rfl, hn_12, ⟨hk_12.1, hk_12.2, by decide +kernel⟩, Or.inr ⟨by decide, mG 1817 (by decide +kernel) rfl, mG 1818 (by decide +kernel) rfl⟩⟩
set_option maxRecDepth 20000 in
theorem ho_220 : hdOk H_M_route := ⟨mG 1825 rfl rfl, hi_12, rfl, hn_12, ⟨hk_12.1, hk_12.2, by decide +kernel⟩, Or.inr ⟨by decide, mG 1823 (by decide +kernel) rfl, mG 1824 (by decide +kernel) rfl⟩⟩
set_option maxRecDepth 20000 in
theorem ho_221 : hdOk H_M_deaf := ⟨mG 1829 rfl rfl, hi_12, rfl, hn_12, ⟨hk_12.1, hk_12.2, by decide +kernel⟩, Or.inr ⟨by decide, mG 1827 (by decide +kernel) rfl, mG 1828 (by decide +kernel) rfl⟩⟩
set_option maxRecDepth 20000 in
theorem ho_222 : hdOk H_M_helper := ⟨mG 1833 rfl rfl, hi_12, rfl, hn_12, ⟨hk_12.1, hk_12.2, by decide +kernel⟩, Or.inr ⟨by decide, mG 1831 (by decide +kernel) rfl, mG 1832 (by decide +kernel) rfl⟩⟩
set_option maxRecDepth 20000 in
theorem ho_223 : hdOk H_M_draw := ⟨mG 1845 rfl rfl, hi_12, rfl, hn_12, ⟨hk_12.1, hk_12.2, by decide +kernel⟩, Or.inr ⟨by decide, mG 1844 (by decide +kernel) rfl, mG 77 (by decide +kernel) rfl⟩⟩
set_option maxRecDepth 20000 in
theorem ho_224 : hdOk H_M_seed := ⟨mG 1837 rfl rfl, hi_12, rfl, hn_12, ⟨hk_12.1, hk_12.2, by decide +kernel⟩, Or.inr ⟨by decide, mG 1835 (by decide +kernel) rfl, mG 1836 (by decide +kernel) rfl⟩⟩
set_option maxRecDepth 20000 in
theorem ho_225 : hdOk H_M_night := ⟨mG 1841 rfl rfl, hi_12, rfl, hn_12, ⟨hk_12.1, hk_12.2, by decide +kernel⟩, Or.inr ⟨by decide, mG 1839 (by decide +kernel) rfl, mG 1840 (by decide +kernel) rfl⟩⟩
set_option maxRecDepth 20000 in
theorem ho_226 : hdOk H_M_isNight := ⟨mG 1855 rfl rfl, hi_12, rfl, hn_12, ⟨hk_12.1, hk_12.2, by decide +kernel⟩, Or.inr ⟨by decide, mG 1854 (by decide +kernel) rfl, mG 78 (by decide +kernel) rfl⟩⟩
set_option maxRecDepth 20000 in
theorem ho_227 : hdOk H_M_turned := ⟨mG 1851 rfl rfl, hi_12, rfl, hn_12, ⟨hk_12.1, hk_12.2, by decide +kernel⟩, Or.inr ⟨by decide, mG 1849 (by decide +kernel) rfl, mG 1850 (by decide +kernel) rfl⟩⟩
set_option maxRecDepth 20000 in
theorem ho_228 : hdOk H_M_opened := ⟨mG 1859 rfl rfl, hi_12, rfl, hn_12, ⟨hk_12.1, hk_12.2, by decide +kernel⟩, Or.inr ⟨by decide, mG 1857 (by decide +kernel) rfl, mG 1858 (by decide +kernel) rfl⟩⟩
set_option maxRecDepth 20000 in
theorem ho_229 : hdOk H_M_undo := ⟨mG 1863 rfl rfl, hi_12, rfl, hn_12, ⟨hk_12.1, hk_12.2, by decide +kernel⟩, Or.inr ⟨by decide, mG 1861 (by decide +kernel) rfl, mG 1862 (by decide +kernel) rfl⟩⟩
set_option maxRecDepth 20000 in
theorem ho_230 : hdOk H_M_image := ⟨mG 1867 rfl rfl, hi_12, rfl, hn_12, ⟨hk_12.1, hk_12.2, by decide +kernel⟩, Or.inr ⟨by decide, mG 1865 (by decide +kernel) rfl, mG 1866 (by decide +kernel) rfl⟩⟩
set_option maxRecDepth 20000 in
theorem ho_231 : hdOk H_M_back := ⟨mG 1871 rfl rfl, hi_12, rfl, hn_12, ⟨hk_12.1, hk_12.2, by decide +kernel⟩, Or.inr ⟨by decide, mG 1869 (by decide +kernel) rfl, mG 1870 (by decide +kernel) rfl⟩⟩
set_option maxRecDepth 20000 in
theorem ho_232 : hdOk H_M_count := ⟨mG 1875 rfl rfl, hi_12, rfl, hn_12, ⟨hk_12.1, hk_12.2, by decide +kernel⟩, Or.inr ⟨by decide, mG 1873 (by decide +kernel) rfl, mG 1874 (by decide +kernel) rfl⟩⟩
set_option maxRecDepth 20000 in
theorem ho_233 : hdOk H_Integer_bitCount := ⟨mG 1128 rfl rfl, hi_14, rfl, hn_14, ⟨hk_14.1, hk_14.2, by decide +kernel⟩, Or.inl ⟨rfl, mG 1127 (by decide +kernel) rfl⟩⟩
theorem hoR_0 : ∀ h ∈ hd0, hdOk h := List.forall_mem_cons.mpr ⟨ho_0, List.forall_mem_cons.mpr ⟨ho_1, List.forall_mem_cons.mpr ⟨ho_2, List.forall_mem_cons.mpr ⟨ho_3, List.forall_mem_cons.mpr ⟨ho_4, List.forall_mem_cons.mpr ⟨ho_5, List.forall_mem_cons.mpr ⟨ho_6, List.forall_mem_cons.mpr ⟨ho_7, List.forall_mem_cons.mpr ⟨ho_8, List.forall_mem_cons.mpr ⟨ho_9, List.forall_mem_cons.mpr ⟨ho_10, List.forall_mem_cons.mpr ⟨ho_11, List.forall_mem_cons.mpr ⟨ho_12, List.forall_mem_cons.mpr ⟨ho_13, List.forall_mem_cons.mpr ⟨ho_14, List.forall_mem_cons.mpr ⟨ho_15, fun _ h => absurd h List.not_mem_nil⟩⟩⟩⟩⟩⟩⟩⟩⟩⟩⟩⟩⟩⟩⟩⟩
theorem hoR_1 : ∀ h ∈ hd1, hdOk h := List.forall_mem_cons.mpr ⟨ho_16, List.forall_mem_cons.mpr ⟨ho_17, List.forall_mem_cons.mpr ⟨ho_18, List.forall_mem_cons.mpr ⟨ho_19, List.forall_mem_cons.mpr ⟨ho_20, List.forall_mem_cons.mpr ⟨ho_21, List.forall_mem_cons.mpr ⟨ho_22, List.forall_mem_cons.mpr ⟨ho_23, List.forall_mem_cons.mpr ⟨ho_24, List.forall_mem_cons.mpr ⟨ho_25, List.forall_mem_cons.mpr ⟨ho_26, List.forall_mem_cons.mpr ⟨ho_27, List.forall_mem_cons.mpr ⟨ho_28, List.forall_mem_cons.mpr ⟨ho_29, List.forall_mem_cons.mpr ⟨ho_30, List.forall_mem_cons.mpr ⟨ho_31, fun _ h => absurd h List.not_mem_nil⟩⟩⟩⟩⟩⟩⟩⟩⟩⟩⟩⟩⟩⟩⟩⟩
theorem hoR_2 : ∀ h ∈ hd2, hdOk h := List.forall_mem_cons.mpr ⟨ho_32, List.forall_mem_cons.mpr ⟨ho_33, List.forall_mem_cons.mpr ⟨ho_34, List.forall_mem_cons.mpr ⟨ho_35, List.forall_mem_cons.mpr ⟨ho_36, List.forall_mem_cons.mpr ⟨ho_37, List.forall_mem_cons.mpr ⟨ho_38, List.forall_mem_cons.mpr ⟨ho_39, List.forall_mem_cons.mpr ⟨ho_40, List.forall_mem_cons.mpr ⟨ho_41, List.forall_mem_cons.mpr ⟨ho_42, List.forall_mem_cons.mpr ⟨ho_43, List.forall_mem_cons.mpr ⟨ho_44, List.forall_mem_cons.mpr ⟨ho_45, List.forall_mem_cons.mpr ⟨ho_46, List.forall_mem_cons.mpr ⟨ho_47, fun _ h => absurd h List.not_mem_nil⟩⟩⟩⟩⟩⟩⟩⟩⟩⟩⟩⟩⟩⟩⟩⟩
theorem hoR_3 : ∀ h ∈ hd3, hdOk h := List.forall_mem_cons.mpr ⟨ho_48, List.forall_mem_cons.mpr ⟨ho_49, List.forall_mem_cons.mpr ⟨ho_50, List.forall_mem_cons.mpr ⟨ho_51, List.forall_mem_cons.mpr ⟨ho_52, List.forall_mem_cons.mpr ⟨ho_53, List.forall_mem_cons.mpr ⟨ho_54, List.forall_mem_cons.mpr ⟨ho_55, List.forall_mem_cons.mpr ⟨ho_56, List.forall_mem_cons.mpr ⟨ho_57, List.forall_mem_cons.mpr ⟨ho_58, List.forall_mem_cons.mpr ⟨ho_59, List.forall_mem_cons.mpr ⟨ho_60, List.forall_mem_cons.mpr ⟨ho_61, List.forall_mem_cons.mpr ⟨ho_62, List.forall_mem_cons.mpr ⟨ho_63, fun _ h => absurd h List.not_mem_nil⟩⟩⟩⟩⟩⟩⟩⟩⟩⟩⟩⟩⟩⟩⟩⟩
theorem hoR_4 : ∀ h ∈ hd4, hdOk h := List.forall_mem_cons.mpr ⟨ho_64, List.forall_mem_cons.mpr ⟨ho_65, List.forall_mem_cons.mpr ⟨ho_66, List.forall_mem_cons.mpr ⟨ho_67, List.forall_mem_cons.mpr ⟨ho_68, List.forall_mem_cons.mpr ⟨ho_69, List.forall_mem_cons.mpr ⟨ho_70, List.forall_mem_cons.mpr ⟨ho_71, List.forall_mem_cons.mpr ⟨ho_72, List.forall_mem_cons.mpr ⟨ho_73, List.forall_mem_cons.mpr ⟨ho_74, List.forall_mem_cons.mpr ⟨ho_75, List.forall_mem_cons.mpr ⟨ho_76, List.forall_mem_cons.mpr ⟨ho_77, List.forall_mem_cons.mpr ⟨ho_78, List.forall_mem_cons.mpr ⟨ho_79, fun _ h => absurd h List.not_mem_nil⟩⟩⟩⟩⟩⟩⟩⟩⟩⟩⟩⟩⟩⟩⟩⟩
theorem hoR_5 : ∀ h ∈ hd5, hdOk h := List.forall_mem_cons.mpr ⟨ho_80, List.forall_mem_cons.mpr ⟨ho_81, List.forall_mem_cons.mpr ⟨ho_82, List.forall_mem_cons.mpr ⟨ho_83, List.forall_mem_cons.mpr ⟨ho_84, List.forall_mem_cons.mpr ⟨ho_85, List.forall_mem_cons.mpr ⟨ho_86, List.forall_mem_cons.mpr ⟨ho_87, List.forall_mem_cons.mpr ⟨ho_88, List.forall_mem_cons.mpr ⟨ho_89, List.forall_mem_cons.mpr ⟨ho_90, List.forall_mem_cons.mpr ⟨ho_91, List.forall_mem_cons.mpr ⟨ho_92, List.forall_mem_cons.mpr ⟨ho_93, List.forall_mem_cons.mpr ⟨ho_94, List.forall_mem_cons.mpr ⟨ho_95, fun _ h => absurd h List.not_mem_nil⟩⟩⟩⟩⟩⟩⟩⟩⟩⟩⟩⟩⟩⟩⟩⟩
theorem hoR_6 : ∀ h ∈ hd6, hdOk h := List.forall_mem_cons.mpr ⟨ho_96, List.forall_mem_cons.mpr ⟨ho_97, List.forall_mem_cons.mpr ⟨ho_98, List.forall_mem_cons.mpr ⟨ho_99, List.forall_mem_cons.mpr ⟨ho_100, List.forall_mem_cons.mpr ⟨ho_101, List.forall_mem_cons.mpr ⟨ho_102, List.forall_mem_cons.mpr ⟨ho_103, List.forall_mem_cons.mpr ⟨ho_104, List.forall_mem_cons.mpr ⟨ho_105, List.forall_mem_cons.mpr ⟨ho_106, List.forall_mem_cons.mpr ⟨ho_107, List.forall_mem_cons.mpr ⟨ho_108, List.forall_mem_cons.mpr ⟨ho_109, List.forall_mem_cons.mpr ⟨ho_110, List.forall_mem_cons.mpr ⟨ho_111, fun _ h => absurd h List.not_mem_nil⟩⟩⟩⟩⟩⟩⟩⟩⟩⟩⟩⟩⟩⟩⟩⟩
theorem hoR_7 : ∀ h ∈ hd7, hdOk h := List.forall_mem_cons.mpr ⟨ho_112, List.forall_mem_cons.mpr ⟨ho_113, List.forall_mem_cons.mpr ⟨ho_114, List.forall_mem_cons.mpr ⟨ho_115, List.forall_mem_cons.mpr ⟨ho_116, List.forall_mem_cons.mpr ⟨ho_117, List.forall_mem_cons.mpr ⟨ho_118, List.forall_mem_cons.mpr ⟨ho_119, List.forall_mem_cons.mpr ⟨ho_120, List.forall_mem_cons.mpr ⟨ho_121, List.forall_mem_cons.mpr ⟨ho_122, List.forall_mem_cons.mpr ⟨ho_123, List.forall_mem_cons.mpr ⟨ho_124, List.forall_mem_cons.mpr ⟨ho_125, List.forall_mem_cons.mpr ⟨ho_126, List.forall_mem_cons.mpr ⟨ho_127, fun _ h => absurd h List.not_mem_nil⟩⟩⟩⟩⟩⟩⟩⟩⟩⟩⟩⟩⟩⟩⟩⟩
theorem hoR_8 : ∀ h ∈ hd8, hdOk h := List.forall_mem_cons.mpr ⟨ho_128, List.forall_mem_cons.mpr ⟨ho_129, List.forall_mem_cons.mpr ⟨ho_130, List.forall_mem_cons.mpr ⟨ho_131, List.forall_mem_cons.mpr ⟨ho_132, List.forall_mem_cons.mpr ⟨ho_133, List.forall_mem_cons.mpr ⟨ho_134, List.forall_mem_cons.mpr ⟨ho_135, List.forall_mem_cons.mpr ⟨ho_136, List.forall_mem_cons.mpr ⟨ho_137, List.forall_mem_cons.mpr ⟨ho_138, List.forall_mem_cons.mpr ⟨ho_139, List.forall_mem_cons.mpr ⟨ho_140, List.forall_mem_cons.mpr ⟨ho_141, List.forall_mem_cons.mpr ⟨ho_142, List.forall_mem_cons.mpr ⟨ho_143, fun _ h => absurd h List.not_mem_nil⟩⟩⟩⟩⟩⟩⟩⟩⟩⟩⟩⟩⟩⟩⟩⟩
theorem hoR_9 : ∀ h ∈ hd9, hdOk h := List.forall_mem_cons.mpr ⟨ho_144, List.forall_mem_cons.mpr ⟨ho_145, List.forall_mem_cons.mpr ⟨ho_146, List.forall_mem_cons.mpr ⟨ho_147, List.forall_mem_cons.mpr ⟨ho_148, List.forall_mem_cons.mpr ⟨ho_149, List.forall_mem_cons.mpr ⟨ho_150, List.forall_mem_cons.mpr ⟨ho_151, List.forall_mem_cons.mpr ⟨ho_152, List.forall_mem_cons.mpr ⟨ho_153, List.forall_mem_cons.mpr ⟨ho_154, List.forall_mem_cons.mpr ⟨ho_155, List.forall_mem_cons.mpr ⟨ho_156, List.forall_mem_cons.mpr ⟨ho_157, List.forall_mem_cons.mpr ⟨ho_158, List.forall_mem_cons.mpr ⟨ho_159, fun _ h => absurd h List.not_mem_nil⟩⟩⟩⟩⟩⟩⟩⟩⟩⟩⟩⟩⟩⟩⟩⟩
theorem hoR_10 : ∀ h ∈ hd10, hdOk h := List.forall_mem_cons.mpr ⟨ho_160, List.forall_mem_cons.mpr ⟨ho_161, List.forall_mem_cons.mpr ⟨ho_162, List.forall_mem_cons.mpr ⟨ho_163, List.forall_mem_cons.mpr ⟨ho_164, List.forall_mem_cons.mpr ⟨ho_165, List.forall_mem_cons.mpr ⟨ho_166, List.forall_mem_cons.mpr ⟨ho_167, List.forall_mem_cons.mpr ⟨ho_168, List.forall_mem_cons.mpr ⟨ho_169, List.forall_mem_cons.mpr ⟨ho_170, List.forall_mem_cons.mpr ⟨ho_171, List.forall_mem_cons.mpr ⟨ho_172, List.forall_mem_cons.mpr ⟨ho_173, List.forall_mem_cons.mpr ⟨ho_174, List.forall_mem_cons.mpr ⟨ho_175, fun _ h => absurd h List.not_mem_nil⟩⟩⟩⟩⟩⟩⟩⟩⟩⟩⟩⟩⟩⟩⟩⟩
theorem hoR_11 : ∀ h ∈ hd11, hdOk h := List.forall_mem_cons.mpr ⟨ho_176, List.forall_mem_cons.mpr ⟨ho_177, List.forall_mem_cons.mpr ⟨ho_178, List.forall_mem_cons.mpr ⟨ho_179, List.forall_mem_cons.mpr ⟨ho_180, List.forall_mem_cons.mpr ⟨ho_181, List.forall_mem_cons.mpr ⟨ho_182, List.forall_mem_cons.mpr ⟨ho_183, List.forall_mem_cons.mpr ⟨ho_184, List.forall_mem_cons.mpr ⟨ho_185, List.forall_mem_cons.mpr ⟨ho_186, List.forall_mem_cons.mpr ⟨ho_187, List.forall_mem_cons.mpr ⟨ho_188, List.forall_mem_cons.mpr ⟨ho_189, List.forall_mem_cons.mpr ⟨ho_190, List.forall_mem_cons.mpr ⟨ho_191, fun _ h => absurd h List.not_mem_nil⟩⟩⟩⟩⟩⟩⟩⟩⟩⟩⟩⟩⟩⟩⟩⟩
theorem hoR_12 : ∀ h ∈ hd12, hdOk h := List.forall_mem_cons.mpr ⟨ho_192, List.forall_mem_cons.mpr ⟨ho_193, List.forall_mem_cons.mpr ⟨ho_194, List.forall_mem_cons.mpr ⟨ho_195, List.forall_mem_cons.mpr ⟨ho_196, List.forall_mem_cons.mpr ⟨ho_197, List.forall_mem_cons.mpr ⟨ho_198, List.forall_mem_cons.mpr ⟨ho_199, List.forall_mem_cons.mpr ⟨ho_200, List.forall_mem_cons.mpr ⟨ho_201, List.forall_mem_cons.mpr ⟨ho_202, List.forall_mem_cons.mpr ⟨ho_203, List.forall_mem_cons.mpr ⟨ho_204, List.forall_mem_cons.mpr ⟨ho_205, List.forall_mem_cons.mpr ⟨ho_206, List.forall_mem_cons.mpr ⟨ho_207, fun _ h => absurd h List.not_mem_nil⟩⟩⟩⟩⟩⟩⟩⟩⟩⟩⟩⟩⟩⟩⟩⟩
theorem hoR_13 : ∀ h ∈ hd13, hdOk h := List.forall_mem_cons.mpr ⟨ho_208, List.forall_mem_cons.mpr ⟨ho_209, List.forall_mem_cons.mpr ⟨ho_210, List.forall_mem_cons.mpr ⟨ho_211, List.forall_mem_cons.mpr ⟨ho_212, List.forall_mem_cons.mpr ⟨ho_213, List.forall_mem_cons.mpr ⟨ho_214, List.forall_mem_cons.mpr ⟨ho_215, List.forall_mem_cons.mpr ⟨ho_216, List.forall_mem_cons.mpr ⟨ho_217, List.forall_mem_cons.mpr ⟨ho_218, List.forall_mem_cons.mpr ⟨ho_219, List.forall_mem_cons.mpr ⟨ho_220, List.forall_mem_cons.mpr ⟨ho_221, List.forall_mem_cons.mpr ⟨ho_222, List.forall_mem_cons.mpr ⟨ho_223, fun _ h => absurd h List.not_mem_nil⟩⟩⟩⟩⟩⟩⟩⟩⟩⟩⟩⟩⟩⟩⟩⟩
theorem hoR_14 : ∀ h ∈ hd14, hdOk h := List.forall_mem_cons.mpr ⟨ho_224, List.forall_mem_cons.mpr ⟨ho_225, List.forall_mem_cons.mpr ⟨ho_226, List.forall_mem_cons.mpr ⟨ho_227, List.forall_mem_cons.mpr ⟨ho_228, List.forall_mem_cons.mpr ⟨ho_229, List.forall_mem_cons.mpr ⟨ho_230, List.forall_mem_cons.mpr ⟨ho_231, List.forall_mem_cons.mpr ⟨ho_232, List.forall_mem_cons.mpr ⟨ho_233, fun _ h => absurd h List.not_mem_nil⟩⟩⟩⟩⟩⟩⟩⟩⟩⟩
theorem hoA : ∀ r ∈ hdT, ∀ h ∈ r, hdOk h := List.forall_mem_cons.mpr ⟨hoR_0, List.forall_mem_cons.mpr ⟨hoR_1, List.forall_mem_cons.mpr ⟨hoR_2, List.forall_mem_cons.mpr ⟨hoR_3, List.forall_mem_cons.mpr ⟨hoR_4, List.forall_mem_cons.mpr ⟨hoR_5, List.forall_mem_cons.mpr ⟨hoR_6, List.forall_mem_cons.mpr ⟨hoR_7, List.forall_mem_cons.mpr ⟨hoR_8, List.forall_mem_cons.mpr ⟨hoR_9, List.forall_mem_cons.mpr ⟨hoR_10, List.forall_mem_cons.mpr ⟨hoR_11, List.forall_mem_cons.mpr ⟨hoR_12, List.forall_mem_cons.mpr ⟨hoR_13, List.forall_mem_cons.mpr ⟨hoR_14, fun _ h => absurd h List.not_mem_nil⟩⟩⟩⟩⟩⟩⟩⟩⟩⟩⟩⟩⟩⟩⟩
theorem getD_P {α : Type} {P : α → Prop} {l : List α} (n : Nat) (d : α) (h : ∀ a ∈ l, P a) (hd : P d) : P (l.getD n d) := by
  rw [List.getD_eq_getElem?_getD]
  cases hq : l[n]? with
  | none => exact hd
  | some a => exact h a (List.mem_of_getElem? hq)
theorem hdTab_ok (n : Nat) : hdOk (hdTab n) := getD_P _ _ (getD_P (P := fun r => ∀ h ∈ r, hdOk h) _ _ hoA (fun _ h => absurd h List.not_mem_nil)) ho_0
