theorem dX11_count_79 : decode cX11_count 79 = .ok (.invokevirtual 133, 3) := by decide +kernel
theorem dX11_count_82 : decode cX11_count 82 = .ok (.ireturn, 1) := by decide +kernel
theorem dX11_count_83 : decode cX11_count 83 = .ok (.aload_n 0, 1) := by decide +kernel
theorem dX11_count_84 : decode cX11_count 84 = .ok (.getfield 10, 3) := by decide +kernel
theorem dX11_count_87 : decode cX11_count 87 = .ok (.aload_n 0, 1) := by decide +kernel
theorem dX11_count_88 : decode cX11_count 88 = .ok (.getfield 10, 3) := by decide +kernel
theorem dX11_count_91 : decode cX11_count 91 = .ok (.getfield 116, 3) := by decide +kernel
theorem dX11_count_94 : decode cX11_count 94 = .ok (.invokevirtual 133, 3) := by decide +kernel
theorem dX11_count_97 : decode cX11_count 97 = .ok (.ireturn, 1) := by decide +kernel
theorem dX11_count_98 : decode cX11_count 98 = .ok (.aload_n 0, 1) := by decide +kernel
theorem dX11_count_99 : decode cX11_count 99 = .ok (.getfield 33, 3) := by decide +kernel
theorem dX11_count_102 : decode cX11_count 102 = .ok (.getfield 83, 3) := by decide +kernel
theorem dX11_count_105 : decode cX11_count 105 = .ok (.ireturn, 1) := by decide +kernel
theorem dX11_count_106 : decode cX11_count 106 = .ok (.aload_n 0, 1) := by decide +kernel
theorem dX11_count_107 : decode cX11_count 107 = .ok (.getfield 26, 3) := by decide +kernel
theorem dX11_count_110 : decode cX11_count 110 = .ok (.getfield 64, 3) := by decide +kernel
theorem dX11_count_113 : decode cX11_count 113 = .ok (.ireturn, 1) := by decide +kernel
theorem dX11_count_114 : decode cX11_count 114 = .ok (.aload_n 0, 1) := by decide +kernel
theorem dX11_count_115 : decode cX11_count 115 = .ok (.iload_n 1, 1) := by decide +kernel
theorem dX11_count_116 : decode cX11_count 116 = .ok (.invokevirtual 310, 3) := by decide +kernel
theorem dX11_count_119 : decode cX11_count 119 = .ok (.ireturn, 1) := by decide +kernel
theorem dX11_weightCount_0 : decode cX11_weightCount 0 = .ok (.iload_n 1, 1) := by decide +kernel
theorem dX11_weightCount_1 : decode cX11_weightCount 1 = .ok (.bipush 10, 2) := by decide +kernel
theorem dX11_weightCount_3 : decode cX11_weightCount 3 = .ok (.if_icmp .lt 9, 3) := by decide +kernel
theorem dX11_weightCount_6 : decode cX11_weightCount 6 = .ok (.iload_n 1, 1) := by decide +kernel
theorem dX11_weightCount_7 : decode cX11_weightCount 7 = .ok (.bipush 14, 2) := by decide +kernel
theorem dX11_weightCount_9 : decode cX11_weightCount 9 = .ok (.if_icmp .lt 5, 3) := by decide +kernel
theorem dX11_weightCount_12 : decode cX11_weightCount 12 = .ok (.iconst (-1), 1) := by decide +kernel
theorem dX11_weightCount_13 : decode cX11_weightCount 13 = .ok (.ireturn, 1) := by decide +kernel
theorem dX11_weightCount_14 : decode cX11_weightCount 14 = .ok (.aload_n 0, 1) := by decide +kernel
theorem dX11_weightCount_15 : decode cX11_weightCount 15 = .ok (.getfield 10, 3) := by decide +kernel
theorem dX11_weightCount_18 : decode cX11_weightCount 18 = .ok (.getfield 110, 3) := by decide +kernel
theorem dX11_weightCount_21 : decode cX11_weightCount 21 = .ok (.iload_n 1, 1) := by decide +kernel
theorem dX11_weightCount_22 : decode cX11_weightCount 22 = .ok (.bipush 10, 2) := by decide +kernel
theorem dX11_weightCount_24 : decode cX11_weightCount 24 = .ok (.isub, 1) := by decide +kernel
theorem dX11_weightCount_25 : decode cX11_weightCount 25 = .ok (.iaload, 1) := by decide +kernel
theorem dX11_weightCount_26 : decode cX11_weightCount 26 = .ok (.ireturn, 1) := by decide +kernel
theorem dX11_isShade_0 : decode cX11_isShade 0 = .ok (.iload_n 0, 1) := by decide +kernel
theorem dX11_isShade_1 : decode cX11_isShade 1 = .ok (.ifCond .lt 13, 3) := by decide +kernel
theorem dX11_isShade_4 : decode cX11_isShade 4 = .ok (.iload_n 0, 1) := by decide +kernel
theorem dX11_isShade_5 : decode cX11_isShade 5 = .ok (.bipush 16, 2) := by decide +kernel
theorem dX11_isShade_7 : decode cX11_isShade 7 = .ok (.if_icmp .ge 7, 3) := by decide +kernel
theorem dX11_isShade_10 : decode cX11_isShade 10 = .ok (.iconst 1, 1) := by decide +kernel
theorem dX11_isShade_11 : decode cX11_isShade 11 = .ok (.goto 4, 3) := by decide +kernel
theorem dX11_isShade_14 : decode cX11_isShade 14 = .ok (.iconst 0, 1) := by decide +kernel
theorem dX11_isShade_15 : decode cX11_isShade 15 = .ok (.ireturn, 1) := by decide +kernel
theorem dX11_isSetting_0 : decode cX11_isSetting 0 = .ok (.iload_n 0, 1) := by decide +kernel
theorem dX11_isSetting_1 : decode cX11_isSetting 1 = .ok (.ifCond .lt 13, 3) := by decide +kernel
theorem dX11_isSetting_4 : decode cX11_isSetting 4 = .ok (.iload_n 0, 1) := by decide +kernel
theorem dX11_isSetting_5 : decode cX11_isSetting 5 = .ok (.bipush 6, 2) := by decide +kernel
theorem dX11_isSetting_7 : decode cX11_isSetting 7 = .ok (.if_icmp .ge 7, 3) := by decide +kernel
theorem dX11_isSetting_10 : decode cX11_isSetting 10 = .ok (.iconst 1, 1) := by decide +kernel
theorem dX11_isSetting_11 : decode cX11_isSetting 11 = .ok (.goto 4, 3) := by decide +kernel
theorem dX11_isSetting_14 : decode cX11_isSetting 14 = .ok (.iconst 0, 1) := by decide +kernel
theorem dX11_isSetting_15 : decode cX11_isSetting 15 = .ok (.ireturn, 1) := by decide +kernel
theorem dX11_beginAct_0 : decode cX11_beginAct 0 = .ok (.aload_n 0, 1) := by decide +kernel
theorem dX11_beginAct_1 : decode cX11_beginAct 1 = .ok (.getfield 33, 3) := by decide +kernel
theorem dX11_beginAct_4 : decode cX11_beginAct 4 = .ok (.aload_n 0, 1) := by decide +kernel
theorem dX11_beginAct_5 : decode cX11_beginAct 5 = .ok (.getfield 10, 3) := by decide +kernel
theorem dX11_beginAct_8 : decode cX11_beginAct 8 = .ok (.invokevirtual 313, 3) := by decide +kernel
theorem dX11_beginAct_11 : decode cX11_beginAct 11 = .ok (.aload_n 0, 1) := by decide +kernel
theorem dX11_beginAct_12 : decode cX11_beginAct 12 = .ok (.invokevirtual 86, 3) := by decide +kernel
theorem dX11_beginAct_15 : decode cX11_beginAct 15 = .ok (.return_, 1) := by decide +kernel
theorem dX11_forgetDerived_0 : decode cX11_forgetDerived 0 = .ok (.aload_n 0, 1) := by decide +kernel
theorem dX11_forgetDerived_1 : decode cX11_forgetDerived 1 = .ok (.getfield 19, 3) := by decide +kernel
theorem dX11_forgetDerived_4 : decode cX11_forgetDerived 4 = .ok (.invokevirtual 316, 3) := by decide +kernel
theorem dX11_forgetDerived_7 : decode cX11_forgetDerived 7 = .ok (.aload_n 0, 1) := by decide +kernel
theorem dX11_forgetDerived_8 : decode cX11_forgetDerived 8 = .ok (.getfield 46, 3) := by decide +kernel
theorem dX11_forgetDerived_11 : decode cX11_forgetDerived 11 = .ok (.iconst 0, 1) := by decide +kernel
theorem dX11_forgetDerived_12 : decode cX11_forgetDerived 12 = .ok (.putfield 319, 3) := by decide +kernel
theorem dX11_forgetDerived_15 : decode cX11_forgetDerived 15 = .ok (.return_, 1) := by decide +kernel
theorem dX11_looked_0 : decode cX11_looked 0 = .ok (.aload_n 0, 1) := by decide +kernel
theorem dX11_looked_1 : decode cX11_looked 1 = .ok (.getfield 19, 3) := by decide +kernel
theorem dX11_looked_4 : decode cX11_looked 4 = .ok (.aload_n 0, 1) := by decide +kernel
theorem dX11_looked_5 : decode cX11_looked 5 = .ok (.getfield 10, 3) := by decide +kernel
theorem dX11_looked_8 : decode cX11_looked 8 = .ok (.invokevirtual 259, 3) := by decide +kernel
theorem dX11_looked_11 : decode cX11_looked 11 = .ok (.aload_n 0, 1) := by decide +kernel
theorem dX11_looked_12 : decode cX11_looked 12 = .ok (.getfield 19, 3) := by decide +kernel
theorem dX11_looked_15 : decode cX11_looked 15 = .ok (.areturn, 1) := by decide +kernel
theorem dX11_evened_0 : decode cX11_evened 0 = .ok (.aload_n 0, 1) := by decide +kernel
theorem dX11_evened_1 : decode cX11_evened 1 = .ok (.getfield 19, 3) := by decide +kernel
theorem dX11_evened_4 : decode cX11_evened 4 = .ok (.aload_n 0, 1) := by decide +kernel
theorem dX11_evened_5 : decode cX11_evened 5 = .ok (.getfield 10, 3) := by decide +kernel
theorem dX11_evened_8 : decode cX11_evened 8 = .ok (.invokevirtual 323, 3) := by decide +kernel
theorem dX11_evened_11 : decode cX11_evened 11 = .ok (.aload_n 0, 1) := by decide +kernel
theorem dX11_evened_12 : decode cX11_evened 12 = .ok (.getfield 19, 3) := by decide +kernel
theorem dX11_evened_15 : decode cX11_evened 15 = .ok (.areturn, 1) := by decide +kernel
theorem dX11_tally_0 : decode cX11_tally 0 = .ok (.iload_n 1, 1) := by decide +kernel
theorem dX11_tally_1 : decode cX11_tally 1 = .ok (.ifCond .eq 13, 3) := by decide +kernel
theorem dX11_tally_4 : decode cX11_tally 4 = .ok (.aload_n 0, 1) := by decide +kernel
theorem dX11_tally_5 : decode cX11_tally 5 = .ok (.invokevirtual 146, 3) := by decide +kernel
theorem dX11_tally_8 : decode cX11_tally 8 = .ok (.getfield 187, 3) := by decide +kernel
theorem dX11_tally_11 : decode cX11_tally 11 = .ok (.goto 10, 3) := by decide +kernel
theorem dX11_tally_14 : decode cX11_tally 14 = .ok (.aload_n 0, 1) := by decide +kernel
theorem dX11_tally_15 : decode cX11_tally 15 = .ok (.invokevirtual 119, 3) := by decide +kernel
theorem dX11_tally_18 : decode cX11_tally 18 = .ok (.getfield 168, 3) := by decide +kernel
theorem dX11_tally_21 : decode cX11_tally 21 = .ok (.areturn, 1) := by decide +kernel
theorem dX11_beginTrial_0 : decode cX11_beginTrial 0 = .ok (.aload_n 0, 1) := by decide +kernel
theorem dX11_beginTrial_1 : decode cX11_beginTrial 1 = .ok (.getfield 37, 3) := by decide +kernel
theorem dX11_beginTrial_4 : decode cX11_beginTrial 4 = .ok (.aload_n 0, 1) := by decide +kernel
theorem dX11_beginTrial_5 : decode cX11_beginTrial 5 = .ok (.getfield 10, 3) := by decide +kernel
theorem dX11_beginTrial_8 : decode cX11_beginTrial 8 = .ok (.invokevirtual 79, 3) := by decide +kernel
theorem dX11_beginTrial_11 : decode cX11_beginTrial 11 = .ok (.aload_n 0, 1) := by decide +kernel
theorem dX11_beginTrial_12 : decode cX11_beginTrial 12 = .ok (.getfield 40, 3) := by decide +kernel
theorem dX11_beginTrial_15 : decode cX11_beginTrial 15 = .ok (.invokevirtual 316, 3) := by decide +kernel
theorem dX11_beginTrial_18 : decode cX11_beginTrial 18 = .ok (.return_, 1) := by decide +kernel
theorem dX11_trialFlicker_0 : decode cX11_trialFlicker 0 = .ok (.aload_n 0, 1) := by decide +kernel
theorem dX11_trialFlicker_1 : decode cX11_trialFlicker 1 = .ok (.getfield 37, 3) := by decide +kernel
theorem dX11_trialFlicker_4 : decode cX11_trialFlicker 4 = .ok (.getfield 103, 3) := by decide +kernel
theorem dX11_trialFlicker_7 : decode cX11_trialFlicker 7 = .ok (.iload_n 1, 1) := by decide +kernel
theorem dX11_trialFlicker_8 : decode cX11_trialFlicker 8 = .ok (.iload_n 2, 1) := by decide +kernel
theorem dX11_trialFlicker_9 : decode cX11_trialFlicker 9 = .ok (.iastore, 1) := by decide +kernel
theorem dX11_trialFlicker_10 : decode cX11_trialFlicker 10 = .ok (.aload_n 0, 1) := by decide +kernel
theorem dX11_trialFlicker_11 : decode cX11_trialFlicker 11 = .ok (.getfield 40, 3) := by decide +kernel
theorem dX11_trialFlicker_14 : decode cX11_trialFlicker 14 = .ok (.invokevirtual 326, 3) := by decide +kernel
theorem dX11_trialFlicker_17 : decode cX11_trialFlicker 17 = .ok (.aload_n 0, 1) := by decide +kernel
theorem dX11_trialFlicker_18 : decode cX11_trialFlicker 18 = .ok (.getfield 40, 3) := by decide +kernel
theorem dX11_trialFlicker_21 : decode cX11_trialFlicker 21 = .ok (.aload_n 0, 1) := by decide +kernel
theorem dX11_trialFlicker_22 : decode cX11_trialFlicker 22 = .ok (.getfield 37, 3) := by decide +kernel
theorem dX11_trialFlicker_25 : decode cX11_trialFlicker 25 = .ok (.invokevirtual 323, 3) := by decide +kernel
theorem dX11_trialFlicker_28 : decode cX11_trialFlicker 28 = .ok (.aload_n 0, 1) := by decide +kernel
theorem dX11_trialFlicker_29 : decode cX11_trialFlicker 29 = .ok (.getfield 40, 3) := by decide +kernel
theorem dX11_trialFlicker_32 : decode cX11_trialFlicker 32 = .ok (.aload_n 0, 1) := by decide +kernel
theorem dX11_trialFlicker_33 : decode cX11_trialFlicker 33 = .ok (.getfield 40, 3) := by decide +kernel
theorem dX11_trialFlicker_36 : decode cX11_trialFlicker 36 = .ok (.getfield 187, 3) := by decide +kernel
theorem dX11_trialFlicker_39 : decode cX11_trialFlicker 39 = .ok (.aload_n 0, 1) := by decide +kernel
theorem dX11_trialFlicker_40 : decode cX11_trialFlicker 40 = .ok (.getfield 37, 3) := by decide +kernel
theorem dX11_trialFlicker_43 : decode cX11_trialFlicker 43 = .ok (.getfield 89, 3) := by decide +kernel
theorem dX11_trialFlicker_46 : decode cX11_trialFlicker 46 = .ok (.invokevirtual 233, 3) := by decide +kernel
theorem dX11_trialFlicker_49 : decode cX11_trialFlicker 49 = .ok (.ireturn, 1) := by decide +kernel
theorem dX11_takeInTrial_0 : decode cX11_takeInTrial 0 = .ok (.aload_n 0, 1) := by decide +kernel
theorem dX11_takeInTrial_1 : decode cX11_takeInTrial 1 = .ok (.getfield 40, 3) := by decide +kernel
theorem dX11_takeInTrial_4 : decode cX11_takeInTrial 4 = .ok (.aload_n 0, 1) := by decide +kernel
theorem dX11_takeInTrial_5 : decode cX11_takeInTrial 5 = .ok (.getfield 37, 3) := by decide +kernel
theorem dX11_takeInTrial_8 : decode cX11_takeInTrial 8 = .ok (.invokevirtual 323, 3) := by decide +kernel
theorem dX11_takeInTrial_11 : decode cX11_takeInTrial 11 = .ok (.aload_n 0, 1) := by decide +kernel
theorem dX11_takeInTrial_12 : decode cX11_takeInTrial 12 = .ok (.getfield 40, 3) := by decide +kernel
theorem dX11_takeInTrial_15 : decode cX11_takeInTrial 15 = .ok (.aload_n 0, 1) := by decide +kernel
theorem dX11_takeInTrial_16 : decode cX11_takeInTrial 16 = .ok (.getfield 37, 3) := by decide +kernel
theorem dX11_takeInTrial_19 : decode cX11_takeInTrial 19 = .ok (.invokevirtual 149, 3) := by decide +kernel
theorem dX11_takeInTrial_22 : decode cX11_takeInTrial 22 = .ok (.istore_n 1, 1) := by decide +kernel
theorem dX11_takeInTrial_23 : decode cX11_takeInTrial 23 = .ok (.aload_n 0, 1) := by decide +kernel
theorem dX11_takeInTrial_24 : decode cX11_takeInTrial 24 = .ok (.getfield 37, 3) := by decide +kernel
theorem dX11_takeInTrial_27 : decode cX11_takeInTrial 27 = .ok (.aload_n 0, 1) := by decide +kernel
theorem dX11_takeInTrial_28 : decode cX11_takeInTrial 28 = .ok (.getfield 40, 3) := by decide +kernel
theorem dX11_takeInTrial_31 : decode cX11_takeInTrial 31 = .ok (.getfield 153, 3) := by decide +kernel
theorem dX11_takeInTrial_34 : decode cX11_takeInTrial 34 = .ok (.invokevirtual 154, 3) := by decide +kernel
theorem dX11_takeInTrial_37 : decode cX11_takeInTrial 37 = .ok (.aload_n 0, 1) := by decide +kernel
theorem dX11_takeInTrial_38 : decode cX11_takeInTrial 38 = .ok (.getfield 40, 3) := by decide +kernel
theorem dX11_takeInTrial_41 : decode cX11_takeInTrial 41 = .ok (.invokevirtual 316, 3) := by decide +kernel
theorem dX11_takeInTrial_44 : decode cX11_takeInTrial 44 = .ok (.iload_n 1, 1) := by decide +kernel
theorem dX11_takeInTrial_45 : decode cX11_takeInTrial 45 = .ok (.ireturn, 1) := by decide +kernel
theorem dX12_thrown_0 : decode cX12_thrown 0 = .ok (.aload_n 0, 1) := by decide +kernel
theorem dX12_thrown_1 : decode cX12_thrown 1 = .ok (.getfield 1, 3) := by decide +kernel
theorem dX12_thrown_4 : decode cX12_thrown 4 = .ok (.ireturn, 1) := by decide +kernel
theorem dX12_isIn_0 : decode cX12_isIn 0 = .ok (.lload_n 0, 1) := by decide +kernel
theorem dX12_isIn_1 : decode cX12_isIn 1 = .ok (.lload_n 2, 1) := by decide +kernel
theorem dX12_isIn_2 : decode cX12_isIn 2 = .ok (.lcmp, 1) := by decide +kernel
theorem dX12_isIn_3 : decode cX12_isIn 3 = .ok (.ifCond .lt 14, 3) := by decide +kernel
theorem dX12_isIn_6 : decode cX12_isIn 6 = .ok (.lload_n 0, 1) := by decide +kernel
theorem dX12_isIn_7 : decode cX12_isIn 7 = .ok (.lload 4, 2) := by decide +kernel
theorem dX12_isIn_9 : decode cX12_isIn 9 = .ok (.lcmp, 1) := by decide +kernel
theorem dX12_isIn_10 : decode cX12_isIn 10 = .ok (.ifCond .gt 7, 3) := by decide +kernel
theorem dX12_isIn_13 : decode cX12_isIn 13 = .ok (.iconst 1, 1) := by decide +kernel
theorem dX12_isIn_14 : decode cX12_isIn 14 = .ok (.goto 4, 3) := by decide +kernel
theorem dX12_isIn_17 : decode cX12_isIn 17 = .ok (.iconst 0, 1) := by decide +kernel
theorem dX12_isIn_18 : decode cX12_isIn 18 = .ok (.ireturn, 1) := by decide +kernel
theorem dX12_init_0 : decode cX12_init 0 = .ok (.aload_n 0, 1) := by decide +kernel
theorem dX12_init_1 : decode cX12_init 1 = .ok (.invokespecial 7, 3) := by decide +kernel
theorem dX12_init_4 : decode cX12_init 4 = .ok (.aload_n 0, 1) := by decide +kernel
theorem dX12_init_5 : decode cX12_init 5 = .ok (.sipush 1551, 3) := by decide +kernel
theorem dX12_init_8 : decode cX12_init 8 = .ok (.newarray .int, 2) := by decide +kernel
theorem dX12_init_10 : decode cX12_init 10 = .ok (.putfield 13, 3) := by decide +kernel
theorem dX12_init_13 : decode cX12_init 13 = .ok (.aload_n 0, 1) := by decide +kernel
theorem dX12_init_14 : decode cX12_init 14 = .ok (.sipush 1551, 3) := by decide +kernel
theorem dX12_init_17 : decode cX12_init 17 = .ok (.newarray .int, 2) := by decide +kernel
theorem dX12_init_19 : decode cX12_init 19 = .ok (.putfield 17, 3) := by decide +kernel
theorem dX12_init_22 : decode cX12_init 22 = .ok (.aload_n 0, 1) := by decide +kernel
theorem dX12_init_23 : decode cX12_init 23 = .ok (.sipush 12408, 3) := by decide +kernel
theorem dX12_init_26 : decode cX12_init 26 = .ok (.newarray .int, 2) := by decide +kernel
theorem dX12_init_28 : decode cX12_init 28 = .ok (.putfield 20, 3) := by decide +kernel
theorem dX12_init_31 : decode cX12_init 31 = .ok (.aload_n 0, 1) := by decide +kernel
theorem dX12_init_32 : decode cX12_init 32 = .ok (.sipush 900, 3) := by decide +kernel
theorem dX12_init_35 : decode cX12_init 35 = .ok (.newarray .byte, 2) := by decide +kernel
theorem dX12_init_37 : decode cX12_init 37 = .ok (.putfield 23, 3) := by decide +kernel
theorem dX12_init_40 : decode cX12_init 40 = .ok (.aload_n 0, 1) := by decide +kernel
theorem dX12_init_41 : decode cX12_init 41 = .ok (.iconst (-1), 1) := by decide +kernel
theorem dX12_init_42 : decode cX12_init 42 = .ok (.putfield 27, 3) := by decide +kernel
theorem dX12_init_45 : decode cX12_init 45 = .ok (.aload_n 0, 1) := by decide +kernel
theorem dX12_init_46 : decode cX12_init 46 = .ok (.sipush 384, 3) := by decide +kernel
theorem dX12_init_49 : decode cX12_init 49 = .ok (.newarray .int, 2) := by decide +kernel
theorem dX12_init_51 : decode cX12_init 51 = .ok (.putfield 30, 3) := by decide +kernel
theorem dX12_init_54 : decode cX12_init 54 = .ok (.aload_n 0, 1) := by decide +kernel
theorem dX12_init_55 : decode cX12_init 55 = .ok (.bipush 24, 2) := by decide +kernel
theorem dX12_init_57 : decode cX12_init 57 = .ok (.newarray .int, 2) := by decide +kernel
theorem dX12_init_59 : decode cX12_init 59 = .ok (.putfield 33, 3) := by decide +kernel
theorem dX12_init_62 : decode cX12_init 62 = .ok (.aload_n 0, 1) := by decide +kernel
theorem dX12_init_63 : decode cX12_init 63 = .ok (.bipush 24, 2) := by decide +kernel
theorem dX12_init_65 : decode cX12_init 65 = .ok (.newarray .boolean, 2) := by decide +kernel
theorem dX12_init_67 : decode cX12_init 67 = .ok (.putfield 36, 3) := by decide +kernel
theorem dX12_init_70 : decode cX12_init 70 = .ok (.aload_n 0, 1) := by decide +kernel
theorem dX12_init_71 : decode cX12_init 71 = .ok (.bipush 16, 2) := by decide +kernel
theorem dX12_init_73 : decode cX12_init 73 = .ok (.newarray .int, 2) := by decide +kernel
theorem dX12_init_75 : decode cX12_init 75 = .ok (.putfield 40, 3) := by decide +kernel
theorem dX12_init_78 : decode cX12_init 78 = .ok (.aload_n 0, 1) := by decide +kernel
theorem dX12_init_79 : decode cX12_init 79 = .ok (.bipush 16, 2) := by decide +kernel
theorem dX12_init_81 : decode cX12_init 81 = .ok (.newarray .int, 2) := by decide +kernel
theorem dX12_init_83 : decode cX12_init 83 = .ok (.putfield 43, 3) := by decide +kernel
theorem dX12_init_86 : decode cX12_init 86 = .ok (.aload_n 0, 1) := by decide +kernel
theorem dX12_init_87 : decode cX12_init 87 = .ok (.sipush 1536, 3) := by decide +kernel
theorem dX12_init_90 : decode cX12_init 90 = .ok (.newarray .int, 2) := by decide +kernel
theorem dX12_init_92 : decode cX12_init 92 = .ok (.putfield 46, 3) := by decide +kernel
theorem dX12_init_95 : decode cX12_init 95 = .ok (.aload_n 0, 1) := by decide +kernel
theorem dX12_init_96 : decode cX12_init 96 = .ok (.sipush 384, 3) := by decide +kernel
theorem dX12_init_99 : decode cX12_init 99 = .ok (.newarray .int, 2) := by decide +kernel
theorem dX12_init_101 : decode cX12_init 101 = .ok (.putfield 49, 3) := by decide +kernel
theorem dX12_init_104 : decode cX12_init 104 = .ok (.aload_n 0, 1) := by decide +kernel
theorem dX12_init_105 : decode cX12_init 105 = .ok (.bipush 64, 2) := by decide +kernel
theorem dX12_init_107 : decode cX12_init 107 = .ok (.newarray .int, 2) := by decide +kernel
theorem dX12_init_109 : decode cX12_init 109 = .ok (.putfield 52, 3) := by decide +kernel
theorem dX12_init_112 : decode cX12_init 112 = .ok (.aload_n 0, 1) := by decide +kernel
theorem dX12_init_113 : decode cX12_init 113 = .ok (.sipush 576, 3) := by decide +kernel
theorem dX12_init_116 : decode cX12_init 116 = .ok (.newarray .int, 2) := by decide +kernel
theorem dX12_init_118 : decode cX12_init 118 = .ok (.putfield 55, 3) := by decide +kernel
theorem dX12_init_121 : decode cX12_init 121 = .ok (.aload_n 0, 1) := by decide +kernel
theorem dX12_init_122 : decode cX12_init 122 = .ok (.sipush 225, 3) := by decide +kernel
theorem dX12_init_125 : decode cX12_init 125 = .ok (.newarray .int, 2) := by decide +kernel
theorem dX12_init_127 : decode cX12_init 127 = .ok (.putfield 58, 3) := by decide +kernel
theorem dX12_init_130 : decode cX12_init 130 = .ok (.aload_n 0, 1) := by decide +kernel
theorem dX12_init_131 : decode cX12_init 131 = .ok (.sipush 272, 3) := by decide +kernel
theorem dX12_init_134 : decode cX12_init 134 = .ok (.newarray .int, 2) := by decide +kernel
theorem dX12_init_136 : decode cX12_init 136 = .ok (.putfield 61, 3) := by decide +kernel
theorem dX12_init_139 : decode cX12_init 139 = .ok (.aload_n 0, 1) := by decide +kernel
theorem dX12_init_140 : decode cX12_init 140 = .ok (.invokevirtual 64, 3) := by decide +kernel
theorem dX12_init_143 : decode cX12_init 143 = .ok (.return_, 1) := by decide +kernel
theorem dX12_plain_0 : decode cX12_plain 0 = .ok (.iconst 0, 1) := by decide +kernel
theorem dX12_plain_1 : decode cX12_plain 1 = .ok (.istore_n 1, 1) := by decide +kernel
theorem dX12_plain_2 : decode cX12_plain 2 = .ok (.iload_n 1, 1) := by decide +kernel
theorem dX12_plain_3 : decode cX12_plain 3 = .ok (.sipush 1551, 3) := by decide +kernel
theorem dX12_plain_6 : decode cX12_plain 6 = .ok (.if_icmp .ge 16, 3) := by decide +kernel
theorem dX12_plain_9 : decode cX12_plain 9 = .ok (.aload_n 0, 1) := by decide +kernel
theorem dX12_plain_10 : decode cX12_plain 10 = .ok (.getfield 13, 3) := by decide +kernel
theorem dX12_plain_13 : decode cX12_plain 13 = .ok (.iload_n 1, 1) := by decide +kernel
theorem dX12_plain_14 : decode cX12_plain 14 = .ok (.iconst 0, 1) := by decide +kernel
theorem dX12_plain_15 : decode cX12_plain 15 = .ok (.iastore, 1) := by decide +kernel
theorem dX12_plain_16 : decode cX12_plain 16 = .ok (.iinc 1 1, 3) := by decide +kernel
theorem dX12_plain_19 : decode cX12_plain 19 = .ok (.goto (-17), 3) := by decide +kernel
theorem dX12_plain_22 : decode cX12_plain 22 = .ok (.aload_n 0, 1) := by decide +kernel
theorem dX12_plain_23 : decode cX12_plain 23 = .ok (.getfield 13, 3) := by decide +kernel
theorem dX12_plain_26 : decode cX12_plain 26 = .ok (.iconst 0, 1) := by decide +kernel
theorem dX12_plain_27 : decode cX12_plain 27 = .ok (.iconst 4, 1) := by decide +kernel
theorem dX12_plain_28 : decode cX12_plain 28 = .ok (.iastore, 1) := by decide +kernel
theorem dX12_plain_29 : decode cX12_plain 29 = .ok (.aload_n 0, 1) := by decide +kernel
theorem dX12_plain_30 : decode cX12_plain 30 = .ok (.getfield 13, 3) := by decide +kernel
theorem dX12_plain_33 : decode cX12_plain 33 = .ok (.iconst 1, 1) := by decide +kernel
theorem dX12_plain_34 : decode cX12_plain 34 = .ok (.iconst 4, 1) := by decide +kernel
theorem dX12_plain_35 : decode cX12_plain 35 = .ok (.iastore, 1) := by decide +kernel
theorem dX12_plain_36 : decode cX12_plain 36 = .ok (.aload_n 0, 1) := by decide +kernel
theorem dX12_plain_37 : decode cX12_plain 37 = .ok (.getfield 13, 3) := by decide +kernel
theorem dX12_plain_40 : decode cX12_plain 40 = .ok (.iconst 3, 1) := by decide +kernel
theorem dX12_plain_41 : decode cX12_plain 41 = .ok (.iconst 1, 1) := by decide +kernel
theorem dX12_plain_42 : decode cX12_plain 42 = .ok (.iastore, 1) := by decide +kernel
theorem dX12_plain_43 : decode cX12_plain 43 = .ok (.aload_n 0, 1) := by decide +kernel
theorem dX12_plain_44 : decode cX12_plain 44 = .ok (.getfield 13, 3) := by decide +kernel
theorem dX12_plain_47 : decode cX12_plain 47 = .ok (.iconst 5, 1) := by decide +kernel
theorem dX12_plain_48 : decode cX12_plain 48 = .ok (.bipush 15, 2) := by decide +kernel
theorem dX12_plain_50 : decode cX12_plain 50 = .ok (.iastore, 1) := by decide +kernel
theorem dX12_plain_51 : decode cX12_plain 51 = .ok (.aload_n 0, 1) := by decide +kernel
theorem dX12_plain_52 : decode cX12_plain 52 = .ok (.getfield 13, 3) := by decide +kernel
theorem dX12_plain_55 : decode cX12_plain 55 = .ok (.bipush 6, 2) := by decide +kernel
theorem dX12_plain_57 : decode cX12_plain 57 = .ok (.bipush 15, 2) := by decide +kernel
theorem dX12_plain_59 : decode cX12_plain 59 = .ok (.iastore, 1) := by decide +kernel
theorem dX12_plain_60 : decode cX12_plain 60 = .ok (.iconst 0, 1) := by decide +kernel
theorem dX12_plain_61 : decode cX12_plain 61 = .ok (.istore_n 1, 1) := by decide +kernel
theorem dX12_plain_62 : decode cX12_plain 62 = .ok (.iload_n 1, 1) := by decide +kernel
theorem dX12_plain_63 : decode cX12_plain 63 = .ok (.iconst 4, 1) := by decide +kernel
theorem dX12_plain_64 : decode cX12_plain 64 = .ok (.if_icmp .ge 19, 3) := by decide +kernel
theorem dX12_plain_67 : decode cX12_plain 67 = .ok (.aload_n 0, 1) := by decide +kernel
theorem dX12_plain_68 : decode cX12_plain 68 = .ok (.getfield 13, 3) := by decide +kernel
theorem dX12_plain_71 : decode cX12_plain 71 = .ok (.bipush 9, 2) := by decide +kernel
theorem dX12_plain_73 : decode cX12_plain 73 = .ok (.iload_n 1, 1) := by decide +kernel
theorem dX12_plain_74 : decode cX12_plain 74 = .ok (.iadd, 1) := by decide +kernel
theorem dX12_plain_75 : decode cX12_plain 75 = .ok (.iconst 1, 1) := by decide +kernel
theorem dX12_plain_76 : decode cX12_plain 76 = .ok (.iastore, 1) := by decide +kernel
theorem dX12_plain_77 : decode cX12_plain 77 = .ok (.iinc 1 1, 3) := by decide +kernel
theorem dX12_plain_80 : decode cX12_plain 80 = .ok (.goto (-18), 3) := by decide +kernel
theorem dX12_plain_83 : decode cX12_plain 83 = .ok (.return_, 1) := by decide +kernel
theorem dX12_feed_0 : decode cX12_feed 0 = .ok (.aload_n 0, 1) := by decide +kernel
theorem dX12_feed_1 : decode cX12_feed 1 = .ok (.iconst 0, 1) := by decide +kernel
theorem dX12_feed_2 : decode cX12_feed 2 = .ok (.putfield 1, 3) := by decide +kernel
theorem dX12_feed_5 : decode cX12_feed 5 = .ok (.aload_n 0, 1) := by decide +kernel
theorem dX12_feed_6 : decode cX12_feed 6 = .ok (.getfield 67, 3) := by decide +kernel
theorem dX12_feed_9 : decode cX12_feed 9 = .ok (.bipush 20, 2) := by decide +kernel
theorem dX12_feed_11 : decode cX12_feed 11 = .ok (.iadd, 1) := by decide +kernel
theorem dX12_feed_12 : decode cX12_feed 12 = .ok (.sipush 900, 3) := by decide +kernel
theorem dX12_feed_15 : decode cX12_feed 15 = .ok (.if_icmp .le 6, 3) := by decide +kernel
theorem dX12_feed_18 : decode cX12_feed 18 = .ok (.bipush (-4), 2) := by decide +kernel
theorem dX12_feed_20 : decode cX12_feed 20 = .ok (.ireturn, 1) := by decide +kernel
theorem dX12_feed_21 : decode cX12_feed 21 = .ok (.iconst 0, 1) := by decide +kernel
theorem dX12_feed_22 : decode cX12_feed 22 = .ok (.istore 6, 2) := by decide +kernel
theorem dX12_feed_24 : decode cX12_feed 24 = .ok (.iload 6, 2) := by decide +kernel
theorem dX12_feed_26 : decode cX12_feed 26 = .ok (.bipush 20, 2) := by decide +kernel
theorem dX12_feed_28 : decode cX12_feed 28 = .ok (.if_icmp .ge 90, 3) := by decide +kernel
theorem dX12_feed_31 : decode cX12_feed 31 = .ok (.iload 6, 2) := by decide +kernel
theorem dX12_feed_33 : decode cX12_feed 33 = .ok (.iconst 4, 1) := by decide +kernel
theorem dX12_feed_34 : decode cX12_feed 34 = .ok (.if_icmp .ge 7, 3) := by decide +kernel
theorem dX12_feed_37 : decode cX12_feed 37 = .ok (.iload_n 1, 1) := by decide +kernel
theorem dX12_feed_38 : decode cX12_feed 38 = .ok (.goto 39, 3) := by decide +kernel
theorem dX12_feed_41 : decode cX12_feed 41 = .ok (.iload 6, 2) := by decide +kernel
theorem dX12_feed_43 : decode cX12_feed 43 = .ok (.bipush 8, 2) := by decide +kernel
theorem dX12_feed_45 : decode cX12_feed 45 = .ok (.if_icmp .ge 7, 3) := by decide +kernel
theorem dX12_feed_48 : decode cX12_feed 48 = .ok (.iload_n 2, 1) := by decide +kernel
theorem dX12_feed_49 : decode cX12_feed 49 = .ok (.goto 28, 3) := by decide +kernel
theorem dX12_feed_52 : decode cX12_feed 52 = .ok (.iload 6, 2) := by decide +kernel
theorem dX12_feed_54 : decode cX12_feed 54 = .ok (.bipush 12, 2) := by decide +kernel
theorem dX12_feed_56 : decode cX12_feed 56 = .ok (.if_icmp .ge 7, 3) := by decide +kernel
theorem dX12_feed_59 : decode cX12_feed 59 = .ok (.iload_n 3, 1) := by decide +kernel
theorem dX12_feed_60 : decode cX12_feed 60 = .ok (.goto 17, 3) := by decide +kernel
theorem dX12_feed_63 : decode cX12_feed 63 = .ok (.iload 6, 2) := by decide +kernel
theorem dX12_feed_65 : decode cX12_feed 65 = .ok (.bipush 16, 2) := by decide +kernel
theorem dX12_feed_67 : decode cX12_feed 67 = .ok (.if_icmp .ge 8, 3) := by decide +kernel
theorem dX12_feed_70 : decode cX12_feed 70 = .ok (.iload 4, 2) := by decide +kernel
theorem dX12_feed_72 : decode cX12_feed 72 = .ok (.goto 5, 3) := by decide +kernel
theorem dX12_feed_75 : decode cX12_feed 75 = .ok (.iload 5, 2) := by decide +kernel
theorem dX12_feed_77 : decode cX12_feed 77 = .ok (.istore 7, 2) := by decide +kernel
theorem dX12_feed_79 : decode cX12_feed 79 = .ok (.aload_n 0, 1) := by decide +kernel
theorem dX12_feed_80 : decode cX12_feed 80 = .ok (.getfield 23, 3) := by decide +kernel
theorem dX12_feed_83 : decode cX12_feed 83 = .ok (.aload_n 0, 1) := by decide +kernel
theorem dX12_feed_84 : decode cX12_feed 84 = .ok (.getfield 67, 3) := by decide +kernel
theorem dX12_feed_87 : decode cX12_feed 87 = .ok (.iload 7, 2) := by decide +kernel
theorem dX12_feed_89 : decode cX12_feed 89 = .ok (.bipush 24, 2) := by decide +kernel
theorem dX12_feed_91 : decode cX12_feed 91 = .ok (.bipush 8, 2) := by decide +kernel
theorem dX12_feed_93 : decode cX12_feed 93 = .ok (.iload 6, 2) := by decide +kernel
theorem dX12_feed_95 : decode cX12_feed 95 = .ok (.iconst 4, 1) := by decide +kernel
theorem dX12_feed_96 : decode cX12_feed 96 = .ok (.irem, 1) := by decide +kernel
theorem dX12_feed_97 : decode cX12_feed 97 = .ok (.imul, 1) := by decide +kernel
theorem dX12_feed_98 : decode cX12_feed 98 = .ok (.isub, 1) := by decide +kernel
theorem dX12_feed_99 : decode cX12_feed 99 = .ok (.ishr, 1) := by decide +kernel
theorem dX12_feed_100 : decode cX12_feed 100 = .ok (.i2b, 1) := by decide +kernel
theorem dX12_feed_101 : decode cX12_feed 101 = .ok (.bastore, 1) := by decide +kernel
theorem dX12_feed_102 : decode cX12_feed 102 = .ok (.aload_n 0, 1) := by decide +kernel
theorem dX12_feed_103 : decode cX12_feed 103 = .ok (.dup, 1) := by decide +kernel
theorem dX12_feed_104 : decode cX12_feed 104 = .ok (.getfield 67, 3) := by decide +kernel
theorem dX12_feed_107 : decode cX12_feed 107 = .ok (.iconst 1, 1) := by decide +kernel
theorem dX12_feed_108 : decode cX12_feed 108 = .ok (.iadd, 1) := by decide +kernel
theorem dX12_feed_109 : decode cX12_feed 109 = .ok (.putfield 67, 3) := by decide +kernel
theorem dX12_feed_112 : decode cX12_feed 112 = .ok (.iinc 6 1, 3) := by decide +kernel
theorem dX12_feed_115 : decode cX12_feed 115 = .ok (.goto (-91), 3) := by decide +kernel
theorem dX12_feed_118 : decode cX12_feed 118 = .ok (.aload_n 0, 1) := by decide +kernel
theorem dX12_feed_119 : decode cX12_feed 119 = .ok (.getfield 67, 3) := by decide +kernel
theorem dX12_feed_122 : decode cX12_feed 122 = .ok (.ireturn, 1) := by decide +kernel
theorem dX12_peek_0 : decode cX12_peek 0 = .ok (.aload_n 0, 1) := by decide +kernel
theorem dX12_peek_1 : decode cX12_peek 1 = .ok (.getfield 70, 3) := by decide +kernel
theorem dX12_peek_4 : decode cX12_peek 4 = .ok (.aload_n 0, 1) := by decide +kernel
theorem dX12_peek_5 : decode cX12_peek 5 = .ok (.getfield 73, 3) := by decide +kernel
theorem dX12_peek_8 : decode cX12_peek 8 = .ok (.if_icmp .ge 30, 3) := by decide +kernel
theorem dX12_peek_11 : decode cX12_peek 11 = .ok (.aload_n 0, 1) := by decide +kernel
theorem dX12_peek_12 : decode cX12_peek 12 = .ok (.getfield 23, 3) := by decide +kernel
theorem dX12_peek_15 : decode cX12_peek 15 = .ok (.aload_n 0, 1) := by decide +kernel
theorem dX12_peek_16 : decode cX12_peek 16 = .ok (.getfield 70, 3) := by decide +kernel
theorem dX12_peek_19 : decode cX12_peek 19 = .ok (.baload, 1) := by decide +kernel
theorem dX12_peek_20 : decode cX12_peek 20 = .ok (.bipush 32, 2) := by decide +kernel
theorem dX12_peek_22 : decode cX12_peek 22 = .ok (.if_icmp .ne 16, 3) := by decide +kernel
theorem dX12_peek_25 : decode cX12_peek 25 = .ok (.aload_n 0, 1) := by decide +kernel
theorem dX12_peek_26 : decode cX12_peek 26 = .ok (.dup, 1) := by decide +kernel
theorem dX12_peek_27 : decode cX12_peek 27 = .ok (.getfield 70, 3) := by decide +kernel
theorem dX12_peek_30 : decode cX12_peek 30 = .ok (.iconst 1, 1) := by decide +kernel
theorem dX12_peek_31 : decode cX12_peek 31 = .ok (.iadd, 1) := by decide +kernel
theorem dX12_peek_32 : decode cX12_peek 32 = .ok (.putfield 70, 3) := by decide +kernel
theorem dX12_peek_35 : decode cX12_peek 35 = .ok (.goto (-35), 3) := by decide +kernel
theorem dX12_peek_38 : decode cX12_peek 38 = .ok (.aload_n 0, 1) := by decide +kernel
theorem dX12_peek_39 : decode cX12_peek 39 = .ok (.getfield 70, 3) := by decide +kernel
theorem dX12_peek_42 : decode cX12_peek 42 = .ok (.aload_n 0, 1) := by decide +kernel
theorem dX12_peek_43 : decode cX12_peek 43 = .ok (.getfield 73, 3) := by decide +kernel
theorem dX12_peek_46 : decode cX12_peek 46 = .ok (.if_icmp .ge 19, 3) := by decide +kernel
theorem dX12_peek_49 : decode cX12_peek 49 = .ok (.aload_n 0, 1) := by decide +kernel
theorem dX12_peek_50 : decode cX12_peek 50 = .ok (.getfield 23, 3) := by decide +kernel
theorem dX12_peek_53 : decode cX12_peek 53 = .ok (.aload_n 0, 1) := by decide +kernel
theorem dX12_peek_54 : decode cX12_peek 54 = .ok (.getfield 70, 3) := by decide +kernel
theorem dX12_peek_57 : decode cX12_peek 57 = .ok (.baload, 1) := by decide +kernel
theorem dX12_peek_58 : decode cX12_peek 58 = .ok (.sipush 255, 3) := by decide +kernel
theorem dX12_peek_61 : decode cX12_peek 61 = .ok (.iand, 1) := by decide +kernel
theorem dX12_peek_62 : decode cX12_peek 62 = .ok (.goto 4, 3) := by decide +kernel
theorem dX12_peek_65 : decode cX12_peek 65 = .ok (.iconst (-1), 1) := by decide +kernel
theorem dX12_peek_66 : decode cX12_peek 66 = .ok (.ireturn, 1) := by decide +kernel
theorem dX12_fails_0 : decode cX12_fails 0 = .ok (.aload_n 0, 1) := by decide +kernel
theorem dX12_fails_1 : decode cX12_fails 1 = .ok (.getfield 76, 3) := by decide +kernel
theorem dX12_fails_4 : decode cX12_fails 4 = .ok (.ifCond .eq 4, 3) := by decide +kernel
theorem dX12_fails_7 : decode cX12_fails 7 = .ok (.return_, 1) := by decide +kernel
theorem dX12_fails_8 : decode cX12_fails 8 = .ok (.aload_n 0, 1) := by decide +kernel
theorem dX12_fails_9 : decode cX12_fails 9 = .ok (.iload_n 1, 1) := by decide +kernel
theorem dX12_fails_10 : decode cX12_fails 10 = .ok (.putfield 76, 3) := by decide +kernel
theorem dX12_fails_13 : decode cX12_fails 13 = .ok (.aload_n 0, 1) := by decide +kernel
theorem dX12_fails_14 : decode cX12_fails 14 = .ok (.iload_n 2, 1) := by decide +kernel
theorem dX12_fails_15 : decode cX12_fails 15 = .ok (.putfield 27, 3) := by decide +kernel
theorem dX12_fails_18 : decode cX12_fails 18 = .ok (.return_, 1) := by decide +kernel
theorem dX12_isLetter_0 : decode cX12_isLetter 0 = .ok (.iload_n 0, 1) := by decide +kernel
theorem dX12_isLetter_1 : decode cX12_isLetter 1 = .ok (.i2l, 1) := by decide +kernel
theorem dX12_isLetter_2 : decode cX12_isLetter 2 = .ok (.ldc2_w 79, 3) := by decide +kernel
theorem dX12_isLetter_5 : decode cX12_isLetter 5 = .ok (.ldc2_w 81, 3) := by decide +kernel
theorem dX12_isLetter_8 : decode cX12_isLetter 8 = .ok (.invokestatic 83, 3) := by decide +kernel
theorem dX12_isLetter_11 : decode cX12_isLetter 11 = .ok (.ireturn, 1) := by decide +kernel
theorem dX12_isDigit_0 : decode cX12_isDigit 0 = .ok (.iload_n 0, 1) := by decide +kernel
theorem dX12_isDigit_1 : decode cX12_isDigit 1 = .ok (.i2l, 1) := by decide +kernel
theorem dX12_isDigit_2 : decode cX12_isDigit 2 = .ok (.ldc2_w 87, 3) := by decide +kernel
theorem dX12_isDigit_5 : decode cX12_isDigit 5 = .ok (.ldc2_w 89, 3) := by decide +kernel
theorem dX12_isDigit_8 : decode cX12_isDigit 8 = .ok (.invokestatic 83, 3) := by decide +kernel
theorem dX12_isDigit_11 : decode cX12_isDigit 11 = .ok (.ireturn, 1) := by decide +kernel
theorem dX12_lettersHere_0 : decode cX12_lettersHere 0 = .ok (.iconst 0, 1) := by decide +kernel
theorem dX12_lettersHere_1 : decode cX12_lettersHere 1 = .ok (.istore_n 1, 1) := by decide +kernel
theorem dX12_lettersHere_2 : decode cX12_lettersHere 2 = .ok (.aload_n 0, 1) := by decide +kernel
theorem dX12_lettersHere_3 : decode cX12_lettersHere 3 = .ok (.getfield 70, 3) := by decide +kernel
theorem dX12_lettersHere_6 : decode cX12_lettersHere 6 = .ok (.iload_n 1, 1) := by decide +kernel
theorem dX12_lettersHere_7 : decode cX12_lettersHere 7 = .ok (.iadd, 1) := by decide +kernel
theorem dX12_lettersHere_8 : decode cX12_lettersHere 8 = .ok (.aload_n 0, 1) := by decide +kernel
theorem dX12_lettersHere_9 : decode cX12_lettersHere 9 = .ok (.getfield 73, 3) := by decide +kernel
theorem dX12_lettersHere_12 : decode cX12_lettersHere 12 = .ok (.if_icmp .ge 26, 3) := by decide +kernel
theorem dX12_lettersHere_15 : decode cX12_lettersHere 15 = .ok (.aload_n 0, 1) := by decide +kernel
theorem dX12_lettersHere_16 : decode cX12_lettersHere 16 = .ok (.getfield 23, 3) := by decide +kernel
theorem dX12_lettersHere_19 : decode cX12_lettersHere 19 = .ok (.aload_n 0, 1) := by decide +kernel
theorem dX12_lettersHere_20 : decode cX12_lettersHere 20 = .ok (.getfield 70, 3) := by decide +kernel
theorem dX12_lettersHere_23 : decode cX12_lettersHere 23 = .ok (.iload_n 1, 1) := by decide +kernel
theorem dX12_lettersHere_24 : decode cX12_lettersHere 24 = .ok (.iadd, 1) := by decide +kernel
theorem dX12_lettersHere_25 : decode cX12_lettersHere 25 = .ok (.baload, 1) := by decide +kernel
theorem dX12_lettersHere_26 : decode cX12_lettersHere 26 = .ok (.invokestatic 91, 3) := by decide +kernel
theorem dX12_lettersHere_29 : decode cX12_lettersHere 29 = .ok (.ifCond .eq 9, 3) := by decide +kernel
theorem dX12_lettersHere_32 : decode cX12_lettersHere 32 = .ok (.iinc 1 1, 3) := by decide +kernel
theorem dX12_lettersHere_35 : decode cX12_lettersHere 35 = .ok (.goto (-33), 3) := by decide +kernel
theorem dX12_lettersHere_38 : decode cX12_lettersHere 38 = .ok (.iload_n 1, 1) := by decide +kernel
theorem dX12_lettersHere_39 : decode cX12_lettersHere 39 = .ok (.ireturn, 1) := by decide +kernel
theorem dX12_wordHere_0 : decode cX12_wordHere 0 = .ok (.aload_n 0, 1) := by decide +kernel
theorem dX12_wordHere_1 : decode cX12_wordHere 1 = .ok (.getfield 76, 3) := by decide +kernel
theorem dX12_wordHere_4 : decode cX12_wordHere 4 = .ok (.ifCond .ne 13, 3) := by decide +kernel
theorem dX12_wordHere_7 : decode cX12_wordHere 7 = .ok (.aload_n 0, 1) := by decide +kernel
theorem dX12_wordHere_8 : decode cX12_wordHere 8 = .ok (.invokevirtual 95, 3) := by decide +kernel
theorem dX12_wordHere_11 : decode cX12_wordHere 11 = .ok (.invokestatic 91, 3) := by decide +kernel
theorem dX12_wordHere_14 : decode cX12_wordHere 14 = .ok (.ifCond .ne 5, 3) := by decide +kernel
theorem dX12_wordHere_17 : decode cX12_wordHere 17 = .ok (.iconst (-1), 1) := by decide +kernel
theorem dX12_wordHere_18 : decode cX12_wordHere 18 = .ok (.ireturn, 1) := by decide +kernel
theorem dX12_wordHere_19 : decode cX12_wordHere 19 = .ok (.aload_n 0, 1) := by decide +kernel
theorem dX12_wordHere_20 : decode cX12_wordHere 20 = .ok (.invokevirtual 99, 3) := by decide +kernel
theorem dX12_wordHere_23 : decode cX12_wordHere 23 = .ok (.istore_n 1, 1) := by decide +kernel
theorem dX12_wordHere_24 : decode cX12_wordHere 24 = .ok (.iconst 0, 1) := by decide +kernel
theorem dX12_wordHere_25 : decode cX12_wordHere 25 = .ok (.istore_n 2, 1) := by decide +kernel
theorem dX12_wordHere_26 : decode cX12_wordHere 26 = .ok (.iconst 1, 1) := by decide +kernel
theorem dX12_wordHere_27 : decode cX12_wordHere 27 = .ok (.istore_n 3, 1) := by decide +kernel
theorem dX12_wordHere_28 : decode cX12_wordHere 28 = .ok (.iload_n 3, 1) := by decide +kernel
theorem dX12_wordHere_29 : decode cX12_wordHere 29 = .ok (.ldc 102, 2) := by decide +kernel
theorem dX12_wordHere_31 : decode cX12_wordHere 31 = .ok (.invokevirtual 104, 3) := by decide +kernel
theorem dX12_wordHere_34 : decode cX12_wordHere 34 = .ok (.if_icmp .ge 108, 3) := by decide +kernel
theorem dX12_wordHere_37 : decode cX12_wordHere 37 = .ok (.iload_n 3, 1) := by decide +kernel
theorem dX12_wordHere_38 : decode cX12_wordHere 38 = .ok (.istore 4, 2) := by decide +kernel
theorem dX12_wordHere_40 : decode cX12_wordHere 40 = .ok (.ldc 102, 2) := by decide +kernel
theorem dX12_wordHere_42 : decode cX12_wordHere 42 = .ok (.iload 4, 2) := by decide +kernel
theorem dX12_wordHere_44 : decode cX12_wordHere 44 = .ok (.invokevirtual 109, 3) := by decide +kernel
theorem dX12_wordHere_47 : decode cX12_wordHere 47 = .ok (.bipush 32, 2) := by decide +kernel
theorem dX12_wordHere_49 : decode cX12_wordHere 49 = .ok (.if_icmp .eq 9, 3) := by decide +kernel
theorem dX12_wordHere_52 : decode cX12_wordHere 52 = .ok (.iinc 4 1, 3) := by decide +kernel
theorem dX12_wordHere_55 : decode cX12_wordHere 55 = .ok (.goto (-15), 3) := by decide +kernel
theorem dX12_wordHere_58 : decode cX12_wordHere 58 = .ok (.iload 4, 2) := by decide +kernel
theorem dX12_wordHere_60 : decode cX12_wordHere 60 = .ok (.iload_n 3, 1) := by decide +kernel
theorem dX12_wordHere_61 : decode cX12_wordHere 61 = .ok (.isub, 1) := by decide +kernel
theorem dX12_wordHere_62 : decode cX12_wordHere 62 = .ok (.iload_n 1, 1) := by decide +kernel
theorem dX12_wordHere_63 : decode cX12_wordHere 63 = .ok (.if_icmp .ne 7, 3) := by decide +kernel
theorem dX12_wordHere_66 : decode cX12_wordHere 66 = .ok (.iconst 1, 1) := by decide +kernel
theorem dX12_wordHere_67 : decode cX12_wordHere 67 = .ok (.goto 4, 3) := by decide +kernel
theorem dX12_wordHere_70 : decode cX12_wordHere 70 = .ok (.iconst 0, 1) := by decide +kernel
theorem dX12_wordHere_71 : decode cX12_wordHere 71 = .ok (.istore 5, 2) := by decide +kernel
theorem dX12_wordHere_73 : decode cX12_wordHere 73 = .ok (.iconst 0, 1) := by decide +kernel
theorem dX12_wordHere_74 : decode cX12_wordHere 74 = .ok (.istore 6, 2) := by decide +kernel
theorem dX12_wordHere_76 : decode cX12_wordHere 76 = .ok (.iload 6, 2) := by decide +kernel
theorem dX12_wordHere_78 : decode cX12_wordHere 78 = .ok (.iload_n 1, 1) := by decide +kernel
theorem dX12_wordHere_79 : decode cX12_wordHere 79 = .ok (.if_icmp .ge 45, 3) := by decide +kernel
theorem dX12_wordHere_82 : decode cX12_wordHere 82 = .ok (.iload 5, 2) := by decide +kernel
theorem dX12_wordHere_84 : decode cX12_wordHere 84 = .ok (.ifCond .eq 40, 3) := by decide +kernel
theorem dX12_wordHere_87 : decode cX12_wordHere 87 = .ok (.ldc 102, 2) := by decide +kernel
theorem dX12_wordHere_89 : decode cX12_wordHere 89 = .ok (.iload_n 3, 1) := by decide +kernel
theorem dX12_wordHere_90 : decode cX12_wordHere 90 = .ok (.iload 6, 2) := by decide +kernel
theorem dX12_wordHere_92 : decode cX12_wordHere 92 = .ok (.iadd, 1) := by decide +kernel
theorem dX12_wordHere_93 : decode cX12_wordHere 93 = .ok (.invokevirtual 109, 3) := by decide +kernel
theorem dX12_wordHere_96 : decode cX12_wordHere 96 = .ok (.aload_n 0, 1) := by decide +kernel
theorem dX12_wordHere_97 : decode cX12_wordHere 97 = .ok (.getfield 23, 3) := by decide +kernel
theorem dX12_wordHere_100 : decode cX12_wordHere 100 = .ok (.aload_n 0, 1) := by decide +kernel
theorem dX12_wordHere_101 : decode cX12_wordHere 101 = .ok (.getfield 70, 3) := by decide +kernel
theorem dX12_wordHere_104 : decode cX12_wordHere 104 = .ok (.iload 6, 2) := by decide +kernel
theorem dX12_wordHere_106 : decode cX12_wordHere 106 = .ok (.iadd, 1) := by decide +kernel
theorem dX12_wordHere_107 : decode cX12_wordHere 107 = .ok (.baload, 1) := by decide +kernel
theorem dX12_wordHere_108 : decode cX12_wordHere 108 = .ok (.if_icmp .ne 7, 3) := by decide +kernel
theorem dX12_wordHere_111 : decode cX12_wordHere 111 = .ok (.iconst 1, 1) := by decide +kernel
theorem dX12_wordHere_112 : decode cX12_wordHere 112 = .ok (.goto 4, 3) := by decide +kernel
theorem dX12_wordHere_115 : decode cX12_wordHere 115 = .ok (.iconst 0, 1) := by decide +kernel
theorem dX12_wordHere_116 : decode cX12_wordHere 116 = .ok (.istore 5, 2) := by decide +kernel
theorem dX12_wordHere_118 : decode cX12_wordHere 118 = .ok (.iinc 6 1, 3) := by decide +kernel
theorem dX12_wordHere_121 : decode cX12_wordHere 121 = .ok (.goto (-45), 3) := by decide +kernel
theorem dX12_wordHere_124 : decode cX12_wordHere 124 = .ok (.iload 5, 2) := by decide +kernel
theorem dX12_wordHere_126 : decode cX12_wordHere 126 = .ok (.ifCond .eq 5, 3) := by decide +kernel
theorem dX12_wordHere_129 : decode cX12_wordHere 129 = .ok (.iload_n 2, 1) := by decide +kernel
theorem dX12_wordHere_130 : decode cX12_wordHere 130 = .ok (.ireturn, 1) := by decide +kernel
theorem dX12_wordHere_131 : decode cX12_wordHere 131 = .ok (.iinc 2 1, 3) := by decide +kernel
theorem dX12_wordHere_134 : decode cX12_wordHere 134 = .ok (.iload 4, 2) := by decide +kernel
theorem dX12_wordHere_136 : decode cX12_wordHere 136 = .ok (.iconst 1, 1) := by decide +kernel
theorem dX12_wordHere_137 : decode cX12_wordHere 137 = .ok (.iadd, 1) := by decide +kernel
theorem dX12_wordHere_138 : decode cX12_wordHere 138 = .ok (.istore_n 3, 1) := by decide +kernel
theorem dX12_wordHere_139 : decode cX12_wordHere 139 = .ok (.goto (-111), 3) := by decide +kernel
theorem dX12_wordHere_142 : decode cX12_wordHere 142 = .ok (.iconst (-1), 1) := by decide +kernel
theorem dX12_wordHere_143 : decode cX12_wordHere 143 = .ok (.ireturn, 1) := by decide +kernel
theorem dX12_numeral_0 : decode cX12_numeral 0 = .ok (.aload_n 0, 1) := by decide +kernel
theorem dX12_numeral_1 : decode cX12_numeral 1 = .ok (.getfield 76, 3) := by decide +kernel
theorem dX12_numeral_4 : decode cX12_numeral 4 = .ok (.ifCond .eq 5, 3) := by decide +kernel
theorem dX12_numeral_7 : decode cX12_numeral 7 = .ok (.iload_n 1, 1) := by decide +kernel
theorem dX12_numeral_8 : decode cX12_numeral 8 = .ok (.ireturn, 1) := by decide +kernel
theorem dX12_numeral_9 : decode cX12_numeral 9 = .ok (.aload_n 0, 1) := by decide +kernel
theorem dX12_numeral_10 : decode cX12_numeral 10 = .ok (.invokevirtual 95, 3) := by decide +kernel
theorem dX12_numeral_13 : decode cX12_numeral 13 = .ok (.invokestatic 113, 3) := by decide +kernel
theorem dX12_numeral_16 : decode cX12_numeral 16 = .ok (.ifCond .ne 14, 3) := by decide +kernel
theorem dX12_numeral_19 : decode cX12_numeral 19 = .ok (.aload_n 0, 1) := by decide +kernel
theorem dX12_numeral_20 : decode cX12_numeral 20 = .ok (.iconst 1, 1) := by decide +kernel
theorem dX12_numeral_21 : decode cX12_numeral 21 = .ok (.aload_n 0, 1) := by decide +kernel
theorem dX12_numeral_22 : decode cX12_numeral 22 = .ok (.getfield 70, 3) := by decide +kernel
theorem dX12_numeral_25 : decode cX12_numeral 25 = .ok (.invokevirtual 116, 3) := by decide +kernel
theorem dX12_numeral_28 : decode cX12_numeral 28 = .ok (.iload_n 1, 1) := by decide +kernel
theorem dX12_numeral_29 : decode cX12_numeral 29 = .ok (.ireturn, 1) := by decide +kernel
theorem dX12_numeral_30 : decode cX12_numeral 30 = .ok (.aload_n 0, 1) := by decide +kernel
theorem dX12_numeral_31 : decode cX12_numeral 31 = .ok (.aload_n 0, 1) := by decide +kernel
theorem dX12_numeral_32 : decode cX12_numeral 32 = .ok (.getfield 70, 3) := by decide +kernel
theorem dX12_numeral_35 : decode cX12_numeral 35 = .ok (.putfield 120, 3) := by decide +kernel
theorem dX12_numeral_38 : decode cX12_numeral 38 = .ok (.iconst 0, 1) := by decide +kernel
theorem dX12_numeral_39 : decode cX12_numeral 39 = .ok (.istore_n 3, 1) := by decide +kernel
theorem dX12_numeral_40 : decode cX12_numeral 40 = .ok (.aload_n 0, 1) := by decide +kernel
theorem dX12_numeral_41 : decode cX12_numeral 41 = .ok (.getfield 70, 3) := by decide +kernel
theorem dX12_numeral_44 : decode cX12_numeral 44 = .ok (.aload_n 0, 1) := by decide +kernel
theorem dX12_numeral_45 : decode cX12_numeral 45 = .ok (.getfield 73, 3) := by decide +kernel
theorem dX12_numeral_48 : decode cX12_numeral 48 = .ok (.if_icmp .ge 62, 3) := by decide +kernel
theorem dX12_numeral_51 : decode cX12_numeral 51 = .ok (.aload_n 0, 1) := by decide +kernel
theorem dX12_numeral_52 : decode cX12_numeral 52 = .ok (.getfield 23, 3) := by decide +kernel
theorem dX12_numeral_55 : decode cX12_numeral 55 = .ok (.aload_n 0, 1) := by decide +kernel
theorem dX12_numeral_56 : decode cX12_numeral 56 = .ok (.getfield 70, 3) := by decide +kernel
theorem dX12_numeral_59 : decode cX12_numeral 59 = .ok (.baload, 1) := by decide +kernel
theorem dX12_numeral_60 : decode cX12_numeral 60 = .ok (.invokestatic 113, 3) := by decide +kernel
theorem dX12_numeral_63 : decode cX12_numeral 63 = .ok (.ifCond .eq 47, 3) := by decide +kernel
theorem dX12_numeral_66 : decode cX12_numeral 66 = .ok (.aload_n 0, 1) := by decide +kernel
theorem dX12_numeral_67 : decode cX12_numeral 67 = .ok (.getfield 70, 3) := by decide +kernel
theorem dX12_numeral_70 : decode cX12_numeral 70 = .ok (.aload_n 0, 1) := by decide +kernel
theorem dX12_numeral_71 : decode cX12_numeral 71 = .ok (.getfield 120, 3) := by decide +kernel
theorem dX12_numeral_74 : decode cX12_numeral 74 = .ok (.isub, 1) := by decide +kernel
theorem dX12_numeral_75 : decode cX12_numeral 75 = .ok (.iconst 3, 1) := by decide +kernel
theorem dX12_numeral_76 : decode cX12_numeral 76 = .ok (.if_icmp .ge 21, 3) := by decide +kernel
theorem dX12_numeral_79 : decode cX12_numeral 79 = .ok (.bipush 10, 2) := by decide +kernel
theorem dX12_numeral_81 : decode cX12_numeral 81 = .ok (.iload_n 3, 1) := by decide +kernel
theorem dX12_numeral_82 : decode cX12_numeral 82 = .ok (.imul, 1) := by decide +kernel
theorem dX12_numeral_83 : decode cX12_numeral 83 = .ok (.aload_n 0, 1) := by decide +kernel
theorem dX12_numeral_84 : decode cX12_numeral 84 = .ok (.getfield 23, 3) := by decide +kernel
theorem dX12_numeral_87 : decode cX12_numeral 87 = .ok (.aload_n 0, 1) := by decide +kernel
theorem dX12_numeral_88 : decode cX12_numeral 88 = .ok (.getfield 70, 3) := by decide +kernel
theorem dX12_numeral_91 : decode cX12_numeral 91 = .ok (.baload, 1) := by decide +kernel
theorem dX12_numeral_92 : decode cX12_numeral 92 = .ok (.iadd, 1) := by decide +kernel
theorem dX12_numeral_93 : decode cX12_numeral 93 = .ok (.bipush 48, 2) := by decide +kernel
theorem dX12_numeral_95 : decode cX12_numeral 95 = .ok (.isub, 1) := by decide +kernel
theorem dX12_numeral_96 : decode cX12_numeral 96 = .ok (.istore_n 3, 1) := by decide +kernel
theorem dX12_numeral_97 : decode cX12_numeral 97 = .ok (.aload_n 0, 1) := by decide +kernel
theorem dX12_numeral_98 : decode cX12_numeral 98 = .ok (.dup, 1) := by decide +kernel
theorem dX12_numeral_99 : decode cX12_numeral 99 = .ok (.getfield 70, 3) := by decide +kernel
theorem dX12_numeral_102 : decode cX12_numeral 102 = .ok (.iconst 1, 1) := by decide +kernel
theorem dX12_numeral_103 : decode cX12_numeral 103 = .ok (.iadd, 1) := by decide +kernel
theorem dX12_numeral_104 : decode cX12_numeral 104 = .ok (.putfield 70, 3) := by decide +kernel
theorem dX12_numeral_107 : decode cX12_numeral 107 = .ok (.goto (-67), 3) := by decide +kernel
theorem dX12_numeral_110 : decode cX12_numeral 110 = .ok (.aload_n 0, 1) := by decide +kernel
theorem dX12_numeral_111 : decode cX12_numeral 111 = .ok (.getfield 70, 3) := by decide +kernel
theorem dX12_numeral_114 : decode cX12_numeral 114 = .ok (.aload_n 0, 1) := by decide +kernel
theorem dX12_numeral_115 : decode cX12_numeral 115 = .ok (.getfield 120, 3) := by decide +kernel
theorem dX12_numeral_118 : decode cX12_numeral 118 = .ok (.isub, 1) := by decide +kernel
theorem dX12_numeral_119 : decode cX12_numeral 119 = .ok (.iconst 3, 1) := by decide +kernel
theorem dX12_numeral_120 : decode cX12_numeral 120 = .ok (.if_icmp .gt 15, 3) := by decide +kernel
theorem dX12_numeral_123 : decode cX12_numeral 123 = .ok (.iload_n 3, 1) := by decide +kernel
theorem dX12_numeral_124 : decode cX12_numeral 124 = .ok (.i2l, 1) := by decide +kernel
theorem dX12_numeral_125 : decode cX12_numeral 125 = .ok (.iload_n 1, 1) := by decide +kernel
theorem dX12_numeral_126 : decode cX12_numeral 126 = .ok (.i2l, 1) := by decide +kernel
theorem dX12_numeral_127 : decode cX12_numeral 127 = .ok (.iload_n 2, 1) := by decide +kernel
theorem dX12_numeral_128 : decode cX12_numeral 128 = .ok (.i2l, 1) := by decide +kernel
theorem dX12_numeral_129 : decode cX12_numeral 129 = .ok (.invokestatic 83, 3) := by decide +kernel
theorem dX12_numeral_132 : decode cX12_numeral 132 = .ok (.ifCond .ne 12, 3) := by decide +kernel
theorem dX12_numeral_135 : decode cX12_numeral 135 = .ok (.aload_n 0, 1) := by decide +kernel
theorem dX12_numeral_136 : decode cX12_numeral 136 = .ok (.iconst 2, 1) := by decide +kernel
theorem dX12_numeral_137 : decode cX12_numeral 137 = .ok (.aload_n 0, 1) := by decide +kernel
theorem dX12_numeral_138 : decode cX12_numeral 138 = .ok (.getfield 120, 3) := by decide +kernel
theorem dX12_numeral_141 : decode cX12_numeral 141 = .ok (.invokevirtual 116, 3) := by decide +kernel
theorem dX12_numeral_144 : decode cX12_numeral 144 = .ok (.aload_n 0, 1) := by decide +kernel
theorem dX12_numeral_145 : decode cX12_numeral 145 = .ok (.getfield 76, 3) := by decide +kernel
theorem dX12_numeral_148 : decode cX12_numeral 148 = .ok (.ifCond .ne 7, 3) := by decide +kernel
theorem dX12_numeral_151 : decode cX12_numeral 151 = .ok (.iload_n 3, 1) := by decide +kernel
theorem dX12_numeral_152 : decode cX12_numeral 152 = .ok (.goto 4, 3) := by decide +kernel
theorem dX12_numeral_155 : decode cX12_numeral 155 = .ok (.iload_n 1, 1) := by decide +kernel
theorem dX12_numeral_156 : decode cX12_numeral 156 = .ok (.ireturn, 1) := by decide +kernel
theorem dX12_dots_0 : decode cX12_dots 0 = .ok (.aload_n 0, 1) := by decide +kernel
theorem dX12_dots_1 : decode cX12_dots 1 = .ok (.getfield 13, 3) := by decide +kernel
theorem dX12_dots_4 : decode cX12_dots 4 = .ok (.iconst 0, 1) := by decide +kernel
theorem dX12_dots_5 : decode cX12_dots 5 = .ok (.iaload, 1) := by decide +kernel
theorem dX12_dots_6 : decode cX12_dots 6 = .ok (.aload_n 0, 1) := by decide +kernel
theorem dX12_dots_7 : decode cX12_dots 7 = .ok (.getfield 13, 3) := by decide +kernel
theorem dX12_dots_10 : decode cX12_dots 10 = .ok (.iconst 1, 1) := by decide +kernel
theorem dX12_dots_11 : decode cX12_dots 11 = .ok (.iaload, 1) := by decide +kernel
theorem dX12_dots_12 : decode cX12_dots 12 = .ok (.imul, 1) := by decide +kernel
theorem dX12_dots_13 : decode cX12_dots 13 = .ok (.ireturn, 1) := by decide +kernel
theorem dX12_frameRead_0 : decode cX12_frameRead 0 = .ok (.iconst 0, 1) := by decide +kernel
theorem dX12_frameRead_1 : decode cX12_frameRead 1 = .ok (.istore_n 1, 1) := by decide +kernel
theorem dX12_frameRead_2 : decode cX12_frameRead 2 = .ok (.aload_n 0, 1) := by decide +kernel
theorem dX12_frameRead_3 : decode cX12_frameRead 3 = .ok (.getfield 13, 3) := by decide +kernel
theorem dX12_frameRead_6 : decode cX12_frameRead 6 = .ok (.iconst 2, 1) := by decide +kernel
theorem dX12_frameRead_7 : decode cX12_frameRead 7 = .ok (.iaload, 1) := by decide +kernel
theorem dX12_frameRead_8 : decode cX12_frameRead 8 = .ok (.istore_n 2, 1) := by decide +kernel
theorem dX12_frameRead_9 : decode cX12_frameRead 9 = .ok (.aload_n 0, 1) := by decide +kernel
theorem dX12_frameRead_10 : decode cX12_frameRead 10 = .ok (.getfield 76, 3) := by decide +kernel
theorem dX12_frameRead_13 : decode cX12_frameRead 13 = .ok (.ifCond .ne 163, 3) := by decide +kernel
theorem dX12_frameRead_16 : decode cX12_frameRead 16 = .ok (.iload_n 1, 1) := by decide +kernel
theorem dX12_frameRead_17 : decode cX12_frameRead 17 = .ok (.ifCond .eq 12, 3) := by decide +kernel
theorem dX12_frameRead_20 : decode cX12_frameRead 20 = .ok (.aload_n 0, 1) := by decide +kernel
theorem dX12_frameRead_21 : decode cX12_frameRead 21 = .ok (.invokevirtual 95, 3) := by decide +kernel
theorem dX12_frameRead_24 : decode cX12_frameRead 24 = .ok (.bipush 59, 2) := by decide +kernel
theorem dX12_frameRead_26 : decode cX12_frameRead 26 = .ok (.if_icmp .eq 150, 3) := by decide +kernel
theorem dX12_frameRead_29 : decode cX12_frameRead 29 = .ok (.aload_n 0, 1) := by decide +kernel
theorem dX12_frameRead_30 : decode cX12_frameRead 30 = .ok (.invokevirtual 95, 3) := by decide +kernel
theorem dX12_frameRead_33 : decode cX12_frameRead 33 = .ok (.i2l, 1) := by decide +kernel
theorem dX12_frameRead_34 : decode cX12_frameRead 34 = .ok (.ldc2_w 79, 3) := by decide +kernel
theorem dX12_frameRead_37 : decode cX12_frameRead 37 = .ok (.ldc2_w 123, 3) := by decide +kernel
theorem dX12_frameRead_40 : decode cX12_frameRead 40 = .ok (.invokestatic 83, 3) := by decide +kernel
theorem dX12_frameRead_43 : decode cX12_frameRead 43 = .ok (.ifCond .ne 12, 3) := by decide +kernel
theorem dX12_frameRead_46 : decode cX12_frameRead 46 = .ok (.aload_n 0, 1) := by decide +kernel
theorem dX12_frameRead_47 : decode cX12_frameRead 47 = .ok (.iconst 1, 1) := by decide +kernel
theorem dX12_frameRead_48 : decode cX12_frameRead 48 = .ok (.aload_n 0, 1) := by decide +kernel
theorem dX12_frameRead_49 : decode cX12_frameRead 49 = .ok (.getfield 70, 3) := by decide +kernel
theorem dX12_frameRead_52 : decode cX12_frameRead 52 = .ok (.invokevirtual 116, 3) := by decide +kernel
theorem dX12_frameRead_55 : decode cX12_frameRead 55 = .ok (.aload_n 0, 1) := by decide +kernel
theorem dX12_frameRead_56 : decode cX12_frameRead 56 = .ok (.getfield 70, 3) := by decide +kernel
theorem dX12_frameRead_59 : decode cX12_frameRead 59 = .ok (.istore_n 3, 1) := by decide +kernel
theorem dX12_frameRead_60 : decode cX12_frameRead 60 = .ok (.aload_n 0, 1) := by decide +kernel
theorem dX12_frameRead_61 : decode cX12_frameRead 61 = .ok (.invokevirtual 95, 3) := by decide +kernel
theorem dX12_frameRead_64 : decode cX12_frameRead 64 = .ok (.bipush 97, 2) := by decide +kernel
theorem dX12_frameRead_66 : decode cX12_frameRead 66 = .ok (.isub, 1) := by decide +kernel
theorem dX12_frameRead_67 : decode cX12_frameRead 67 = .ok (.istore 4, 2) := by decide +kernel
theorem dX12_frameRead_69 : decode cX12_frameRead 69 = .ok (.aload_n 0, 1) := by decide +kernel
theorem dX12_frameRead_70 : decode cX12_frameRead 70 = .ok (.dup, 1) := by decide +kernel
theorem dX12_frameRead_71 : decode cX12_frameRead 71 = .ok (.getfield 70, 3) := by decide +kernel
theorem dX12_frameRead_74 : decode cX12_frameRead 74 = .ok (.iconst 1, 1) := by decide +kernel
theorem dX12_frameRead_75 : decode cX12_frameRead 75 = .ok (.iadd, 1) := by decide +kernel
theorem dX12_frameRead_76 : decode cX12_frameRead 76 = .ok (.putfield 70, 3) := by decide +kernel
theorem dX12_frameRead_79 : decode cX12_frameRead 79 = .ok (.aload_n 0, 1) := by decide +kernel
theorem dX12_frameRead_80 : decode cX12_frameRead 80 = .ok (.invokevirtual 95, 3) := by decide +kernel
theorem dX12_frameRead_83 : decode cX12_frameRead 83 = .ok (.invokestatic 113, 3) := by decide +kernel
theorem dX12_frameRead_86 : decode cX12_frameRead 86 = .ok (.ifCond .eq 13, 3) := by decide +kernel
theorem dX12_frameRead_89 : decode cX12_frameRead 89 = .ok (.aload_n 0, 1) := by decide +kernel
theorem dX12_frameRead_90 : decode cX12_frameRead 90 = .ok (.iconst 1, 1) := by decide +kernel
theorem dX12_frameRead_91 : decode cX12_frameRead 91 = .ok (.bipush 64, 2) := by decide +kernel
theorem dX12_frameRead_93 : decode cX12_frameRead 93 = .ok (.invokevirtual 125, 3) := by decide +kernel
theorem dX12_frameRead_96 : decode cX12_frameRead 96 = .ok (.goto 4, 3) := by decide +kernel
theorem dX12_frameRead_99 : decode cX12_frameRead 99 = .ok (.iconst 1, 1) := by decide +kernel
theorem dX12_frameRead_100 : decode cX12_frameRead 100 = .ok (.istore 5, 2) := by decide +kernel
theorem dX12_frameRead_102 : decode cX12_frameRead 102 = .ok (.aload_n 0, 1) := by decide +kernel
theorem dX12_frameRead_103 : decode cX12_frameRead 103 = .ok (.getfield 76, 3) := by decide +kernel
theorem dX12_frameRead_106 : decode cX12_frameRead 106 = .ok (.ifCond .ne 20, 3) := by decide +kernel
theorem dX12_frameRead_109 : decode cX12_frameRead 109 = .ok (.iload_n 1, 1) := by decide +kernel
theorem dX12_frameRead_110 : decode cX12_frameRead 110 = .ok (.iload 5, 2) := by decide +kernel
theorem dX12_frameRead_112 : decode cX12_frameRead 112 = .ok (.iadd, 1) := by decide +kernel
theorem dX12_frameRead_113 : decode cX12_frameRead 113 = .ok (.aload_n 0, 1) := by decide +kernel
theorem dX12_frameRead_114 : decode cX12_frameRead 114 = .ok (.invokevirtual 129, 3) := by decide +kernel
theorem dX12_frameRead_117 : decode cX12_frameRead 117 = .ok (.if_icmp .le 9, 3) := by decide +kernel
theorem dX12_frameRead_120 : decode cX12_frameRead 120 = .ok (.aload_n 0, 1) := by decide +kernel
theorem dX12_frameRead_121 : decode cX12_frameRead 121 = .ok (.iconst 3, 1) := by decide +kernel
theorem dX12_frameRead_122 : decode cX12_frameRead 122 = .ok (.iload_n 3, 1) := by decide +kernel
theorem dX12_frameRead_123 : decode cX12_frameRead 123 = .ok (.invokevirtual 116, 3) := by decide +kernel
theorem dX12_frameRead_126 : decode cX12_frameRead 126 = .ok (.iconst 0, 1) := by decide +kernel
theorem dX12_frameRead_127 : decode cX12_frameRead 127 = .ok (.istore 6, 2) := by decide +kernel
theorem dX12_frameRead_129 : decode cX12_frameRead 129 = .ok (.iload 6, 2) := by decide +kernel
theorem dX12_frameRead_131 : decode cX12_frameRead 131 = .ok (.iload 5, 2) := by decide +kernel
theorem dX12_frameRead_133 : decode cX12_frameRead 133 = .ok (.if_icmp .ge 35, 3) := by decide +kernel
theorem dX12_frameRead_136 : decode cX12_frameRead 136 = .ok (.aload_n 0, 1) := by decide +kernel
theorem dX12_frameRead_137 : decode cX12_frameRead 137 = .ok (.getfield 76, 3) := by decide +kernel
theorem dX12_frameRead_140 : decode cX12_frameRead 140 = .ok (.ifCond .ne 28, 3) := by decide +kernel
theorem dX12_frameRead_143 : decode cX12_frameRead 143 = .ok (.aload_n 0, 1) := by decide +kernel
theorem dX12_frameRead_144 : decode cX12_frameRead 144 = .ok (.getfield 13, 3) := by decide +kernel
theorem dX12_frameRead_147 : decode cX12_frameRead 147 = .ok (.bipush 15, 2) := by decide +kernel
theorem dX12_frameRead_149 : decode cX12_frameRead 149 = .ok (.bipush 64, 2) := by decide +kernel
theorem dX12_frameRead_151 : decode cX12_frameRead 151 = .ok (.iload_n 2, 1) := by decide +kernel
theorem dX12_frameRead_152 : decode cX12_frameRead 152 = .ok (.imul, 1) := by decide +kernel
theorem dX12_frameRead_153 : decode cX12_frameRead 153 = .ok (.iadd, 1) := by decide +kernel
theorem dX12_frameRead_154 : decode cX12_frameRead 154 = .ok (.iload_n 1, 1) := by decide +kernel
theorem dX12_frameRead_155 : decode cX12_frameRead 155 = .ok (.iadd, 1) := by decide +kernel
theorem dX12_frameRead_156 : decode cX12_frameRead 156 = .ok (.iload 6, 2) := by decide +kernel
theorem dX12_frameRead_158 : decode cX12_frameRead 158 = .ok (.iadd, 1) := by decide +kernel
theorem dX12_frameRead_159 : decode cX12_frameRead 159 = .ok (.iload 4, 2) := by decide +kernel
theorem dX12_frameRead_161 : decode cX12_frameRead 161 = .ok (.iastore, 1) := by decide +kernel
theorem dX12_frameRead_162 : decode cX12_frameRead 162 = .ok (.iinc 6 1, 3) := by decide +kernel
theorem dX12_frameRead_165 : decode cX12_frameRead 165 = .ok (.goto (-36), 3) := by decide +kernel
theorem dX12_frameRead_168 : decode cX12_frameRead 168 = .ok (.iload_n 1, 1) := by decide +kernel
theorem dX12_frameRead_169 : decode cX12_frameRead 169 = .ok (.iload 5, 2) := by decide +kernel
theorem dX12_frameRead_171 : decode cX12_frameRead 171 = .ok (.iadd, 1) := by decide +kernel
theorem dX12_frameRead_172 : decode cX12_frameRead 172 = .ok (.istore_n 1, 1) := by decide +kernel
theorem dX12_frameRead_173 : decode cX12_frameRead 173 = .ok (.goto (-164), 3) := by decide +kernel
theorem dX12_frameRead_176 : decode cX12_frameRead 176 = .ok (.aload_n 0, 1) := by decide +kernel
theorem dX12_frameRead_177 : decode cX12_frameRead 177 = .ok (.getfield 76, 3) := by decide +kernel
theorem dX12_frameRead_180 : decode cX12_frameRead 180 = .ok (.ifCond .ne 20, 3) := by decide +kernel
theorem dX12_frameRead_183 : decode cX12_frameRead 183 = .ok (.iload_n 1, 1) := by decide +kernel
theorem dX12_frameRead_184 : decode cX12_frameRead 184 = .ok (.aload_n 0, 1) := by decide +kernel
theorem dX12_frameRead_185 : decode cX12_frameRead 185 = .ok (.invokevirtual 129, 3) := by decide +kernel
theorem dX12_frameRead_188 : decode cX12_frameRead 188 = .ok (.if_icmp .ge 12, 3) := by decide +kernel
theorem dX12_frameRead_191 : decode cX12_frameRead 191 = .ok (.aload_n 0, 1) := by decide +kernel
theorem dX12_frameRead_192 : decode cX12_frameRead 192 = .ok (.iconst 4, 1) := by decide +kernel
theorem dX12_frameRead_193 : decode cX12_frameRead 193 = .ok (.aload_n 0, 1) := by decide +kernel
theorem dX12_frameRead_194 : decode cX12_frameRead 194 = .ok (.getfield 70, 3) := by decide +kernel
theorem dX12_frameRead_197 : decode cX12_frameRead 197 = .ok (.invokevirtual 116, 3) := by decide +kernel
theorem dX12_frameRead_200 : decode cX12_frameRead 200 = .ok (.aload_n 0, 1) := by decide +kernel
theorem dX12_frameRead_201 : decode cX12_frameRead 201 = .ok (.getfield 13, 3) := by decide +kernel
theorem dX12_frameRead_204 : decode cX12_frameRead 204 = .ok (.iconst 2, 1) := by decide +kernel
theorem dX12_frameRead_205 : decode cX12_frameRead 205 = .ok (.dup2, 1) := by decide +kernel
theorem dX12_frameRead_206 : decode cX12_frameRead 206 = .ok (.iaload, 1) := by decide +kernel
theorem dX12_frameRead_207 : decode cX12_frameRead 207 = .ok (.iconst 1, 1) := by decide +kernel
theorem dX12_frameRead_208 : decode cX12_frameRead 208 = .ok (.iadd, 1) := by decide +kernel
theorem dX12_frameRead_209 : decode cX12_frameRead 209 = .ok (.iastore, 1) := by decide +kernel
theorem dX12_frameRead_210 : decode cX12_frameRead 210 = .ok (.return_, 1) := by decide +kernel
theorem dX12_lineRead_0 : decode cX12_lineRead 0 = .ok (.aload_n 0, 1) := by decide +kernel
theorem dX12_lineRead_1 : decode cX12_lineRead 1 = .ok (.invokevirtual 132, 3) := by decide +kernel
theorem dX12_lineRead_4 : decode cX12_lineRead 4 = .ok (.istore_n 1, 1) := by decide +kernel
theorem dX12_lineRead_5 : decode cX12_lineRead 5 = .ok (.aload_n 0, 1) := by decide +kernel
theorem dX12_lineRead_6 : decode cX12_lineRead 6 = .ok (.getfield 70, 3) := by decide +kernel
theorem dX12_lineRead_9 : decode cX12_lineRead 9 = .ok (.istore_n 2, 1) := by decide +kernel
theorem dX12_lineRead_10 : decode cX12_lineRead 10 = .ok (.iload_n 1, 1) := by decide +kernel
theorem dX12_lineRead_11 : decode cX12_lineRead 11 = .ok (.iconst 1, 1) := by decide +kernel
theorem dX12_lineRead_12 : decode cX12_lineRead 12 = .ok (.if_icmp .eq 24, 3) := by decide +kernel
theorem dX12_lineRead_15 : decode cX12_lineRead 15 = .ok (.iload_n 1, 1) := by decide +kernel
theorem dX12_lineRead_16 : decode cX12_lineRead 16 = .ok (.iconst 3, 1) := by decide +kernel
theorem dX12_lineRead_17 : decode cX12_lineRead 17 = .ok (.if_icmp .eq 19, 3) := by decide +kernel
theorem dX12_lineRead_20 : decode cX12_lineRead 20 = .ok (.iload_n 1, 1) := by decide +kernel
theorem dX12_lineRead_21 : decode cX12_lineRead 21 = .ok (.bipush 10, 2) := by decide +kernel
theorem dX12_lineRead_23 : decode cX12_lineRead 23 = .ok (.if_icmp .eq 13, 3) := by decide +kernel
theorem dX12_lineRead_26 : decode cX12_lineRead 26 = .ok (.iload_n 1, 1) := by decide +kernel
theorem dX12_lineRead_27 : decode cX12_lineRead 27 = .ok (.bipush 11, 2) := by decide +kernel
theorem dX12_lineRead_29 : decode cX12_lineRead 29 = .ok (.if_icmp .eq 7, 3) := by decide +kernel
theorem dX12_lineRead_32 : decode cX12_lineRead 32 = .ok (.iconst 1, 1) := by decide +kernel
theorem dX12_lineRead_33 : decode cX12_lineRead 33 = .ok (.goto 4, 3) := by decide +kernel
theorem dX12_lineRead_36 : decode cX12_lineRead 36 = .ok (.iconst 0, 1) := by decide +kernel
theorem dX12_lineRead_37 : decode cX12_lineRead 37 = .ok (.istore_n 3, 1) := by decide +kernel
theorem dX12_lineRead_38 : decode cX12_lineRead 38 = .ok (.iload_n 1, 1) := by decide +kernel
theorem dX12_lineRead_39 : decode cX12_lineRead 39 = .ok (.bipush 8, 2) := by decide +kernel
theorem dX12_lineRead_41 : decode cX12_lineRead 41 = .ok (.if_icmp .eq 9, 3) := by decide +kernel
theorem dX12_lineRead_44 : decode cX12_lineRead 44 = .ok (.iload_n 1, 1) := by decide +kernel
theorem dX12_lineRead_45 : decode cX12_lineRead 45 = .ok (.bipush 9, 2) := by decide +kernel
theorem dX12_lineRead_47 : decode cX12_lineRead 47 = .ok (.if_icmp .ne 7, 3) := by decide +kernel
theorem dX12_lineRead_50 : decode cX12_lineRead 50 = .ok (.iconst 1, 1) := by decide +kernel
theorem dX12_lineRead_51 : decode cX12_lineRead 51 = .ok (.goto 4, 3) := by decide +kernel
theorem dX12_lineRead_54 : decode cX12_lineRead 54 = .ok (.iconst 0, 1) := by decide +kernel
theorem dX12_lineRead_55 : decode cX12_lineRead 55 = .ok (.istore 4, 2) := by decide +kernel
theorem dX12_lineRead_57 : decode cX12_lineRead 57 = .ok (.iload_n 1, 1) := by decide +kernel
theorem dX12_lineRead_58 : decode cX12_lineRead 58 = .ok (.iconst (-1), 1) := by decide +kernel
theorem dX12_lineRead_59 : decode cX12_lineRead 59 = .ok (.if_icmp .eq 47, 3) := by decide +kernel
theorem dX12_lineRead_62 : decode cX12_lineRead 62 = .ok (.iload_n 3, 1) := by decide +kernel
theorem dX12_lineRead_63 : decode cX12_lineRead 63 = .ok (.ifCond .eq 15, 3) := by decide +kernel
theorem dX12_lineRead_66 : decode cX12_lineRead 66 = .ok (.aload_n 0, 1) := by decide +kernel
theorem dX12_lineRead_67 : decode cX12_lineRead 67 = .ok (.getfield 135, 3) := by decide +kernel
theorem dX12_lineRead_70 : decode cX12_lineRead 70 = .ok (.iload_n 1, 1) := by decide +kernel
theorem dX12_lineRead_71 : decode cX12_lineRead 71 = .ok (.ishr, 1) := by decide +kernel
theorem dX12_lineRead_72 : decode cX12_lineRead 72 = .ok (.iconst 1, 1) := by decide +kernel
theorem dX12_lineRead_73 : decode cX12_lineRead 73 = .ok (.iand, 1) := by decide +kernel
theorem dX12_lineRead_74 : decode cX12_lineRead 74 = .ok (.iconst 1, 1) := by decide +kernel
theorem dX12_lineRead_75 : decode cX12_lineRead 75 = .ok (.if_icmp .eq 31, 3) := by decide +kernel
theorem dX12_lineRead_78 : decode cX12_lineRead 78 = .ok (.iload_n 1, 1) := by decide +kernel
theorem dX12_lineRead_79 : decode cX12_lineRead 79 = .ok (.ifCond .ne 12, 3) := by decide +kernel
theorem dX12_lineRead_82 : decode cX12_lineRead 82 = .ok (.aload_n 0, 1) := by decide +kernel
theorem dX12_lineRead_83 : decode cX12_lineRead 83 = .ok (.getfield 13, 3) := by decide +kernel
theorem dX12_lineRead_86 : decode cX12_lineRead 86 = .ok (.iconst 2, 1) := by decide +kernel
theorem dX12_lineRead_87 : decode cX12_lineRead 87 = .ok (.iaload, 1) := by decide +kernel
theorem dX12_lineRead_88 : decode cX12_lineRead 88 = .ok (.ifCond .gt 18, 3) := by decide +kernel
theorem dX12_lineRead_91 : decode cX12_lineRead 91 = .ok (.iload 4, 2) := by decide +kernel
theorem dX12_lineRead_93 : decode cX12_lineRead 93 = .ok (.ifCond .eq 22, 3) := by decide +kernel
theorem dX12_lineRead_96 : decode cX12_lineRead 96 = .ok (.aload_n 0, 1) := by decide +kernel
theorem dX12_lineRead_97 : decode cX12_lineRead 97 = .ok (.getfield 13, 3) := by decide +kernel
theorem dX12_lineRead_100 : decode cX12_lineRead 100 = .ok (.bipush 8, 2) := by decide +kernel
theorem dX12_lineRead_102 : decode cX12_lineRead 102 = .ok (.iaload, 1) := by decide +kernel
theorem dX12_lineRead_103 : decode cX12_lineRead 103 = .ok (.ifCond .le 12, 3) := by decide +kernel
theorem dX12_lineRead_106 : decode cX12_lineRead 106 = .ok (.aload_n 0, 1) := by decide +kernel
theorem dX12_lineRead_107 : decode cX12_lineRead 107 = .ok (.iconst 1, 1) := by decide +kernel
theorem dX12_lineRead_108 : decode cX12_lineRead 108 = .ok (.iload_n 2, 1) := by decide +kernel
theorem dX12_lineRead_109 : decode cX12_lineRead 109 = .ok (.invokevirtual 116, 3) := by decide +kernel
theorem dX12_lineRead_112 : decode cX12_lineRead 112 = .ok (.goto 25, 3) := by decide +kernel
theorem dX12_lineRead_115 : decode cX12_lineRead 115 = .ok (.iload_n 1, 1) := by decide +kernel
theorem dX12_lineRead_116 : decode cX12_lineRead 116 = .ok (.iconst 1, 1) := by decide +kernel
theorem dX12_lineRead_117 : decode cX12_lineRead 117 = .ok (.if_icmp .ne 20, 3) := by decide +kernel
theorem dX12_lineRead_120 : decode cX12_lineRead 120 = .ok (.aload_n 0, 1) := by decide +kernel
theorem dX12_lineRead_121 : decode cX12_lineRead 121 = .ok (.getfield 13, 3) := by decide +kernel
theorem dX12_lineRead_124 : decode cX12_lineRead 124 = .ok (.iconst 2, 1) := by decide +kernel
theorem dX12_lineRead_125 : decode cX12_lineRead 125 = .ok (.iaload, 1) := by decide +kernel
theorem dX12_lineRead_126 : decode cX12_lineRead 126 = .ok (.bipush 24, 2) := by decide +kernel
theorem dX12_lineRead_128 : decode cX12_lineRead 128 = .ok (.if_icmp .ne 9, 3) := by decide +kernel
theorem dX12_lineRead_131 : decode cX12_lineRead 131 = .ok (.aload_n 0, 1) := by decide +kernel
theorem dX12_lineRead_132 : decode cX12_lineRead 132 = .ok (.iconst 5, 1) := by decide +kernel
theorem dX12_lineRead_133 : decode cX12_lineRead 133 = .ok (.iload_n 2, 1) := by decide +kernel
theorem dX12_lineRead_134 : decode cX12_lineRead 134 = .ok (.invokevirtual 116, 3) := by decide +kernel
theorem dX12_lineRead_137 : decode cX12_lineRead 137 = .ok (.aload_n 0, 1) := by decide +kernel
theorem dX12_lineRead_138 : decode cX12_lineRead 138 = .ok (.getfield 76, 3) := by decide +kernel
theorem dX12_lineRead_141 : decode cX12_lineRead 141 = .ok (.ifCond .eq 4, 3) := by decide +kernel
theorem dX12_lineRead_144 : decode cX12_lineRead 144 = .ok (.return_, 1) := by decide +kernel
theorem dX12_lineRead_145 : decode cX12_lineRead 145 = .ok (.aload_n 0, 1) := by decide +kernel
theorem dX12_lineRead_146 : decode cX12_lineRead 146 = .ok (.dup, 1) := by decide +kernel
theorem dX12_lineRead_147 : decode cX12_lineRead 147 = .ok (.getfield 135, 3) := by decide +kernel
theorem dX12_lineRead_150 : decode cX12_lineRead 150 = .ok (.iconst 1, 1) := by decide +kernel
theorem dX12_lineRead_151 : decode cX12_lineRead 151 = .ok (.iload_n 1, 1) := by decide +kernel
theorem dX12_lineRead_152 : decode cX12_lineRead 152 = .ok (.ishl, 1) := by decide +kernel
theorem dX12_lineRead_153 : decode cX12_lineRead 153 = .ok (.ior, 1) := by decide +kernel
theorem dX12_lineRead_154 : decode cX12_lineRead 154 = .ok (.putfield 135, 3) := by decide +kernel
theorem dX12_lineRead_157 : decode cX12_lineRead 157 = .ok (.aload_n 0, 1) := by decide +kernel
theorem dX12_lineRead_158 : decode cX12_lineRead 158 = .ok (.dup, 1) := by decide +kernel
theorem dX12_lineRead_159 : decode cX12_lineRead 159 = .ok (.getfield 70, 3) := by decide +kernel
theorem dX12_lineRead_162 : decode cX12_lineRead 162 = .ok (.aload_n 0, 1) := by decide +kernel
theorem dX12_lineRead_163 : decode cX12_lineRead 163 = .ok (.invokevirtual 99, 3) := by decide +kernel
theorem dX12_lineRead_166 : decode cX12_lineRead 166 = .ok (.iadd, 1) := by decide +kernel
theorem dX12_lineRead_167 : decode cX12_lineRead 167 = .ok (.putfield 70, 3) := by decide +kernel
theorem dX12_lineRead_170 : decode cX12_lineRead 170 = .ok (.aload_n 0, 1) := by decide +kernel
theorem dX12_lineRead_171 : decode cX12_lineRead 171 = .ok (.iload_n 1, 1) := by decide +kernel
theorem dX12_lineRead_172 : decode cX12_lineRead 172 = .ok (.invokevirtual 138, 3) := by decide +kernel
theorem dX12_lineRead_175 : decode cX12_lineRead 175 = .ok (.aload_n 0, 1) := by decide +kernel
theorem dX12_lineRead_176 : decode cX12_lineRead 176 = .ok (.getfield 76, 3) := by decide +kernel
theorem dX12_lineRead_179 : decode cX12_lineRead 179 = .ok (.ifCond .ne 21, 3) := by decide +kernel
theorem dX12_lineRead_182 : decode cX12_lineRead 182 = .ok (.aload_n 0, 1) := by decide +kernel
theorem dX12_lineRead_183 : decode cX12_lineRead 183 = .ok (.invokevirtual 95, 3) := by decide +kernel
theorem dX12_lineRead_186 : decode cX12_lineRead 186 = .ok (.bipush 59, 2) := by decide +kernel
theorem dX12_lineRead_188 : decode cX12_lineRead 188 = .ok (.if_icmp .eq 12, 3) := by decide +kernel
theorem dX12_lineRead_191 : decode cX12_lineRead 191 = .ok (.aload_n 0, 1) := by decide +kernel
theorem dX12_lineRead_192 : decode cX12_lineRead 192 = .ok (.iconst 1, 1) := by decide +kernel
theorem dX12_lineRead_193 : decode cX12_lineRead 193 = .ok (.aload_n 0, 1) := by decide +kernel
theorem dX12_lineRead_194 : decode cX12_lineRead 194 = .ok (.getfield 70, 3) := by decide +kernel
theorem dX12_lineRead_197 : decode cX12_lineRead 197 = .ok (.invokevirtual 116, 3) := by decide +kernel
theorem dX12_lineRead_200 : decode cX12_lineRead 200 = .ok (.aload_n 0, 1) := by decide +kernel
theorem dX12_lineRead_201 : decode cX12_lineRead 201 = .ok (.dup, 1) := by decide +kernel
theorem dX12_lineRead_202 : decode cX12_lineRead 202 = .ok (.getfield 70, 3) := by decide +kernel
theorem dX12_lineRead_205 : decode cX12_lineRead 205 = .ok (.iconst 1, 1) := by decide +kernel
theorem dX12_lineRead_206 : decode cX12_lineRead 206 = .ok (.iadd, 1) := by decide +kernel
theorem dX12_lineRead_207 : decode cX12_lineRead 207 = .ok (.putfield 70, 3) := by decide +kernel
theorem dX12_lineRead_210 : decode cX12_lineRead 210 = .ok (.return_, 1) := by decide +kernel
theorem dX12_behind_0 : decode cX12_behind 0 = .ok (.iload_n 1, 1) := by decide +kernel
theorem dX12_behind_1 : decode cX12_behind 1 = .ok (.tableswitch 160 0 9 #[55, 82, 87, 100, 105, 105, 105, 125, 141, 141], 55) := by decide +kernel
theorem dX12_behind_56 : decode cX12_behind 56 = .ok (.aload_n 0, 1) := by decide +kernel
theorem dX12_behind_57 : decode cX12_behind 57 = .ok (.getfield 13, 3) := by decide +kernel
theorem dX12_behind_60 : decode cX12_behind 60 = .ok (.iconst 0, 1) := by decide +kernel
theorem dX12_behind_61 : decode cX12_behind 61 = .ok (.aload_n 0, 1) := by decide +kernel
theorem dX12_behind_62 : decode cX12_behind 62 = .ok (.iconst 1, 1) := by decide +kernel
theorem dX12_behind_63 : decode cX12_behind 63 = .ok (.bipush 8, 2) := by decide +kernel
theorem dX12_behind_65 : decode cX12_behind 65 = .ok (.invokevirtual 125, 3) := by decide +kernel
theorem dX12_behind_68 : decode cX12_behind 68 = .ok (.iastore, 1) := by decide +kernel
theorem dX12_behind_69 : decode cX12_behind 69 = .ok (.aload_n 0, 1) := by decide +kernel
theorem dX12_behind_70 : decode cX12_behind 70 = .ok (.getfield 13, 3) := by decide +kernel
theorem dX12_behind_73 : decode cX12_behind 73 = .ok (.iconst 1, 1) := by decide +kernel
theorem dX12_behind_74 : decode cX12_behind 74 = .ok (.aload_n 0, 1) := by decide +kernel
theorem dX12_behind_75 : decode cX12_behind 75 = .ok (.iconst 1, 1) := by decide +kernel
theorem dX12_behind_76 : decode cX12_behind 76 = .ok (.bipush 8, 2) := by decide +kernel
theorem dX12_behind_78 : decode cX12_behind 78 = .ok (.invokevirtual 125, 3) := by decide +kernel
theorem dX12_behind_81 : decode cX12_behind 81 = .ok (.iastore, 1) := by decide +kernel
theorem dX12_behind_82 : decode cX12_behind 82 = .ok (.return_, 1) := by decide +kernel
theorem dX12_behind_83 : decode cX12_behind 83 = .ok (.aload_n 0, 1) := by decide +kernel
theorem dX12_behind_84 : decode cX12_behind 84 = .ok (.invokevirtual 142, 3) := by decide +kernel
theorem dX12_behind_87 : decode cX12_behind 87 = .ok (.return_, 1) := by decide +kernel
theorem dX12_behind_88 : decode cX12_behind 88 = .ok (.aload_n 0, 1) := by decide +kernel
theorem dX12_behind_89 : decode cX12_behind 89 = .ok (.getfield 13, 3) := by decide +kernel
theorem dX12_behind_92 : decode cX12_behind 92 = .ok (.iconst 3, 1) := by decide +kernel
theorem dX12_behind_93 : decode cX12_behind 93 = .ok (.aload_n 0, 1) := by decide +kernel
theorem dX12_behind_94 : decode cX12_behind 94 = .ok (.iconst 0, 1) := by decide +kernel
theorem dX12_behind_95 : decode cX12_behind 95 = .ok (.iconst 3, 1) := by decide +kernel
theorem dX12_behind_96 : decode cX12_behind 96 = .ok (.invokevirtual 125, 3) := by decide +kernel
theorem dX12_behind_99 : decode cX12_behind 99 = .ok (.iastore, 1) := by decide +kernel
theorem dX12_behind_100 : decode cX12_behind 100 = .ok (.return_, 1) := by decide +kernel
theorem dX12_behind_101 : decode cX12_behind 101 = .ok (.aload_n 0, 1) := by decide +kernel
theorem dX12_behind_102 : decode cX12_behind 102 = .ok (.invokevirtual 145, 3) := by decide +kernel
theorem dX12_behind_105 : decode cX12_behind 105 = .ok (.return_, 1) := by decide +kernel
theorem dX12_behind_106 : decode cX12_behind 106 = .ok (.aload_n 0, 1) := by decide +kernel
theorem dX12_behind_107 : decode cX12_behind 107 = .ok (.getfield 13, 3) := by decide +kernel
theorem dX12_behind_110 : decode cX12_behind 110 = .ok (.iconst 3, 1) := by decide +kernel
theorem dX12_behind_111 : decode cX12_behind 111 = .ok (.iload_n 1, 1) := by decide +kernel
theorem dX12_behind_112 : decode cX12_behind 112 = .ok (.iadd, 1) := by decide +kernel
theorem dX12_behind_113 : decode cX12_behind 113 = .ok (.iconst 4, 1) := by decide +kernel
theorem dX12_behind_114 : decode cX12_behind 114 = .ok (.isub, 1) := by decide +kernel
theorem dX12_behind_115 : decode cX12_behind 115 = .ok (.iconst 1, 1) := by decide +kernel
theorem dX12_behind_116 : decode cX12_behind 116 = .ok (.iadd, 1) := by decide +kernel
theorem dX12_behind_117 : decode cX12_behind 117 = .ok (.aload_n 0, 1) := by decide +kernel
theorem dX12_behind_118 : decode cX12_behind 118 = .ok (.iconst 0, 1) := by decide +kernel
theorem dX12_behind_119 : decode cX12_behind 119 = .ok (.bipush 15, 2) := by decide +kernel
theorem dX12_behind_121 : decode cX12_behind 121 = .ok (.invokevirtual 125, 3) := by decide +kernel
theorem dX12_behind_124 : decode cX12_behind 124 = .ok (.iastore, 1) := by decide +kernel
theorem dX12_behind_125 : decode cX12_behind 125 = .ok (.return_, 1) := by decide +kernel
theorem dX12_behind_126 : decode cX12_behind 126 = .ok (.aload_n 0, 1) := by decide +kernel
theorem dX12_behind_127 : decode cX12_behind 127 = .ok (.getfield 13, 3) := by decide +kernel
theorem dX12_behind_130 : decode cX12_behind 130 = .ok (.bipush 7, 2) := by decide +kernel
theorem dX12_behind_132 : decode cX12_behind 132 = .ok (.aload_n 0, 1) := by decide +kernel
theorem dX12_behind_133 : decode cX12_behind 133 = .ok (.iconst 0, 1) := by decide +kernel
theorem dX12_behind_134 : decode cX12_behind 134 = .ok (.sipush 999, 3) := by decide +kernel
theorem dX12_behind_137 : decode cX12_behind 137 = .ok (.invokevirtual 125, 3) := by decide +kernel
theorem dX12_behind_140 : decode cX12_behind 140 = .ok (.iastore, 1) := by decide +kernel
theorem dX12_behind_141 : decode cX12_behind 141 = .ok (.return_, 1) := by decide +kernel
theorem dX12_behind_142 : decode cX12_behind 142 = .ok (.aload_n 0, 1) := by decide +kernel
theorem dX12_behind_143 : decode cX12_behind 143 = .ok (.getfield 13, 3) := by decide +kernel
theorem dX12_behind_146 : decode cX12_behind 146 = .ok (.bipush 8, 2) := by decide +kernel
theorem dX12_behind_148 : decode cX12_behind 148 = .ok (.iload_n 1, 1) := by decide +kernel
theorem dX12_behind_149 : decode cX12_behind 149 = .ok (.bipush 8, 2) := by decide +kernel
theorem dX12_behind_151 : decode cX12_behind 151 = .ok (.if_icmp .ne 7, 3) := by decide +kernel
theorem dX12_behind_154 : decode cX12_behind 154 = .ok (.iconst 1, 1) := by decide +kernel
theorem dX12_behind_155 : decode cX12_behind 155 = .ok (.goto 4, 3) := by decide +kernel
theorem dX12_behind_158 : decode cX12_behind 158 = .ok (.iconst 2, 1) := by decide +kernel
theorem dX12_behind_159 : decode cX12_behind 159 = .ok (.iastore, 1) := by decide +kernel
theorem dX12_behind_160 : decode cX12_behind 160 = .ok (.return_, 1) := by decide +kernel
theorem dX12_behind_161 : decode cX12_behind 161 = .ok (.aload_n 0, 1) := by decide +kernel
theorem dX12_behind_162 : decode cX12_behind 162 = .ok (.iload_n 1, 1) := by decide +kernel
theorem dX12_behind_163 : decode cX12_behind 163 = .ok (.bipush 10, 2) := by decide +kernel
theorem dX12_behind_165 : decode cX12_behind 165 = .ok (.if_icmp .ne 8, 3) := by decide +kernel
theorem dX12_behind_168 : decode cX12_behind 168 = .ok (.bipush 13, 2) := by decide +kernel
theorem dX12_behind_170 : decode cX12_behind 170 = .ok (.goto 5, 3) := by decide +kernel
theorem dX12_behind_173 : decode cX12_behind 173 = .ok (.bipush 14, 2) := by decide +kernel
theorem dX12_behind_175 : decode cX12_behind 175 = .ok (.invokevirtual 148, 3) := by decide +kernel
theorem dX12_behind_178 : decode cX12_behind 178 = .ok (.return_, 1) := by decide +kernel
theorem dX12_weightRead_0 : decode cX12_weightRead 0 = .ok (.aload_n 0, 1) := by decide +kernel
theorem dX12_weightRead_1 : decode cX12_weightRead 1 = .ok (.iconst 0, 1) := by decide +kernel
theorem dX12_weightRead_2 : decode cX12_weightRead 2 = .ok (.iconst 3, 1) := by decide +kernel
theorem dX12_weightRead_3 : decode cX12_weightRead 3 = .ok (.invokevirtual 125, 3) := by decide +kernel
theorem dX12_weightRead_6 : decode cX12_weightRead 6 = .ok (.istore_n 1, 1) := by decide +kernel
theorem dX12_weightRead_7 : decode cX12_weightRead 7 = .ok (.aload_n 0, 1) := by decide +kernel
theorem dX12_weightRead_8 : decode cX12_weightRead 8 = .ok (.getfield 76, 3) := by decide +kernel
theorem dX12_weightRead_11 : decode cX12_weightRead 11 = .ok (.ifCond .ne 24, 3) := by decide +kernel
theorem dX12_weightRead_14 : decode cX12_weightRead 14 = .ok (.aload_n 0, 1) := by decide +kernel
theorem dX12_weightRead_15 : decode cX12_weightRead 15 = .ok (.getfield 151, 3) := by decide +kernel
theorem dX12_weightRead_18 : decode cX12_weightRead 18 = .ok (.iload_n 1, 1) := by decide +kernel
theorem dX12_weightRead_19 : decode cX12_weightRead 19 = .ok (.ishr, 1) := by decide +kernel
theorem dX12_weightRead_20 : decode cX12_weightRead 20 = .ok (.iconst 1, 1) := by decide +kernel
theorem dX12_weightRead_21 : decode cX12_weightRead 21 = .ok (.iand, 1) := by decide +kernel
theorem dX12_weightRead_22 : decode cX12_weightRead 22 = .ok (.iconst 1, 1) := by decide +kernel
theorem dX12_weightRead_23 : decode cX12_weightRead 23 = .ok (.if_icmp .ne 12, 3) := by decide +kernel
theorem dX12_weightRead_26 : decode cX12_weightRead 26 = .ok (.aload_n 0, 1) := by decide +kernel
theorem dX12_weightRead_27 : decode cX12_weightRead 27 = .ok (.iconst 1, 1) := by decide +kernel
theorem dX12_weightRead_28 : decode cX12_weightRead 28 = .ok (.aload_n 0, 1) := by decide +kernel
theorem dX12_weightRead_29 : decode cX12_weightRead 29 = .ok (.getfield 120, 3) := by decide +kernel
theorem dX12_weightRead_32 : decode cX12_weightRead 32 = .ok (.invokevirtual 116, 3) := by decide +kernel
theorem dX12_weightRead_35 : decode cX12_weightRead 35 = .ok (.aload_n 0, 1) := by decide +kernel
theorem dX12_weightRead_36 : decode cX12_weightRead 36 = .ok (.dup, 1) := by decide +kernel
theorem dX12_weightRead_37 : decode cX12_weightRead 37 = .ok (.getfield 151, 3) := by decide +kernel
theorem dX12_weightRead_40 : decode cX12_weightRead 40 = .ok (.iconst 1, 1) := by decide +kernel
theorem dX12_weightRead_41 : decode cX12_weightRead 41 = .ok (.iload_n 1, 1) := by decide +kernel
theorem dX12_weightRead_42 : decode cX12_weightRead 42 = .ok (.ishl, 1) := by decide +kernel
theorem dX12_weightRead_43 : decode cX12_weightRead 43 = .ok (.ior, 1) := by decide +kernel
theorem dX12_weightRead_44 : decode cX12_weightRead 44 = .ok (.putfield 151, 3) := by decide +kernel
theorem dX12_weightRead_47 : decode cX12_weightRead 47 = .ok (.aload_n 0, 1) := by decide +kernel
theorem dX12_weightRead_48 : decode cX12_weightRead 48 = .ok (.iconst 1, 1) := by decide +kernel
theorem dX12_weightRead_49 : decode cX12_weightRead 49 = .ok (.bipush 9, 2) := by decide +kernel
theorem dX12_weightRead_51 : decode cX12_weightRead 51 = .ok (.invokevirtual 125, 3) := by decide +kernel
theorem dX12_weightRead_54 : decode cX12_weightRead 54 = .ok (.istore_n 2, 1) := by decide +kernel
theorem dX12_weightRead_55 : decode cX12_weightRead 55 = .ok (.aload_n 0, 1) := by decide +kernel
theorem dX12_weightRead_56 : decode cX12_weightRead 56 = .ok (.getfield 76, 3) := by decide +kernel
theorem dX12_weightRead_59 : decode cX12_weightRead 59 = .ok (.ifCond .ne 13, 3) := by decide +kernel
theorem dX12_weightRead_62 : decode cX12_weightRead 62 = .ok (.aload_n 0, 1) := by decide +kernel
theorem dX12_weightRead_63 : decode cX12_weightRead 63 = .ok (.getfield 13, 3) := by decide +kernel
theorem dX12_weightRead_66 : decode cX12_weightRead 66 = .ok (.bipush 9, 2) := by decide +kernel
theorem dX12_weightRead_68 : decode cX12_weightRead 68 = .ok (.iload_n 1, 1) := by decide +kernel
theorem dX12_weightRead_69 : decode cX12_weightRead 69 = .ok (.iadd, 1) := by decide +kernel
theorem dX12_weightRead_70 : decode cX12_weightRead 70 = .ok (.iload_n 2, 1) := by decide +kernel
theorem dX12_weightRead_71 : decode cX12_weightRead 71 = .ok (.iastore, 1) := by decide +kernel
theorem dX12_weightRead_72 : decode cX12_weightRead 72 = .ok (.return_, 1) := by decide +kernel
theorem dX12_bitRead_0 : decode cX12_bitRead 0 = .ok (.aload_n 0, 1) := by decide +kernel
theorem dX12_bitRead_1 : decode cX12_bitRead 1 = .ok (.iload_n 1, 1) := by decide +kernel
theorem dX12_bitRead_2 : decode cX12_bitRead 2 = .ok (.bipush 13, 2) := by decide +kernel
theorem dX12_bitRead_4 : decode cX12_bitRead 4 = .ok (.if_icmp .ne 7, 3) := by decide +kernel
theorem dX12_bitRead_7 : decode cX12_bitRead 7 = .ok (.iconst 1, 1) := by decide +kernel
theorem dX12_bitRead_8 : decode cX12_bitRead 8 = .ok (.goto 4, 3) := by decide +kernel
theorem dX12_bitRead_11 : decode cX12_bitRead 11 = .ok (.iconst 0, 1) := by decide +kernel
theorem dX12_bitRead_12 : decode cX12_bitRead 12 = .ok (.aload_n 0, 1) := by decide +kernel
theorem dX12_bitRead_13 : decode cX12_bitRead 13 = .ok (.getfield 13, 3) := by decide +kernel
theorem dX12_bitRead_16 : decode cX12_bitRead 16 = .ok (.iconst 2, 1) := by decide +kernel
theorem dX12_bitRead_17 : decode cX12_bitRead 17 = .ok (.iaload, 1) := by decide +kernel
theorem dX12_bitRead_18 : decode cX12_bitRead 18 = .ok (.iconst 1, 1) := by decide +kernel
theorem dX12_bitRead_19 : decode cX12_bitRead 19 = .ok (.isub, 1) := by decide +kernel
theorem dX12_bitRead_20 : decode cX12_bitRead 20 = .ok (.invokevirtual 125, 3) := by decide +kernel
theorem dX12_bitRead_23 : decode cX12_bitRead 23 = .ok (.istore_n 2, 1) := by decide +kernel
theorem dX12_bitRead_24 : decode cX12_bitRead 24 = .ok (.aload_n 0, 1) := by decide +kernel
theorem dX12_bitRead_25 : decode cX12_bitRead 25 = .ok (.getfield 76, 3) := by decide +kernel
theorem dX12_bitRead_28 : decode cX12_bitRead 28 = .ok (.ifCond .ne 26, 3) := by decide +kernel
theorem dX12_bitRead_31 : decode cX12_bitRead 31 = .ok (.aload_n 0, 1) := by decide +kernel
theorem dX12_bitRead_32 : decode cX12_bitRead 32 = .ok (.getfield 13, 3) := by decide +kernel
theorem dX12_bitRead_35 : decode cX12_bitRead 35 = .ok (.iload_n 1, 1) := by decide +kernel
theorem dX12_bitRead_36 : decode cX12_bitRead 36 = .ok (.iaload, 1) := by decide +kernel
theorem dX12_bitRead_37 : decode cX12_bitRead 37 = .ok (.iload_n 2, 1) := by decide +kernel
theorem dX12_bitRead_38 : decode cX12_bitRead 38 = .ok (.ishr, 1) := by decide +kernel
theorem dX12_bitRead_39 : decode cX12_bitRead 39 = .ok (.iconst 1, 1) := by decide +kernel
theorem dX12_bitRead_40 : decode cX12_bitRead 40 = .ok (.iand, 1) := by decide +kernel
theorem dX12_bitRead_41 : decode cX12_bitRead 41 = .ok (.iconst 1, 1) := by decide +kernel
theorem dX12_bitRead_42 : decode cX12_bitRead 42 = .ok (.if_icmp .ne 12, 3) := by decide +kernel
theorem dX12_bitRead_45 : decode cX12_bitRead 45 = .ok (.aload_n 0, 1) := by decide +kernel
theorem dX12_bitRead_46 : decode cX12_bitRead 46 = .ok (.iconst 1, 1) := by decide +kernel
theorem dX12_bitRead_47 : decode cX12_bitRead 47 = .ok (.aload_n 0, 1) := by decide +kernel
theorem dX12_bitRead_48 : decode cX12_bitRead 48 = .ok (.getfield 120, 3) := by decide +kernel
theorem dX12_bitRead_51 : decode cX12_bitRead 51 = .ok (.invokevirtual 116, 3) := by decide +kernel
theorem dX12_bitRead_54 : decode cX12_bitRead 54 = .ok (.aload_n 0, 1) := by decide +kernel
theorem dX12_bitRead_55 : decode cX12_bitRead 55 = .ok (.getfield 76, 3) := by decide +kernel
theorem dX12_bitRead_58 : decode cX12_bitRead 58 = .ok (.ifCond .ne 15, 3) := by decide +kernel
theorem dX12_bitRead_61 : decode cX12_bitRead 61 = .ok (.aload_n 0, 1) := by decide +kernel
theorem dX12_bitRead_62 : decode cX12_bitRead 62 = .ok (.getfield 13, 3) := by decide +kernel
theorem dX12_bitRead_65 : decode cX12_bitRead 65 = .ok (.iload_n 1, 1) := by decide +kernel
theorem dX12_bitRead_66 : decode cX12_bitRead 66 = .ok (.dup2, 1) := by decide +kernel
theorem dX12_bitRead_67 : decode cX12_bitRead 67 = .ok (.iaload, 1) := by decide +kernel
theorem dX12_bitRead_68 : decode cX12_bitRead 68 = .ok (.iconst 1, 1) := by decide +kernel
theorem dX12_bitRead_69 : decode cX12_bitRead 69 = .ok (.iload_n 2, 1) := by decide +kernel
theorem dX12_bitRead_70 : decode cX12_bitRead 70 = .ok (.ishl, 1) := by decide +kernel
theorem dX12_bitRead_71 : decode cX12_bitRead 71 = .ok (.ior, 1) := by decide +kernel
theorem dX12_bitRead_72 : decode cX12_bitRead 72 = .ok (.iastore, 1) := by decide +kernel
theorem dX12_bitRead_73 : decode cX12_bitRead 73 = .ok (.return_, 1) := by decide +kernel
theorem dX12_tell_0 : decode cX12_tell 0 = .ok (.aload_n 0, 1) := by decide +kernel
theorem dX12_tell_1 : decode cX12_tell 1 = .ok (.iconst 0, 1) := by decide +kernel
theorem dX12_tell_2 : decode cX12_tell 2 = .ok (.putfield 1, 3) := by decide +kernel
theorem dX12_tell_5 : decode cX12_tell 5 = .ok (.iload_n 1, 1) := by decide +kernel
theorem dX12_tell_6 : decode cX12_tell 6 = .ok (.i2l, 1) := by decide +kernel
theorem dX12_tell_7 : decode cX12_tell 7 = .ok (.lconst 0, 1) := by decide +kernel
theorem dX12_tell_8 : decode cX12_tell 8 = .ok (.aload_n 0, 1) := by decide +kernel
theorem dX12_tell_9 : decode cX12_tell 9 = .ok (.getfield 67, 3) := by decide +kernel
theorem dX12_tell_12 : decode cX12_tell 12 = .ok (.i2l, 1) := by decide +kernel
theorem dX12_tell_13 : decode cX12_tell 13 = .ok (.invokestatic 83, 3) := by decide +kernel
theorem dX12_tell_16 : decode cX12_tell 16 = .ok (.ifCond .ne 6, 3) := by decide +kernel
theorem dX12_tell_19 : decode cX12_tell 19 = .ok (.bipush (-3), 2) := by decide +kernel
theorem dX12_tell_21 : decode cX12_tell 21 = .ok (.ireturn, 1) := by decide +kernel
theorem dX12_tell_22 : decode cX12_tell 22 = .ok (.aload_n 0, 1) := by decide +kernel
theorem dX12_tell_23 : decode cX12_tell 23 = .ok (.iconst 0, 1) := by decide +kernel
theorem dX12_tell_24 : decode cX12_tell 24 = .ok (.putfield 67, 3) := by decide +kernel
theorem dX12_tell_27 : decode cX12_tell 27 = .ok (.aload_n 0, 1) := by decide +kernel
theorem dX12_tell_28 : decode cX12_tell 28 = .ok (.iload_n 1, 1) := by decide +kernel
theorem dX12_tell_29 : decode cX12_tell 29 = .ok (.putfield 73, 3) := by decide +kernel
theorem dX12_tell_32 : decode cX12_tell 32 = .ok (.aload_n 0, 1) := by decide +kernel
theorem dX12_tell_33 : decode cX12_tell 33 = .ok (.iconst 0, 1) := by decide +kernel
theorem dX12_tell_34 : decode cX12_tell 34 = .ok (.putfield 70, 3) := by decide +kernel
theorem dX12_tell_37 : decode cX12_tell 37 = .ok (.aload_n 0, 1) := by decide +kernel
theorem dX12_tell_38 : decode cX12_tell 38 = .ok (.iconst 0, 1) := by decide +kernel
theorem dX12_tell_39 : decode cX12_tell 39 = .ok (.putfield 76, 3) := by decide +kernel
theorem dX12_tell_42 : decode cX12_tell 42 = .ok (.aload_n 0, 1) := by decide +kernel
theorem dX12_tell_43 : decode cX12_tell 43 = .ok (.iconst (-1), 1) := by decide +kernel
theorem dX12_tell_44 : decode cX12_tell 44 = .ok (.putfield 27, 3) := by decide +kernel
theorem dX12_tell_47 : decode cX12_tell 47 = .ok (.aload_n 0, 1) := by decide +kernel
theorem dX12_tell_48 : decode cX12_tell 48 = .ok (.iconst 0, 1) := by decide +kernel
theorem dX12_tell_49 : decode cX12_tell 49 = .ok (.putfield 135, 3) := by decide +kernel
theorem dX12_tell_52 : decode cX12_tell 52 = .ok (.aload_n 0, 1) := by decide +kernel
theorem dX12_tell_53 : decode cX12_tell 53 = .ok (.iconst 0, 1) := by decide +kernel
theorem dX12_tell_54 : decode cX12_tell 54 = .ok (.putfield 151, 3) := by decide +kernel
theorem dX12_tell_57 : decode cX12_tell 57 = .ok (.iconst 0, 1) := by decide +kernel
theorem dX12_tell_58 : decode cX12_tell 58 = .ok (.istore_n 2, 1) := by decide +kernel
theorem dX12_tell_59 : decode cX12_tell 59 = .ok (.iload_n 2, 1) := by decide +kernel
theorem dX12_tell_60 : decode cX12_tell 60 = .ok (.sipush 1551, 3) := by decide +kernel
theorem dX12_tell_63 : decode cX12_tell 63 = .ok (.if_icmp .ge 21, 3) := by decide +kernel
theorem dX12_tell_66 : decode cX12_tell 66 = .ok (.aload_n 0, 1) := by decide +kernel
theorem dX12_tell_67 : decode cX12_tell 67 = .ok (.getfield 17, 3) := by decide +kernel
theorem dX12_tell_70 : decode cX12_tell 70 = .ok (.iload_n 2, 1) := by decide +kernel
theorem dX12_tell_71 : decode cX12_tell 71 = .ok (.aload_n 0, 1) := by decide +kernel
theorem dX12_tell_72 : decode cX12_tell 72 = .ok (.getfield 13, 3) := by decide +kernel
theorem dX12_tell_75 : decode cX12_tell 75 = .ok (.iload_n 2, 1) := by decide +kernel
theorem dX12_tell_76 : decode cX12_tell 76 = .ok (.iaload, 1) := by decide +kernel
theorem dX12_tell_77 : decode cX12_tell 77 = .ok (.iastore, 1) := by decide +kernel
theorem dX12_tell_78 : decode cX12_tell 78 = .ok (.iinc 2 1, 3) := by decide +kernel
theorem dX12_tell_81 : decode cX12_tell 81 = .ok (.goto (-22), 3) := by decide +kernel
theorem dX12_tell_84 : decode cX12_tell 84 = .ok (.aload_n 0, 1) := by decide +kernel
theorem dX12_tell_85 : decode cX12_tell 85 = .ok (.invokevirtual 64, 3) := by decide +kernel
theorem dX12_tell_88 : decode cX12_tell 88 = .ok (.aload_n 0, 1) := by decide +kernel
theorem dX12_tell_89 : decode cX12_tell 89 = .ok (.getfield 76, 3) := by decide +kernel
theorem dX12_tell_92 : decode cX12_tell 92 = .ok (.ifCond .ne 18, 3) := by decide +kernel
theorem dX12_tell_95 : decode cX12_tell 95 = .ok (.aload_n 0, 1) := by decide +kernel
theorem dX12_tell_96 : decode cX12_tell 96 = .ok (.invokevirtual 95, 3) := by decide +kernel
theorem dX12_tell_99 : decode cX12_tell 99 = .ok (.iconst (-1), 1) := by decide +kernel
theorem dX12_tell_100 : decode cX12_tell 100 = .ok (.if_icmp .eq 10, 3) := by decide +kernel
theorem dX12_tell_103 : decode cX12_tell 103 = .ok (.aload_n 0, 1) := by decide +kernel
theorem dX12_tell_104 : decode cX12_tell 104 = .ok (.invokevirtual 154, 3) := by decide +kernel
theorem dX12_tell_107 : decode cX12_tell 107 = .ok (.goto (-19), 3) := by decide +kernel
theorem dX12_tell_110 : decode cX12_tell 110 = .ok (.aload_n 0, 1) := by decide +kernel
theorem dX12_tell_111 : decode cX12_tell 111 = .ok (.getfield 76, 3) := by decide +kernel
theorem dX12_tell_114 : decode cX12_tell 114 = .ok (.ifCond .ne 25, 3) := by decide +kernel
theorem dX12_tell_117 : decode cX12_tell 117 = .ok (.aload_n 0, 1) := by decide +kernel
theorem dX12_tell_118 : decode cX12_tell 118 = .ok (.getfield 13, 3) := by decide +kernel
theorem dX12_tell_121 : decode cX12_tell 121 = .ok (.iconst 4, 1) := by decide +kernel
theorem dX12_tell_122 : decode cX12_tell 122 = .ok (.iaload, 1) := by decide +kernel
theorem dX12_tell_123 : decode cX12_tell 123 = .ok (.aload_n 0, 1) := by decide +kernel
theorem dX12_tell_124 : decode cX12_tell 124 = .ok (.getfield 13, 3) := by decide +kernel
theorem dX12_tell_127 : decode cX12_tell 127 = .ok (.iconst 5, 1) := by decide +kernel
theorem dX12_tell_128 : decode cX12_tell 128 = .ok (.iaload, 1) := by decide +kernel
theorem dX12_tell_129 : decode cX12_tell 129 = .ok (.if_icmp .le 10, 3) := by decide +kernel
theorem dX12_tell_132 : decode cX12_tell 132 = .ok (.aload_n 0, 1) := by decide +kernel
theorem dX12_tell_133 : decode cX12_tell 133 = .ok (.bipush 6, 2) := by decide +kernel
theorem dX12_tell_135 : decode cX12_tell 135 = .ok (.iload_n 1, 1) := by decide +kernel
theorem dX12_tell_136 : decode cX12_tell 136 = .ok (.invokevirtual 116, 3) := by decide +kernel
theorem dX12_tell_139 : decode cX12_tell 139 = .ok (.aload_n 0, 1) := by decide +kernel
theorem dX12_tell_140 : decode cX12_tell 140 = .ok (.getfield 76, 3) := by decide +kernel
theorem dX12_tell_143 : decode cX12_tell 143 = .ok (.ifCond .ne 15, 3) := by decide +kernel
theorem dX12_tell_146 : decode cX12_tell 146 = .ok (.aload_n 0, 1) := by decide +kernel
theorem dX12_tell_147 : decode cX12_tell 147 = .ok (.iconst 0, 1) := by decide +kernel
theorem dX12_tell_148 : decode cX12_tell 148 = .ok (.putfield 157, 3) := by decide +kernel
theorem dX12_tell_151 : decode cX12_tell 151 = .ok (.aload_n 0, 1) := by decide +kernel
theorem dX12_tell_152 : decode cX12_tell 152 = .ok (.getfield 13, 3) := by decide +kernel
theorem dX12_tell_155 : decode cX12_tell 155 = .ok (.iconst 2, 1) := by decide +kernel
theorem dX12_tell_156 : decode cX12_tell 156 = .ok (.iaload, 1) := by decide +kernel
theorem dX12_tell_157 : decode cX12_tell 157 = .ok (.ireturn, 1) := by decide +kernel
theorem dX12_tell_158 : decode cX12_tell 158 = .ok (.iconst 0, 1) := by decide +kernel
theorem dX12_tell_159 : decode cX12_tell 159 = .ok (.istore_n 2, 1) := by decide +kernel
theorem dX12_tell_160 : decode cX12_tell 160 = .ok (.iload_n 2, 1) := by decide +kernel
theorem dX12_tell_161 : decode cX12_tell 161 = .ok (.sipush 1551, 3) := by decide +kernel
theorem dX12_tell_164 : decode cX12_tell 164 = .ok (.if_icmp .ge 21, 3) := by decide +kernel
theorem dX12_tell_167 : decode cX12_tell 167 = .ok (.aload_n 0, 1) := by decide +kernel
theorem dX12_tell_168 : decode cX12_tell 168 = .ok (.getfield 13, 3) := by decide +kernel
theorem dX12_tell_171 : decode cX12_tell 171 = .ok (.iload_n 2, 1) := by decide +kernel
theorem dX12_tell_172 : decode cX12_tell 172 = .ok (.aload_n 0, 1) := by decide +kernel
theorem dX12_tell_173 : decode cX12_tell 173 = .ok (.getfield 17, 3) := by decide +kernel
theorem dX12_tell_176 : decode cX12_tell 176 = .ok (.iload_n 2, 1) := by decide +kernel
theorem dX12_tell_177 : decode cX12_tell 177 = .ok (.iaload, 1) := by decide +kernel
theorem dX12_tell_178 : decode cX12_tell 178 = .ok (.iastore, 1) := by decide +kernel
theorem dX12_tell_179 : decode cX12_tell 179 = .ok (.iinc 2 1, 3) := by decide +kernel
theorem dX12_tell_182 : decode cX12_tell 182 = .ok (.goto (-22), 3) := by decide +kernel
theorem dX12_tell_185 : decode cX12_tell 185 = .ok (.bipush (-30), 2) := by decide +kernel
theorem dX12_tell_187 : decode cX12_tell 187 = .ok (.aload_n 0, 1) := by decide +kernel
theorem dX12_tell_188 : decode cX12_tell 188 = .ok (.getfield 76, 3) := by decide +kernel
theorem dX12_tell_191 : decode cX12_tell 191 = .ok (.isub, 1) := by decide +kernel
theorem dX12_tell_192 : decode cX12_tell 192 = .ok (.ireturn, 1) := by decide +kernel
theorem dX12_fault_0 : decode cX12_fault 0 = .ok (.aload_n 0, 1) := by decide +kernel
theorem dX12_fault_1 : decode cX12_fault 1 = .ok (.iconst 0, 1) := by decide +kernel
theorem dX12_fault_2 : decode cX12_fault 2 = .ok (.putfield 1, 3) := by decide +kernel
theorem dX12_fault_5 : decode cX12_fault 5 = .ok (.iload_n 1, 1) := by decide +kernel
theorem dX12_fault_6 : decode cX12_fault 6 = .ok (.ifCond .ne 10, 3) := by decide +kernel
theorem dX12_fault_9 : decode cX12_fault 9 = .ok (.aload_n 0, 1) := by decide +kernel
theorem dX12_fault_10 : decode cX12_fault 10 = .ok (.getfield 76, 3) := by decide +kernel
theorem dX12_fault_13 : decode cX12_fault 13 = .ok (.goto 16, 3) := by decide +kernel
theorem dX12_fault_16 : decode cX12_fault 16 = .ok (.iload_n 1, 1) := by decide +kernel
theorem dX12_fault_17 : decode cX12_fault 17 = .ok (.iconst 1, 1) := by decide +kernel
theorem dX12_fault_18 : decode cX12_fault 18 = .ok (.if_icmp .ne 10, 3) := by decide +kernel
theorem dX12_fault_21 : decode cX12_fault 21 = .ok (.aload_n 0, 1) := by decide +kernel
theorem dX12_fault_22 : decode cX12_fault 22 = .ok (.getfield 27, 3) := by decide +kernel
theorem dX12_fault_25 : decode cX12_fault 25 = .ok (.goto 4, 3) := by decide +kernel
theorem dX12_fault_28 : decode cX12_fault 28 = .ok (.iconst (-1), 1) := by decide +kernel
theorem dX12_fault_29 : decode cX12_fault 29 = .ok (.ireturn, 1) := by decide +kernel
theorem dX12_isFrame_0 : decode cX12_isFrame 0 = .ok (.iload_n 1, 1) := by decide +kernel
theorem dX12_isFrame_1 : decode cX12_isFrame 1 = .ok (.i2l, 1) := by decide +kernel
theorem dX12_isFrame_2 : decode cX12_isFrame 2 = .ok (.lconst 0, 1) := by decide +kernel
theorem dX12_isFrame_3 : decode cX12_isFrame 3 = .ok (.aload_n 0, 1) := by decide +kernel
theorem dX12_isFrame_4 : decode cX12_isFrame 4 = .ok (.getfield 13, 3) := by decide +kernel
theorem dX12_isFrame_7 : decode cX12_isFrame 7 = .ok (.iconst 2, 1) := by decide +kernel
theorem dX12_isFrame_8 : decode cX12_isFrame 8 = .ok (.iaload, 1) := by decide +kernel
theorem dX12_isFrame_9 : decode cX12_isFrame 9 = .ok (.iconst 1, 1) := by decide +kernel
theorem dX12_isFrame_10 : decode cX12_isFrame 10 = .ok (.isub, 1) := by decide +kernel
theorem dX12_isFrame_11 : decode cX12_isFrame 11 = .ok (.i2l, 1) := by decide +kernel
theorem dX12_isFrame_12 : decode cX12_isFrame 12 = .ok (.invokestatic 83, 3) := by decide +kernel
theorem dX12_isFrame_15 : decode cX12_isFrame 15 = .ok (.ireturn, 1) := by decide +kernel
theorem dX12_isPlace_0 : decode cX12_isPlace 0 = .ok (.iload_n 1, 1) := by decide +kernel
theorem dX12_isPlace_1 : decode cX12_isPlace 1 = .ok (.i2l, 1) := by decide +kernel
theorem dX12_isPlace_2 : decode cX12_isPlace 2 = .ok (.lconst 0, 1) := by decide +kernel
theorem dX12_isPlace_3 : decode cX12_isPlace 3 = .ok (.aload_n 0, 1) := by decide +kernel
theorem dX12_isPlace_4 : decode cX12_isPlace 4 = .ok (.invokevirtual 129, 3) := by decide +kernel
theorem dX12_isPlace_7 : decode cX12_isPlace 7 = .ok (.iconst 1, 1) := by decide +kernel
theorem dX12_isPlace_8 : decode cX12_isPlace 8 = .ok (.isub, 1) := by decide +kernel
theorem dX12_isPlace_9 : decode cX12_isPlace 9 = .ok (.i2l, 1) := by decide +kernel
theorem dX12_isPlace_10 : decode cX12_isPlace 10 = .ok (.invokestatic 83, 3) := by decide +kernel
theorem dX12_isPlace_13 : decode cX12_isPlace 13 = .ok (.ireturn, 1) := by decide +kernel
theorem dX12_isShade_0 : decode cX12_isShade 0 = .ok (.iload_n 0, 1) := by decide +kernel
theorem dX12_isShade_1 : decode cX12_isShade 1 = .ok (.i2l, 1) := by decide +kernel
theorem dX12_isShade_2 : decode cX12_isShade 2 = .ok (.lconst 0, 1) := by decide +kernel
theorem dX12_isShade_3 : decode cX12_isShade 3 = .ok (.ldc2_w 160, 3) := by decide +kernel
theorem dX12_isShade_6 : decode cX12_isShade 6 = .ok (.invokestatic 83, 3) := by decide +kernel
theorem dX12_isShade_9 : decode cX12_isShade 9 = .ok (.ireturn, 1) := by decide +kernel
theorem dX12_remembers_0 : decode cX12_remembers 0 = .ok (.aload_n 0, 1) := by decide +kernel
theorem dX12_remembers_1 : decode cX12_remembers 1 = .ok (.getfield 157, 3) := by decide +kernel
theorem dX12_remembers_4 : decode cX12_remembers 4 = .ok (.bipush 8, 2) := by decide +kernel
theorem dX12_remembers_6 : decode cX12_remembers 6 = .ok (.if_icmp .ne 44, 3) := by decide +kernel
theorem dX12_remembers_9 : decode cX12_remembers 9 = .ok (.iconst 0, 1) := by decide +kernel
theorem dX12_remembers_10 : decode cX12_remembers 10 = .ok (.istore_n 1, 1) := by decide +kernel
theorem dX12_remembers_11 : decode cX12_remembers 11 = .ok (.iload_n 1, 1) := by decide +kernel
theorem dX12_remembers_12 : decode cX12_remembers 12 = .ok (.sipush 10857, 3) := by decide +kernel
theorem dX12_remembers_15 : decode cX12_remembers 15 = .ok (.if_icmp .ge 25, 3) := by decide +kernel
theorem dX12_remembers_18 : decode cX12_remembers 18 = .ok (.aload_n 0, 1) := by decide +kernel
theorem dX12_remembers_19 : decode cX12_remembers 19 = .ok (.getfield 20, 3) := by decide +kernel
theorem dX12_remembers_22 : decode cX12_remembers 22 = .ok (.iload_n 1, 1) := by decide +kernel
theorem dX12_remembers_23 : decode cX12_remembers 23 = .ok (.aload_n 0, 1) := by decide +kernel
theorem dX12_remembers_24 : decode cX12_remembers 24 = .ok (.getfield 20, 3) := by decide +kernel
theorem dX12_remembers_27 : decode cX12_remembers 27 = .ok (.iload_n 1, 1) := by decide +kernel
theorem dX12_remembers_28 : decode cX12_remembers 28 = .ok (.sipush 1551, 3) := by decide +kernel
theorem dX12_remembers_31 : decode cX12_remembers 31 = .ok (.iadd, 1) := by decide +kernel
theorem dX12_remembers_32 : decode cX12_remembers 32 = .ok (.iaload, 1) := by decide +kernel
theorem dX12_remembers_33 : decode cX12_remembers 33 = .ok (.iastore, 1) := by decide +kernel
theorem dX12_remembers_34 : decode cX12_remembers 34 = .ok (.iinc 1 1, 3) := by decide +kernel
theorem dX12_remembers_37 : decode cX12_remembers 37 = .ok (.goto (-26), 3) := by decide +kernel
theorem dX12_remembers_40 : decode cX12_remembers 40 = .ok (.aload_n 0, 1) := by decide +kernel
theorem dX12_remembers_41 : decode cX12_remembers 41 = .ok (.dup, 1) := by decide +kernel
theorem dX12_remembers_42 : decode cX12_remembers 42 = .ok (.getfield 157, 3) := by decide +kernel
theorem dX12_remembers_45 : decode cX12_remembers 45 = .ok (.iconst 1, 1) := by decide +kernel
theorem dX12_remembers_46 : decode cX12_remembers 46 = .ok (.isub, 1) := by decide +kernel
theorem dX12_remembers_47 : decode cX12_remembers 47 = .ok (.putfield 157, 3) := by decide +kernel
theorem dX12_remembers_50 : decode cX12_remembers 50 = .ok (.iconst 0, 1) := by decide +kernel
theorem dX12_remembers_51 : decode cX12_remembers 51 = .ok (.istore_n 1, 1) := by decide +kernel
theorem dX12_remembers_52 : decode cX12_remembers 52 = .ok (.iload_n 1, 1) := by decide +kernel
theorem dX12_remembers_53 : decode cX12_remembers 53 = .ok (.sipush 1551, 3) := by decide +kernel
theorem dX12_remembers_56 : decode cX12_remembers 56 = .ok (.if_icmp .ge 30, 3) := by decide +kernel
theorem dX12_remembers_59 : decode cX12_remembers 59 = .ok (.aload_n 0, 1) := by decide +kernel
theorem dX12_remembers_60 : decode cX12_remembers 60 = .ok (.getfield 20, 3) := by decide +kernel
theorem dX12_remembers_63 : decode cX12_remembers 63 = .ok (.sipush 1551, 3) := by decide +kernel
theorem dX12_remembers_66 : decode cX12_remembers 66 = .ok (.aload_n 0, 1) := by decide +kernel
theorem dX12_remembers_67 : decode cX12_remembers 67 = .ok (.getfield 157, 3) := by decide +kernel
theorem dX12_remembers_70 : decode cX12_remembers 70 = .ok (.imul, 1) := by decide +kernel
theorem dX12_remembers_71 : decode cX12_remembers 71 = .ok (.iload_n 1, 1) := by decide +kernel
theorem dX12_remembers_72 : decode cX12_remembers 72 = .ok (.iadd, 1) := by decide +kernel
theorem dX12_remembers_73 : decode cX12_remembers 73 = .ok (.aload_n 0, 1) := by decide +kernel
theorem dX12_remembers_74 : decode cX12_remembers 74 = .ok (.getfield 13, 3) := by decide +kernel
theorem dX12_remembers_77 : decode cX12_remembers 77 = .ok (.iload_n 1, 1) := by decide +kernel
theorem dX12_remembers_78 : decode cX12_remembers 78 = .ok (.iaload, 1) := by decide +kernel
theorem dX12_remembers_79 : decode cX12_remembers 79 = .ok (.iastore, 1) := by decide +kernel
theorem dX12_remembers_80 : decode cX12_remembers 80 = .ok (.iinc 1 1, 3) := by decide +kernel
theorem dX12_remembers_83 : decode cX12_remembers 83 = .ok (.goto (-31), 3) := by decide +kernel
theorem dX12_remembers_86 : decode cX12_remembers 86 = .ok (.aload_n 0, 1) := by decide +kernel
theorem dX12_remembers_87 : decode cX12_remembers 87 = .ok (.dup, 1) := by decide +kernel
theorem dX12_remembers_88 : decode cX12_remembers 88 = .ok (.getfield 157, 3) := by decide +kernel
theorem dX12_remembers_91 : decode cX12_remembers 91 = .ok (.iconst 1, 1) := by decide +kernel
theorem dX12_remembers_92 : decode cX12_remembers 92 = .ok (.iadd, 1) := by decide +kernel
theorem dX12_remembers_93 : decode cX12_remembers 93 = .ok (.putfield 157, 3) := by decide +kernel
theorem dX12_remembers_96 : decode cX12_remembers 96 = .ok (.return_, 1) := by decide +kernel
theorem dX12_canSet_0 : decode cX12_canSet 0 = .ok (.iload_n 1, 1) := by decide +kernel
theorem dX12_canSet_1 : decode cX12_canSet 1 = .ok (.tableswitch 90 0 4 #[35, 45, 59, 75, 80], 35) := by decide +kernel
theorem dX12_canSet_36 : decode cX12_canSet 36 = .ok (.iload_n 2, 1) := by decide +kernel
theorem dX12_canSet_37 : decode cX12_canSet 37 = .ok (.i2l, 1) := by decide +kernel
theorem dX12_canSet_38 : decode cX12_canSet 38 = .ok (.lconst 0, 1) := by decide +kernel
theorem dX12_canSet_39 : decode cX12_canSet 39 = .ok (.ldc2_w 162, 3) := by decide +kernel
theorem dX12_canSet_42 : decode cX12_canSet 42 = .ok (.invokestatic 83, 3) := by decide +kernel
theorem dX12_canSet_45 : decode cX12_canSet 45 = .ok (.ireturn, 1) := by decide +kernel
theorem dX12_canSet_46 : decode cX12_canSet 46 = .ok (.iload_n 2, 1) := by decide +kernel
theorem dX12_canSet_47 : decode cX12_canSet 47 = .ok (.i2l, 1) := by decide +kernel
theorem dX12_canSet_48 : decode cX12_canSet 48 = .ok (.lconst 0, 1) := by decide +kernel
theorem dX12_canSet_49 : decode cX12_canSet 49 = .ok (.aload_n 0, 1) := by decide +kernel
theorem dX12_canSet_50 : decode cX12_canSet 50 = .ok (.getfield 13, 3) := by decide +kernel
theorem dX12_canSet_53 : decode cX12_canSet 53 = .ok (.iconst 5, 1) := by decide +kernel
theorem dX12_canSet_54 : decode cX12_canSet 54 = .ok (.iaload, 1) := by decide +kernel
theorem dX12_canSet_55 : decode cX12_canSet 55 = .ok (.i2l, 1) := by decide +kernel
theorem dX12_canSet_56 : decode cX12_canSet 56 = .ok (.invokestatic 83, 3) := by decide +kernel
theorem dX12_canSet_59 : decode cX12_canSet 59 = .ok (.ireturn, 1) := by decide +kernel
theorem dX12_canSet_60 : decode cX12_canSet 60 = .ok (.iload_n 2, 1) := by decide +kernel
theorem dX12_canSet_61 : decode cX12_canSet 61 = .ok (.i2l, 1) := by decide +kernel
theorem dX12_canSet_62 : decode cX12_canSet 62 = .ok (.aload_n 0, 1) := by decide +kernel
theorem dX12_canSet_63 : decode cX12_canSet 63 = .ok (.getfield 13, 3) := by decide +kernel
theorem dX12_canSet_66 : decode cX12_canSet 66 = .ok (.iconst 4, 1) := by decide +kernel
theorem dX12_canSet_67 : decode cX12_canSet 67 = .ok (.iaload, 1) := by decide +kernel
theorem dX12_canSet_68 : decode cX12_canSet 68 = .ok (.i2l, 1) := by decide +kernel
theorem dX12_canSet_69 : decode cX12_canSet 69 = .ok (.ldc2_w 160, 3) := by decide +kernel
theorem dX12_canSet_72 : decode cX12_canSet 72 = .ok (.invokestatic 83, 3) := by decide +kernel
theorem dX12_canSet_75 : decode cX12_canSet 75 = .ok (.ireturn, 1) := by decide +kernel
theorem dX12_canSet_76 : decode cX12_canSet 76 = .ok (.iload_n 2, 1) := by decide +kernel
theorem dX12_canSet_77 : decode cX12_canSet 77 = .ok (.invokestatic 164, 3) := by decide +kernel
theorem dX12_canSet_80 : decode cX12_canSet 80 = .ok (.ireturn, 1) := by decide +kernel
theorem dX12_canSet_81 : decode cX12_canSet 81 = .ok (.iload_n 2, 1) := by decide +kernel
theorem dX12_canSet_82 : decode cX12_canSet 82 = .ok (.i2l, 1) := by decide +kernel
theorem dX12_canSet_83 : decode cX12_canSet 83 = .ok (.lconst 0, 1) := by decide +kernel
theorem dX12_canSet_84 : decode cX12_canSet 84 = .ok (.ldc2_w 167, 3) := by decide +kernel
theorem dX12_canSet_87 : decode cX12_canSet 87 = .ok (.invokestatic 83, 3) := by decide +kernel
theorem dX12_canSet_90 : decode cX12_canSet 90 = .ok (.ireturn, 1) := by decide +kernel
theorem dX12_canSet_91 : decode cX12_canSet 91 = .ok (.iload_n 2, 1) := by decide +kernel
theorem dX12_canSet_92 : decode cX12_canSet 92 = .ok (.i2l, 1) := by decide +kernel
theorem dX12_canSet_93 : decode cX12_canSet 93 = .ok (.lconst 0, 1) := by decide +kernel
theorem dX12_canSet_94 : decode cX12_canSet 94 = .ok (.ldc2_w 169, 3) := by decide +kernel
theorem dX12_canSet_97 : decode cX12_canSet 97 = .ok (.invokestatic 83, 3) := by decide +kernel
theorem dX12_canSet_100 : decode cX12_canSet 100 = .ok (.ireturn, 1) := by decide +kernel
theorem dX12_set_0 : decode cX12_set 0 = .ok (.aload_n 0, 1) := by decide +kernel
theorem dX12_set_1 : decode cX12_set 1 = .ok (.iconst 0, 1) := by decide +kernel
theorem dX12_set_2 : decode cX12_set 2 = .ok (.putfield 1, 3) := by decide +kernel
theorem dX12_set_5 : decode cX12_set 5 = .ok (.iload_n 1, 1) := by decide +kernel
theorem dX12_set_6 : decode cX12_set 6 = .ok (.i2l, 1) := by decide +kernel
theorem dX12_set_7 : decode cX12_set 7 = .ok (.lconst 0, 1) := by decide +kernel
theorem dX12_set_8 : decode cX12_set 8 = .ok (.ldc2_w 171, 3) := by decide +kernel
theorem dX12_set_11 : decode cX12_set 11 = .ok (.invokestatic 83, 3) := by decide +kernel
theorem dX12_set_14 : decode cX12_set 14 = .ok (.ifCond .ne 6, 3) := by decide +kernel
theorem dX12_set_17 : decode cX12_set 17 = .ok (.bipush (-2), 2) := by decide +kernel
theorem dX12_set_19 : decode cX12_set 19 = .ok (.ireturn, 1) := by decide +kernel
theorem dX12_set_20 : decode cX12_set 20 = .ok (.aload_n 0, 1) := by decide +kernel
theorem dX12_set_21 : decode cX12_set 21 = .ok (.iload_n 1, 1) := by decide +kernel
theorem dX12_set_22 : decode cX12_set 22 = .ok (.iload_n 2, 1) := by decide +kernel
theorem dX12_set_23 : decode cX12_set 23 = .ok (.invokevirtual 173, 3) := by decide +kernel
theorem dX12_set_26 : decode cX12_set 26 = .ok (.ifCond .ne 6, 3) := by decide +kernel
theorem dX12_set_29 : decode cX12_set 29 = .ok (.bipush (-3), 2) := by decide +kernel
theorem dX12_set_31 : decode cX12_set 31 = .ok (.ireturn, 1) := by decide +kernel
theorem dX12_set_32 : decode cX12_set 32 = .ok (.aload_n 0, 1) := by decide +kernel
theorem dX12_set_33 : decode cX12_set 33 = .ok (.invokevirtual 177, 3) := by decide +kernel
theorem dX12_set_36 : decode cX12_set 36 = .ok (.aload_n 0, 1) := by decide +kernel
theorem dX12_set_37 : decode cX12_set 37 = .ok (.getfield 13, 3) := by decide +kernel
theorem dX12_set_40 : decode cX12_set 40 = .ok (.iconst 3, 1) := by decide +kernel
theorem dX12_set_41 : decode cX12_set 41 = .ok (.iload_n 1, 1) := by decide +kernel
theorem dX12_set_42 : decode cX12_set 42 = .ok (.iadd, 1) := by decide +kernel
theorem dX12_set_43 : decode cX12_set 43 = .ok (.iaload, 1) := by decide +kernel
theorem dX12_set_44 : decode cX12_set 44 = .ok (.istore_n 3, 1) := by decide +kernel
theorem dX12_set_45 : decode cX12_set 45 = .ok (.aload_n 0, 1) := by decide +kernel
theorem dX12_set_46 : decode cX12_set 46 = .ok (.getfield 13, 3) := by decide +kernel
theorem dX12_set_49 : decode cX12_set 49 = .ok (.iconst 3, 1) := by decide +kernel
theorem dX12_set_50 : decode cX12_set 50 = .ok (.iload_n 1, 1) := by decide +kernel
theorem dX12_set_51 : decode cX12_set 51 = .ok (.iadd, 1) := by decide +kernel
theorem dX12_set_52 : decode cX12_set 52 = .ok (.iload_n 2, 1) := by decide +kernel
theorem dX12_set_53 : decode cX12_set 53 = .ok (.iastore, 1) := by decide +kernel
theorem dX12_set_54 : decode cX12_set 54 = .ok (.iload_n 3, 1) := by decide +kernel
theorem dX12_set_55 : decode cX12_set 55 = .ok (.ireturn, 1) := by decide +kernel
theorem dX12_weight_0 : decode cX12_weight 0 = .ok (.aload_n 0, 1) := by decide +kernel
theorem dX12_weight_1 : decode cX12_weight 1 = .ok (.iconst 0, 1) := by decide +kernel
theorem dX12_weight_2 : decode cX12_weight 2 = .ok (.putfield 1, 3) := by decide +kernel
theorem dX12_weight_5 : decode cX12_weight 5 = .ok (.iload_n 1, 1) := by decide +kernel
theorem dX12_weight_6 : decode cX12_weight 6 = .ok (.i2l, 1) := by decide +kernel
theorem dX12_weight_7 : decode cX12_weight 7 = .ok (.lconst 0, 1) := by decide +kernel
theorem dX12_weight_8 : decode cX12_weight 8 = .ok (.ldc2_w 162, 3) := by decide +kernel
theorem dX12_weight_11 : decode cX12_weight 11 = .ok (.invokestatic 83, 3) := by decide +kernel
theorem dX12_weight_14 : decode cX12_weight 14 = .ok (.ifCond .ne 6, 3) := by decide +kernel
theorem dX12_weight_17 : decode cX12_weight 17 = .ok (.bipush (-2), 2) := by decide +kernel
theorem dX12_weight_19 : decode cX12_weight 19 = .ok (.ireturn, 1) := by decide +kernel
theorem dX12_weight_20 : decode cX12_weight 20 = .ok (.iload_n 2, 1) := by decide +kernel
theorem dX12_weight_21 : decode cX12_weight 21 = .ok (.i2l, 1) := by decide +kernel
theorem dX12_weight_22 : decode cX12_weight 22 = .ok (.lconst 1, 1) := by decide +kernel
theorem dX12_weight_23 : decode cX12_weight 23 = .ok (.ldc2_w 180, 3) := by decide +kernel
theorem dX12_weight_26 : decode cX12_weight 26 = .ok (.invokestatic 83, 3) := by decide +kernel
theorem dX12_weight_29 : decode cX12_weight 29 = .ok (.ifCond .ne 6, 3) := by decide +kernel
theorem dX12_weight_32 : decode cX12_weight 32 = .ok (.bipush (-3), 2) := by decide +kernel
theorem dX12_weight_34 : decode cX12_weight 34 = .ok (.ireturn, 1) := by decide +kernel
theorem dX12_weight_35 : decode cX12_weight 35 = .ok (.aload_n 0, 1) := by decide +kernel
theorem dX12_weight_36 : decode cX12_weight 36 = .ok (.invokevirtual 177, 3) := by decide +kernel
theorem dX12_weight_39 : decode cX12_weight 39 = .ok (.aload_n 0, 1) := by decide +kernel
theorem dX12_weight_40 : decode cX12_weight 40 = .ok (.getfield 13, 3) := by decide +kernel
theorem dX12_weight_43 : decode cX12_weight 43 = .ok (.bipush 9, 2) := by decide +kernel
theorem dX12_weight_45 : decode cX12_weight 45 = .ok (.iload_n 1, 1) := by decide +kernel
theorem dX12_weight_46 : decode cX12_weight 46 = .ok (.iadd, 1) := by decide +kernel
theorem dX12_weight_47 : decode cX12_weight 47 = .ok (.iaload, 1) := by decide +kernel
theorem dX12_weight_48 : decode cX12_weight 48 = .ok (.istore_n 3, 1) := by decide +kernel
theorem dX12_weight_49 : decode cX12_weight 49 = .ok (.aload_n 0, 1) := by decide +kernel
theorem dX12_weight_50 : decode cX12_weight 50 = .ok (.getfield 13, 3) := by decide +kernel
theorem dX12_weight_53 : decode cX12_weight 53 = .ok (.bipush 9, 2) := by decide +kernel
theorem dX12_weight_55 : decode cX12_weight 55 = .ok (.iload_n 1, 1) := by decide +kernel
theorem dX12_weight_56 : decode cX12_weight 56 = .ok (.iadd, 1) := by decide +kernel
theorem dX12_weight_57 : decode cX12_weight 57 = .ok (.iload_n 2, 1) := by decide +kernel
theorem dX12_weight_58 : decode cX12_weight 58 = .ok (.iastore, 1) := by decide +kernel
theorem dX12_weight_59 : decode cX12_weight 59 = .ok (.iload_n 3, 1) := by decide +kernel
theorem dX12_weight_60 : decode cX12_weight 60 = .ok (.ireturn, 1) := by decide +kernel
theorem dX12_cut_0 : decode cX12_cut 0 = .ok (.aload_n 0, 1) := by decide +kernel
theorem dX12_cut_1 : decode cX12_cut 1 = .ok (.iconst 0, 1) := by decide +kernel
theorem dX12_cut_2 : decode cX12_cut 2 = .ok (.putfield 1, 3) := by decide +kernel
theorem dX12_cut_5 : decode cX12_cut 5 = .ok (.aload_n 0, 1) := by decide +kernel
theorem dX12_cut_6 : decode cX12_cut 6 = .ok (.iload_n 1, 1) := by decide +kernel
theorem dX12_cut_7 : decode cX12_cut 7 = .ok (.invokevirtual 182, 3) := by decide +kernel
theorem dX12_cut_10 : decode cX12_cut 10 = .ok (.ifCond .eq 7, 3) := by decide +kernel
theorem dX12_cut_13 : decode cX12_cut 13 = .ok (.iload_n 1, 1) := by decide +kernel
theorem dX12_cut_14 : decode cX12_cut 14 = .ok (.ifCond .ne 6, 3) := by decide +kernel
theorem dX12_cut_17 : decode cX12_cut 17 = .ok (.bipush (-2), 2) := by decide +kernel
theorem dX12_cut_19 : decode cX12_cut 19 = .ok (.ireturn, 1) := by decide +kernel
theorem dX12_cut_20 : decode cX12_cut 20 = .ok (.aload_n 0, 1) := by decide +kernel
theorem dX12_cut_21 : decode cX12_cut 21 = .ok (.invokevirtual 177, 3) := by decide +kernel
theorem dX12_cut_24 : decode cX12_cut 24 = .ok (.aload_n 0, 1) := by decide +kernel
theorem dX12_cut_25 : decode cX12_cut 25 = .ok (.getfield 13, 3) := by decide +kernel
theorem dX12_cut_28 : decode cX12_cut 28 = .ok (.bipush 13, 2) := by decide +kernel
theorem dX12_cut_30 : decode cX12_cut 30 = .ok (.dup2, 1) := by decide +kernel
theorem dX12_cut_31 : decode cX12_cut 31 = .ok (.iaload, 1) := by decide +kernel
theorem dX12_cut_32 : decode cX12_cut 32 = .ok (.iconst 1, 1) := by decide +kernel
theorem dX12_cut_33 : decode cX12_cut 33 = .ok (.iload_n 1, 1) := by decide +kernel
theorem dX12_cut_34 : decode cX12_cut 34 = .ok (.ishl, 1) := by decide +kernel
theorem dX12_cut_35 : decode cX12_cut 35 = .ok (.ixor, 1) := by decide +kernel
theorem dX12_cut_36 : decode cX12_cut 36 = .ok (.iastore, 1) := by decide +kernel
theorem dX12_cut_37 : decode cX12_cut 37 = .ok (.aload_n 0, 1) := by decide +kernel
theorem dX12_cut_38 : decode cX12_cut 38 = .ok (.invokevirtual 185, 3) := by decide +kernel
theorem dX12_cut_41 : decode cX12_cut 41 = .ok (.aload_n 0, 1) := by decide +kernel
theorem dX12_cut_42 : decode cX12_cut 42 = .ok (.invokevirtual 188, 3) := by decide +kernel
theorem dX12_cut_45 : decode cX12_cut 45 = .ok (.ireturn, 1) := by decide +kernel
theorem dX12_skip_0 : decode cX12_skip 0 = .ok (.aload_n 0, 1) := by decide +kernel
theorem dX12_skip_1 : decode cX12_skip 1 = .ok (.iconst 0, 1) := by decide +kernel
theorem dX12_skip_2 : decode cX12_skip 2 = .ok (.putfield 1, 3) := by decide +kernel
theorem dX12_skip_5 : decode cX12_skip 5 = .ok (.aload_n 0, 1) := by decide +kernel
theorem dX12_skip_6 : decode cX12_skip 6 = .ok (.iload_n 1, 1) := by decide +kernel
theorem dX12_skip_7 : decode cX12_skip 7 = .ok (.invokevirtual 182, 3) := by decide +kernel
theorem dX12_skip_10 : decode cX12_skip 10 = .ok (.ifCond .ne 6, 3) := by decide +kernel
theorem dX12_skip_13 : decode cX12_skip 13 = .ok (.bipush (-2), 2) := by decide +kernel
theorem dX12_skip_15 : decode cX12_skip 15 = .ok (.ireturn, 1) := by decide +kernel
theorem dX12_skip_16 : decode cX12_skip 16 = .ok (.aload_n 0, 1) := by decide +kernel
theorem dX12_skip_17 : decode cX12_skip 17 = .ok (.invokevirtual 177, 3) := by decide +kernel
theorem dX12_skip_20 : decode cX12_skip 20 = .ok (.aload_n 0, 1) := by decide +kernel
theorem dX12_skip_21 : decode cX12_skip 21 = .ok (.getfield 13, 3) := by decide +kernel
theorem dX12_skip_24 : decode cX12_skip 24 = .ok (.bipush 14, 2) := by decide +kernel
theorem dX12_skip_26 : decode cX12_skip 26 = .ok (.dup2, 1) := by decide +kernel
theorem dX12_skip_27 : decode cX12_skip 27 = .ok (.iaload, 1) := by decide +kernel
theorem dX12_skip_28 : decode cX12_skip 28 = .ok (.iconst 1, 1) := by decide +kernel
theorem dX12_skip_29 : decode cX12_skip 29 = .ok (.iload_n 1, 1) := by decide +kernel
theorem dX12_skip_30 : decode cX12_skip 30 = .ok (.ishl, 1) := by decide +kernel
theorem dX12_skip_31 : decode cX12_skip 31 = .ok (.ixor, 1) := by decide +kernel
theorem dX12_skip_32 : decode cX12_skip 32 = .ok (.iastore, 1) := by decide +kernel
theorem dX12_skip_33 : decode cX12_skip 33 = .ok (.aload_n 0, 1) := by decide +kernel
theorem dX12_skip_34 : decode cX12_skip 34 = .ok (.getfield 13, 3) := by decide +kernel
theorem dX12_skip_37 : decode cX12_skip 37 = .ok (.bipush 14, 2) := by decide +kernel
theorem dX12_skip_39 : decode cX12_skip 39 = .ok (.iaload, 1) := by decide +kernel
theorem dX12_skip_40 : decode cX12_skip 40 = .ok (.invokestatic 191, 3) := by decide +kernel
theorem dX12_skip_43 : decode cX12_skip 43 = .ok (.ireturn, 1) := by decide +kernel
theorem dX12_dot_0 : decode cX12_dot 0 = .ok (.aload_n 0, 1) := by decide +kernel
theorem dX12_dot_1 : decode cX12_dot 1 = .ok (.iconst 0, 1) := by decide +kernel
theorem dX12_dot_2 : decode cX12_dot 2 = .ok (.putfield 1, 3) := by decide +kernel
theorem dX12_dot_5 : decode cX12_dot 5 = .ok (.aload_n 0, 1) := by decide +kernel
theorem dX12_dot_6 : decode cX12_dot 6 = .ok (.iload_n 1, 1) := by decide +kernel
theorem dX12_dot_7 : decode cX12_dot 7 = .ok (.invokevirtual 182, 3) := by decide +kernel
theorem dX12_dot_10 : decode cX12_dot 10 = .ok (.ifCond .eq 11, 3) := by decide +kernel
theorem dX12_dot_13 : decode cX12_dot 13 = .ok (.aload_n 0, 1) := by decide +kernel
theorem dX12_dot_14 : decode cX12_dot 14 = .ok (.iload_n 2, 1) := by decide +kernel
theorem dX12_dot_15 : decode cX12_dot 15 = .ok (.invokevirtual 197, 3) := by decide +kernel
theorem dX12_dot_18 : decode cX12_dot 18 = .ok (.ifCond .ne 6, 3) := by decide +kernel
theorem dX12_dot_21 : decode cX12_dot 21 = .ok (.bipush (-2), 2) := by decide +kernel
theorem dX12_dot_23 : decode cX12_dot 23 = .ok (.ireturn, 1) := by decide +kernel
theorem dX12_dot_24 : decode cX12_dot 24 = .ok (.iload_n 3, 1) := by decide +kernel
theorem dX12_dot_25 : decode cX12_dot 25 = .ok (.invokestatic 164, 3) := by decide +kernel
theorem dX12_dot_28 : decode cX12_dot 28 = .ok (.ifCond .ne 6, 3) := by decide +kernel
theorem dX12_dot_31 : decode cX12_dot 31 = .ok (.bipush (-3), 2) := by decide +kernel
theorem dX12_dot_33 : decode cX12_dot 33 = .ok (.ireturn, 1) := by decide +kernel
theorem dX12_dot_34 : decode cX12_dot 34 = .ok (.aload_n 0, 1) := by decide +kernel
theorem dX12_dot_35 : decode cX12_dot 35 = .ok (.invokevirtual 177, 3) := by decide +kernel
theorem dX12_dot_38 : decode cX12_dot 38 = .ok (.aload_n 0, 1) := by decide +kernel
theorem dX12_dot_39 : decode cX12_dot 39 = .ok (.iload_n 1, 1) := by decide +kernel
theorem dX12_dot_40 : decode cX12_dot 40 = .ok (.iload_n 2, 1) := by decide +kernel
theorem dX12_dot_41 : decode cX12_dot 41 = .ok (.invokevirtual 200, 3) := by decide +kernel
theorem dX12_dot_44 : decode cX12_dot 44 = .ok (.istore 4, 2) := by decide +kernel
theorem dX12_dot_46 : decode cX12_dot 46 = .ok (.aload_n 0, 1) := by decide +kernel
theorem dX12_dot_47 : decode cX12_dot 47 = .ok (.getfield 13, 3) := by decide +kernel
theorem dX12_dot_50 : decode cX12_dot 50 = .ok (.bipush 15, 2) := by decide +kernel
theorem dX12_dot_52 : decode cX12_dot 52 = .ok (.bipush 64, 2) := by decide +kernel
theorem dX12_dot_54 : decode cX12_dot 54 = .ok (.iload_n 1, 1) := by decide +kernel
theorem dX12_dot_55 : decode cX12_dot 55 = .ok (.imul, 1) := by decide +kernel
theorem dX12_dot_56 : decode cX12_dot 56 = .ok (.iadd, 1) := by decide +kernel
theorem dX12_dot_57 : decode cX12_dot 57 = .ok (.iload_n 2, 1) := by decide +kernel
theorem dX12_dot_58 : decode cX12_dot 58 = .ok (.iadd, 1) := by decide +kernel
theorem dX12_dot_59 : decode cX12_dot 59 = .ok (.iload_n 3, 1) := by decide +kernel
theorem dX12_dot_60 : decode cX12_dot 60 = .ok (.iastore, 1) := by decide +kernel
theorem dX12_dot_61 : decode cX12_dot 61 = .ok (.iload 4, 2) := by decide +kernel
theorem dX12_dot_63 : decode cX12_dot 63 = .ok (.ireturn, 1) := by decide +kernel
theorem dX12_undo_0 : decode cX12_undo 0 = .ok (.aload_n 0, 1) := by decide +kernel
theorem dX12_undo_1 : decode cX12_undo 1 = .ok (.iconst 0, 1) := by decide +kernel
theorem dX12_undo_2 : decode cX12_undo 2 = .ok (.putfield 1, 3) := by decide +kernel
theorem dX12_undo_5 : decode cX12_undo 5 = .ok (.aload_n 0, 1) := by decide +kernel
theorem dX12_undo_6 : decode cX12_undo 6 = .ok (.getfield 157, 3) := by decide +kernel
theorem dX12_undo_9 : decode cX12_undo 9 = .ok (.ifCond .ne 6, 3) := by decide +kernel
theorem dX12_undo_12 : decode cX12_undo 12 = .ok (.bipush (-5), 2) := by decide +kernel
theorem dX12_undo_14 : decode cX12_undo 14 = .ok (.ireturn, 1) := by decide +kernel
theorem dX12_undo_15 : decode cX12_undo 15 = .ok (.aload_n 0, 1) := by decide +kernel
theorem dX12_undo_16 : decode cX12_undo 16 = .ok (.dup, 1) := by decide +kernel
theorem dX12_undo_17 : decode cX12_undo 17 = .ok (.getfield 157, 3) := by decide +kernel
theorem dX12_undo_20 : decode cX12_undo 20 = .ok (.iconst 1, 1) := by decide +kernel
theorem dX12_undo_21 : decode cX12_undo 21 = .ok (.isub, 1) := by decide +kernel
theorem dX12_undo_22 : decode cX12_undo 22 = .ok (.putfield 157, 3) := by decide +kernel
theorem dX12_undo_25 : decode cX12_undo 25 = .ok (.iconst 0, 1) := by decide +kernel
theorem dX12_undo_26 : decode cX12_undo 26 = .ok (.istore_n 1, 1) := by decide +kernel
theorem dX12_undo_27 : decode cX12_undo 27 = .ok (.iload_n 1, 1) := by decide +kernel
theorem dX12_undo_28 : decode cX12_undo 28 = .ok (.sipush 1551, 3) := by decide +kernel
theorem dX12_undo_31 : decode cX12_undo 31 = .ok (.if_icmp .ge 30, 3) := by decide +kernel
theorem dX12_undo_34 : decode cX12_undo 34 = .ok (.aload_n 0, 1) := by decide +kernel
theorem dX12_undo_35 : decode cX12_undo 35 = .ok (.getfield 13, 3) := by decide +kernel
theorem dX12_undo_38 : decode cX12_undo 38 = .ok (.iload_n 1, 1) := by decide +kernel
theorem dX12_undo_39 : decode cX12_undo 39 = .ok (.aload_n 0, 1) := by decide +kernel
theorem dX12_undo_40 : decode cX12_undo 40 = .ok (.getfield 20, 3) := by decide +kernel
theorem dX12_undo_43 : decode cX12_undo 43 = .ok (.sipush 1551, 3) := by decide +kernel
theorem dX12_undo_46 : decode cX12_undo 46 = .ok (.aload_n 0, 1) := by decide +kernel
theorem dX12_undo_47 : decode cX12_undo 47 = .ok (.getfield 157, 3) := by decide +kernel
theorem dX12_undo_50 : decode cX12_undo 50 = .ok (.imul, 1) := by decide +kernel
theorem dX12_undo_51 : decode cX12_undo 51 = .ok (.iload_n 1, 1) := by decide +kernel
theorem dX12_undo_52 : decode cX12_undo 52 = .ok (.iadd, 1) := by decide +kernel
theorem dX12_undo_53 : decode cX12_undo 53 = .ok (.iaload, 1) := by decide +kernel
theorem dX12_undo_54 : decode cX12_undo 54 = .ok (.iastore, 1) := by decide +kernel
theorem dX12_undo_55 : decode cX12_undo 55 = .ok (.iinc 1 1, 3) := by decide +kernel
theorem dX12_undo_58 : decode cX12_undo 58 = .ok (.goto (-31), 3) := by decide +kernel
theorem dX12_undo_61 : decode cX12_undo 61 = .ok (.aload_n 0, 1) := by decide +kernel
theorem dX12_undo_62 : decode cX12_undo 62 = .ok (.getfield 157, 3) := by decide +kernel
theorem dX12_undo_65 : decode cX12_undo 65 = .ok (.ireturn, 1) := by decide +kernel
theorem dX12_dotAt_0 : decode cX12_dotAt 0 = .ok (.aload_n 0, 1) := by decide +kernel
theorem dX12_dotAt_1 : decode cX12_dotAt 1 = .ok (.getfield 13, 3) := by decide +kernel
theorem dX12_dotAt_4 : decode cX12_dotAt 4 = .ok (.bipush 15, 2) := by decide +kernel
theorem dX12_dotAt_6 : decode cX12_dotAt 6 = .ok (.bipush 64, 2) := by decide +kernel
theorem dX12_dotAt_8 : decode cX12_dotAt 8 = .ok (.iload_n 1, 1) := by decide +kernel
theorem dX12_dotAt_9 : decode cX12_dotAt 9 = .ok (.imul, 1) := by decide +kernel
theorem dX12_dotAt_10 : decode cX12_dotAt 10 = .ok (.iadd, 1) := by decide +kernel
theorem dX12_dotAt_11 : decode cX12_dotAt 11 = .ok (.iload_n 2, 1) := by decide +kernel
theorem dX12_dotAt_12 : decode cX12_dotAt 12 = .ok (.iadd, 1) := by decide +kernel
theorem dX12_dotAt_13 : decode cX12_dotAt 13 = .ok (.iaload, 1) := by decide +kernel
theorem dX12_dotAt_14 : decode cX12_dotAt 14 = .ok (.ireturn, 1) := by decide +kernel
theorem dX12_cumAt_0 : decode cX12_cumAt 0 = .ok (.iload_n 2, 1) := by decide +kernel
theorem dX12_cumAt_1 : decode cX12_cumAt 1 = .ok (.ifCond .ge 7, 3) := by decide +kernel
theorem dX12_cumAt_4 : decode cX12_cumAt 4 = .ok (.iconst 0, 1) := by decide +kernel
theorem dX12_cumAt_5 : decode cX12_cumAt 5 = .ok (.goto 14, 3) := by decide +kernel
theorem dX12_cumAt_8 : decode cX12_cumAt 8 = .ok (.aload_n 0, 1) := by decide +kernel
theorem dX12_cumAt_9 : decode cX12_cumAt 9 = .ok (.getfield 30, 3) := by decide +kernel
theorem dX12_cumAt_12 : decode cX12_cumAt 12 = .ok (.bipush 16, 2) := by decide +kernel
theorem dX12_cumAt_14 : decode cX12_cumAt 14 = .ok (.iload_n 1, 1) := by decide +kernel
theorem dX12_cumAt_15 : decode cX12_cumAt 15 = .ok (.imul, 1) := by decide +kernel
theorem dX12_cumAt_16 : decode cX12_cumAt 16 = .ok (.iload_n 2, 1) := by decide +kernel
theorem dX12_cumAt_17 : decode cX12_cumAt 17 = .ok (.iadd, 1) := by decide +kernel
theorem dX12_cumAt_18 : decode cX12_cumAt 18 = .ok (.iaload, 1) := by decide +kernel
theorem dX12_cumAt_19 : decode cX12_cumAt 19 = .ok (.ireturn, 1) := by decide +kernel
theorem dX12_off_0 : decode cX12_off 0 = .ok (.iload_n 0, 1) := by decide +kernel
theorem dX12_off_1 : decode cX12_off 1 = .ok (.iload_n 1, 1) := by decide +kernel
theorem dX12_off_2 : decode cX12_off 2 = .ok (.if_icmp .ge 9, 3) := by decide +kernel
theorem dX12_off_5 : decode cX12_off 5 = .ok (.iload_n 1, 1) := by decide +kernel
theorem dX12_off_6 : decode cX12_off 6 = .ok (.iload_n 0, 1) := by decide +kernel
theorem dX12_off_7 : decode cX12_off 7 = .ok (.isub, 1) := by decide +kernel
theorem dX12_off_8 : decode cX12_off 8 = .ok (.goto 6, 3) := by decide +kernel
theorem dX12_off_11 : decode cX12_off 11 = .ok (.iload_n 0, 1) := by decide +kernel
theorem dX12_off_12 : decode cX12_off 12 = .ok (.iload_n 1, 1) := by decide +kernel
theorem dX12_off_13 : decode cX12_off 13 = .ok (.isub, 1) := by decide +kernel
theorem dX12_off_14 : decode cX12_off 14 = .ok (.ireturn, 1) := by decide +kernel
theorem dX12_apartBy_0 : decode cX12_apartBy 0 = .ok (.iconst 0, 1) := by decide +kernel
theorem dX12_apartBy_1 : decode cX12_apartBy 1 = .ok (.istore_n 3, 1) := by decide +kernel
theorem dX12_apartBy_2 : decode cX12_apartBy 2 = .ok (.iconst 0, 1) := by decide +kernel
theorem dX12_apartBy_3 : decode cX12_apartBy 3 = .ok (.istore 4, 2) := by decide +kernel
theorem dX12_apartBy_5 : decode cX12_apartBy 5 = .ok (.iload 4, 2) := by decide +kernel
theorem dX12_apartBy_7 : decode cX12_apartBy 7 = .ok (.bipush 16, 2) := by decide +kernel
theorem dX12_apartBy_9 : decode cX12_apartBy 9 = .ok (.if_icmp .ge 33, 3) := by decide +kernel
theorem dX12_apartBy_12 : decode cX12_apartBy 12 = .ok (.iload_n 3, 1) := by decide +kernel
theorem dX12_apartBy_13 : decode cX12_apartBy 13 = .ok (.aload_n 0, 1) := by decide +kernel
theorem dX12_apartBy_14 : decode cX12_apartBy 14 = .ok (.bipush 16, 2) := by decide +kernel
theorem dX12_apartBy_16 : decode cX12_apartBy 16 = .ok (.iload_n 1, 1) := by decide +kernel
theorem dX12_apartBy_17 : decode cX12_apartBy 17 = .ok (.imul, 1) := by decide +kernel
theorem dX12_apartBy_18 : decode cX12_apartBy 18 = .ok (.iload 4, 2) := by decide +kernel
theorem dX12_apartBy_20 : decode cX12_apartBy 20 = .ok (.iadd, 1) := by decide +kernel
theorem dX12_apartBy_21 : decode cX12_apartBy 21 = .ok (.iaload, 1) := by decide +kernel
theorem dX12_apartBy_22 : decode cX12_apartBy 22 = .ok (.aload_n 0, 1) := by decide +kernel
theorem dX12_apartBy_23 : decode cX12_apartBy 23 = .ok (.bipush 16, 2) := by decide +kernel
theorem dX12_apartBy_25 : decode cX12_apartBy 25 = .ok (.iload_n 2, 1) := by decide +kernel
theorem dX12_apartBy_26 : decode cX12_apartBy 26 = .ok (.imul, 1) := by decide +kernel
theorem dX12_apartBy_27 : decode cX12_apartBy 27 = .ok (.iload 4, 2) := by decide +kernel
theorem dX12_apartBy_29 : decode cX12_apartBy 29 = .ok (.iadd, 1) := by decide +kernel
theorem dX12_apartBy_30 : decode cX12_apartBy 30 = .ok (.iaload, 1) := by decide +kernel
theorem dX12_apartBy_31 : decode cX12_apartBy 31 = .ok (.invokestatic 203, 3) := by decide +kernel
theorem dX12_apartBy_34 : decode cX12_apartBy 34 = .ok (.iadd, 1) := by decide +kernel
theorem dX12_apartBy_35 : decode cX12_apartBy 35 = .ok (.istore_n 3, 1) := by decide +kernel
theorem dX12_apartBy_36 : decode cX12_apartBy 36 = .ok (.iinc 4 1, 3) := by decide +kernel
theorem dX12_apartBy_39 : decode cX12_apartBy 39 = .ok (.goto (-34), 3) := by decide +kernel
theorem dX12_apartBy_42 : decode cX12_apartBy 42 = .ok (.iload_n 3, 1) := by decide +kernel
theorem dX12_apartBy_43 : decode cX12_apartBy 43 = .ok (.ireturn, 1) := by decide +kernel
theorem dX12_lays_0 : decode cX12_lays 0 = .ok (.iconst 0, 1) := by decide +kernel
theorem dX12_lays_1 : decode cX12_lays 1 = .ok (.istore_n 1, 1) := by decide +kernel
theorem dX12_lays_2 : decode cX12_lays 2 = .ok (.iload_n 1, 1) := by decide +kernel
theorem dX12_lays_3 : decode cX12_lays 3 = .ok (.aload_n 0, 1) := by decide +kernel
theorem dX12_lays_4 : decode cX12_lays 4 = .ok (.getfield 13, 3) := by decide +kernel
theorem dX12_lays_7 : decode cX12_lays 7 = .ok (.iconst 2, 1) := by decide +kernel
theorem dX12_lays_8 : decode cX12_lays 8 = .ok (.iaload, 1) := by decide +kernel
theorem dX12_lays_9 : decode cX12_lays 9 = .ok (.if_icmp .ge 164, 3) := by decide +kernel
theorem dX12_lays_12 : decode cX12_lays 12 = .ok (.aload_n 0, 1) := by decide +kernel
theorem dX12_lays_13 : decode cX12_lays 13 = .ok (.getfield 33, 3) := by decide +kernel
theorem dX12_lays_16 : decode cX12_lays 16 = .ok (.iload_n 1, 1) := by decide +kernel
theorem dX12_lays_17 : decode cX12_lays 17 = .ok (.iconst 0, 1) := by decide +kernel
theorem dX12_lays_18 : decode cX12_lays 18 = .ok (.iastore, 1) := by decide +kernel
theorem dX12_lays_19 : decode cX12_lays 19 = .ok (.iconst 0, 1) := by decide +kernel
theorem dX12_lays_20 : decode cX12_lays 20 = .ok (.istore_n 2, 1) := by decide +kernel
theorem dX12_lays_21 : decode cX12_lays 21 = .ok (.iload_n 2, 1) := by decide +kernel
theorem dX12_lays_22 : decode cX12_lays 22 = .ok (.bipush 16, 2) := by decide +kernel
theorem dX12_lays_24 : decode cX12_lays 24 = .ok (.if_icmp .ge 21, 3) := by decide +kernel
theorem dX12_lays_27 : decode cX12_lays 27 = .ok (.aload_n 0, 1) := by decide +kernel
theorem dX12_lays_28 : decode cX12_lays 28 = .ok (.getfield 30, 3) := by decide +kernel
theorem dX12_lays_31 : decode cX12_lays 31 = .ok (.bipush 16, 2) := by decide +kernel
theorem dX12_lays_33 : decode cX12_lays 33 = .ok (.iload_n 1, 1) := by decide +kernel
theorem dX12_lays_34 : decode cX12_lays 34 = .ok (.imul, 1) := by decide +kernel
theorem dX12_lays_35 : decode cX12_lays 35 = .ok (.iload_n 2, 1) := by decide +kernel
theorem dX12_lays_36 : decode cX12_lays 36 = .ok (.iadd, 1) := by decide +kernel
theorem dX12_lays_37 : decode cX12_lays 37 = .ok (.iconst 0, 1) := by decide +kernel
theorem dX12_lays_38 : decode cX12_lays 38 = .ok (.iastore, 1) := by decide +kernel
theorem dX12_lays_39 : decode cX12_lays 39 = .ok (.iinc 2 1, 3) := by decide +kernel
theorem dX12_lays_42 : decode cX12_lays 42 = .ok (.goto (-21), 3) := by decide +kernel
theorem dX12_lays_45 : decode cX12_lays 45 = .ok (.iconst 0, 1) := by decide +kernel
theorem dX12_lays_46 : decode cX12_lays 46 = .ok (.istore_n 2, 1) := by decide +kernel
theorem dX12_lays_47 : decode cX12_lays 47 = .ok (.iload_n 2, 1) := by decide +kernel
theorem dX12_lays_48 : decode cX12_lays 48 = .ok (.aload_n 0, 1) := by decide +kernel
theorem dX12_lays_49 : decode cX12_lays 49 = .ok (.invokevirtual 129, 3) := by decide +kernel
theorem dX12_lays_52 : decode cX12_lays 52 = .ok (.if_icmp .ge 58, 3) := by decide +kernel
theorem dX12_lays_55 : decode cX12_lays 55 = .ok (.aload_n 0, 1) := by decide +kernel
theorem dX12_lays_56 : decode cX12_lays 56 = .ok (.getfield 33, 3) := by decide +kernel
theorem dX12_lays_59 : decode cX12_lays 59 = .ok (.iload_n 1, 1) := by decide +kernel
theorem dX12_lays_60 : decode cX12_lays 60 = .ok (.dup2, 1) := by decide +kernel
theorem dX12_lays_61 : decode cX12_lays 61 = .ok (.iaload, 1) := by decide +kernel
theorem dX12_lays_62 : decode cX12_lays 62 = .ok (.aload_n 0, 1) := by decide +kernel
theorem dX12_lays_63 : decode cX12_lays 63 = .ok (.iload_n 1, 1) := by decide +kernel
theorem dX12_lays_64 : decode cX12_lays 64 = .ok (.iload_n 2, 1) := by decide +kernel
theorem dX12_lays_65 : decode cX12_lays 65 = .ok (.invokevirtual 200, 3) := by decide +kernel
theorem dX12_lays_68 : decode cX12_lays 68 = .ok (.iadd, 1) := by decide +kernel
theorem dX12_lays_69 : decode cX12_lays 69 = .ok (.iastore, 1) := by decide +kernel
theorem dX12_lays_70 : decode cX12_lays 70 = .ok (.aload_n 0, 1) := by decide +kernel
theorem dX12_lays_71 : decode cX12_lays 71 = .ok (.iload_n 1, 1) := by decide +kernel
theorem dX12_lays_72 : decode cX12_lays 72 = .ok (.iload_n 2, 1) := by decide +kernel
theorem dX12_lays_73 : decode cX12_lays 73 = .ok (.invokevirtual 200, 3) := by decide +kernel
theorem dX12_lays_76 : decode cX12_lays 76 = .ok (.istore_n 3, 1) := by decide +kernel
theorem dX12_lays_77 : decode cX12_lays 77 = .ok (.iload_n 3, 1) := by decide +kernel
theorem dX12_lays_78 : decode cX12_lays 78 = .ok (.bipush 16, 2) := by decide +kernel
theorem dX12_lays_80 : decode cX12_lays 80 = .ok (.if_icmp .ge 24, 3) := by decide +kernel
theorem dX12_lays_83 : decode cX12_lays 83 = .ok (.aload_n 0, 1) := by decide +kernel
theorem dX12_lays_84 : decode cX12_lays 84 = .ok (.getfield 30, 3) := by decide +kernel
theorem dX12_lays_87 : decode cX12_lays 87 = .ok (.bipush 16, 2) := by decide +kernel
theorem dX12_lays_89 : decode cX12_lays 89 = .ok (.iload_n 1, 1) := by decide +kernel
theorem dX12_lays_90 : decode cX12_lays 90 = .ok (.imul, 1) := by decide +kernel
theorem dX12_lays_91 : decode cX12_lays 91 = .ok (.iload_n 3, 1) := by decide +kernel
theorem dX12_lays_92 : decode cX12_lays 92 = .ok (.iadd, 1) := by decide +kernel
theorem dX12_lays_93 : decode cX12_lays 93 = .ok (.dup2, 1) := by decide +kernel
theorem dX12_lays_94 : decode cX12_lays 94 = .ok (.iaload, 1) := by decide +kernel
theorem dX12_lays_95 : decode cX12_lays 95 = .ok (.iconst 1, 1) := by decide +kernel
theorem dX12_lays_96 : decode cX12_lays 96 = .ok (.iadd, 1) := by decide +kernel
theorem dX12_lays_97 : decode cX12_lays 97 = .ok (.iastore, 1) := by decide +kernel
theorem dX12_lays_98 : decode cX12_lays 98 = .ok (.iinc 3 1, 3) := by decide +kernel
theorem dX12_lays_101 : decode cX12_lays 101 = .ok (.goto (-24), 3) := by decide +kernel
theorem dX12_lays_104 : decode cX12_lays 104 = .ok (.iinc 2 1, 3) := by decide +kernel
theorem dX12_lays_107 : decode cX12_lays 107 = .ok (.goto (-60), 3) := by decide +kernel
theorem dX12_lays_110 : decode cX12_lays 110 = .ok (.aload_n 0, 1) := by decide +kernel
theorem dX12_lays_111 : decode cX12_lays 111 = .ok (.getfield 13, 3) := by decide +kernel
theorem dX12_lays_114 : decode cX12_lays 114 = .ok (.bipush 7, 2) := by decide +kernel
theorem dX12_lays_116 : decode cX12_lays 116 = .ok (.iaload, 1) := by decide +kernel
theorem dX12_lays_117 : decode cX12_lays 117 = .ok (.istore_n 2, 1) := by decide +kernel
theorem dX12_lays_118 : decode cX12_lays 118 = .ok (.aload_n 0, 1) := by decide +kernel
theorem dX12_lays_119 : decode cX12_lays 119 = .ok (.getfield 36, 3) := by decide +kernel
theorem dX12_lays_122 : decode cX12_lays 122 = .ok (.iload_n 1, 1) := by decide +kernel
theorem dX12_lays_123 : decode cX12_lays 123 = .ok (.iload_n 1, 1) := by decide +kernel
theorem dX12_lays_124 : decode cX12_lays 124 = .ok (.ifCond .eq 37, 3) := by decide +kernel
theorem dX12_lays_127 : decode cX12_lays 127 = .ok (.aload_n 0, 1) := by decide +kernel
theorem dX12_lays_128 : decode cX12_lays 128 = .ok (.getfield 13, 3) := by decide +kernel
theorem dX12_lays_131 : decode cX12_lays 131 = .ok (.bipush 13, 2) := by decide +kernel
theorem dX12_lays_133 : decode cX12_lays 133 = .ok (.iaload, 1) := by decide +kernel
theorem dX12_lays_134 : decode cX12_lays 134 = .ok (.iload_n 1, 1) := by decide +kernel
theorem dX12_lays_135 : decode cX12_lays 135 = .ok (.ishr, 1) := by decide +kernel
theorem dX12_lays_136 : decode cX12_lays 136 = .ok (.iconst 1, 1) := by decide +kernel
theorem dX12_lays_137 : decode cX12_lays 137 = .ok (.iand, 1) := by decide +kernel
theorem dX12_lays_138 : decode cX12_lays 138 = .ok (.iconst 1, 1) := by decide +kernel
theorem dX12_lays_139 : decode cX12_lays 139 = .ok (.if_icmp .eq 22, 3) := by decide +kernel
theorem dX12_lays_142 : decode cX12_lays 142 = .ok (.iload_n 2, 1) := by decide +kernel
theorem dX12_lays_143 : decode cX12_lays 143 = .ok (.ifCond .le 22, 3) := by decide +kernel
theorem dX12_lays_146 : decode cX12_lays 146 = .ok (.aload_n 0, 1) := by decide +kernel
theorem dX12_lays_147 : decode cX12_lays 147 = .ok (.getfield 30, 3) := by decide +kernel
theorem dX12_lays_150 : decode cX12_lays 150 = .ok (.iload_n 1, 1) := by decide +kernel
theorem dX12_lays_151 : decode cX12_lays 151 = .ok (.iload_n 1, 1) := by decide +kernel
theorem dX12_lays_152 : decode cX12_lays 152 = .ok (.iconst 1, 1) := by decide +kernel
theorem dX12_lays_153 : decode cX12_lays 153 = .ok (.isub, 1) := by decide +kernel
theorem dX12_lays_154 : decode cX12_lays 154 = .ok (.invokestatic 206, 3) := by decide +kernel
theorem dX12_lays_157 : decode cX12_lays 157 = .ok (.iload_n 2, 1) := by decide +kernel
theorem dX12_lays_158 : decode cX12_lays 158 = .ok (.if_icmp .le 7, 3) := by decide +kernel
theorem dX12_lays_161 : decode cX12_lays 161 = .ok (.iconst 1, 1) := by decide +kernel
theorem dX12_lays_162 : decode cX12_lays 162 = .ok (.goto 4, 3) := by decide +kernel
theorem dX12_lays_165 : decode cX12_lays 165 = .ok (.iconst 0, 1) := by decide +kernel
theorem dX12_lays_166 : decode cX12_lays 166 = .ok (.bastore, 1) := by decide +kernel
theorem dX12_lays_167 : decode cX12_lays 167 = .ok (.iinc 1 1, 3) := by decide +kernel
theorem dX12_lays_170 : decode cX12_lays 170 = .ok (.goto (-168), 3) := by decide +kernel
theorem dX12_lays_173 : decode cX12_lays 173 = .ok (.return_, 1) := by decide +kernel
theorem dX12_scenes_0 : decode cX12_scenes 0 = .ok (.iconst 0, 1) := by decide +kernel
theorem dX12_scenes_1 : decode cX12_scenes 1 = .ok (.istore_n 1, 1) := by decide +kernel
theorem dX12_scenes_2 : decode cX12_scenes 2 = .ok (.iconst 0, 1) := by decide +kernel
theorem dX12_scenes_3 : decode cX12_scenes 3 = .ok (.istore_n 2, 1) := by decide +kernel
theorem dX12_scenes_4 : decode cX12_scenes 4 = .ok (.iload_n 2, 1) := by decide +kernel
theorem dX12_scenes_5 : decode cX12_scenes 5 = .ok (.aload_n 0, 1) := by decide +kernel
theorem dX12_scenes_6 : decode cX12_scenes 6 = .ok (.getfield 13, 3) := by decide +kernel
theorem dX12_scenes_9 : decode cX12_scenes 9 = .ok (.iconst 2, 1) := by decide +kernel
theorem dX12_scenes_10 : decode cX12_scenes 10 = .ok (.iaload, 1) := by decide +kernel
theorem dX12_scenes_11 : decode cX12_scenes 11 = .ok (.if_icmp .ge 26, 3) := by decide +kernel
theorem dX12_scenes_14 : decode cX12_scenes 14 = .ok (.iload_n 1, 1) := by decide +kernel
theorem dX12_scenes_15 : decode cX12_scenes 15 = .ok (.aload_n 0, 1) := by decide +kernel
theorem dX12_scenes_16 : decode cX12_scenes 16 = .ok (.getfield 36, 3) := by decide +kernel
theorem dX12_scenes_19 : decode cX12_scenes 19 = .ok (.iload_n 2, 1) := by decide +kernel
theorem dX12_scenes_20 : decode cX12_scenes 20 = .ok (.baload, 1) := by decide +kernel
theorem dX12_scenes_21 : decode cX12_scenes 21 = .ok (.ifCond .eq 7, 3) := by decide +kernel
theorem dX12_scenes_24 : decode cX12_scenes 24 = .ok (.iconst 1, 1) := by decide +kernel
theorem dX12_scenes_25 : decode cX12_scenes 25 = .ok (.goto 4, 3) := by decide +kernel
theorem dX12_scenes_28 : decode cX12_scenes 28 = .ok (.iconst 0, 1) := by decide +kernel
theorem dX12_scenes_29 : decode cX12_scenes 29 = .ok (.iadd, 1) := by decide +kernel
theorem dX12_scenes_30 : decode cX12_scenes 30 = .ok (.istore_n 1, 1) := by decide +kernel
theorem dX12_scenes_31 : decode cX12_scenes 31 = .ok (.iinc 2 1, 3) := by decide +kernel
theorem dX12_scenes_34 : decode cX12_scenes 34 = .ok (.goto (-30), 3) := by decide +kernel
theorem dX12_scenes_37 : decode cX12_scenes 37 = .ok (.iload_n 1, 1) := by decide +kernel
theorem dX12_scenes_38 : decode cX12_scenes 38 = .ok (.ireturn, 1) := by decide +kernel
theorem dX12_sceneOf_0 : decode cX12_sceneOf 0 = .ok (.iconst (-1), 1) := by decide +kernel
theorem dX12_sceneOf_1 : decode cX12_sceneOf 1 = .ok (.istore_n 2, 1) := by decide +kernel
theorem dX12_sceneOf_2 : decode cX12_sceneOf 2 = .ok (.iconst 0, 1) := by decide +kernel
theorem dX12_sceneOf_3 : decode cX12_sceneOf 3 = .ok (.istore_n 3, 1) := by decide +kernel
theorem dX12_sceneOf_4 : decode cX12_sceneOf 4 = .ok (.iload_n 3, 1) := by decide +kernel
theorem dX12_sceneOf_5 : decode cX12_sceneOf 5 = .ok (.iload_n 1, 1) := by decide +kernel
theorem dX12_sceneOf_6 : decode cX12_sceneOf 6 = .ok (.if_icmp .gt 26, 3) := by decide +kernel
theorem dX12_sceneOf_9 : decode cX12_sceneOf 9 = .ok (.iload_n 2, 1) := by decide +kernel
theorem dX12_sceneOf_10 : decode cX12_sceneOf 10 = .ok (.aload_n 0, 1) := by decide +kernel
theorem dX12_sceneOf_11 : decode cX12_sceneOf 11 = .ok (.getfield 36, 3) := by decide +kernel
theorem dX12_sceneOf_14 : decode cX12_sceneOf 14 = .ok (.iload_n 3, 1) := by decide +kernel
theorem dX12_sceneOf_15 : decode cX12_sceneOf 15 = .ok (.baload, 1) := by decide +kernel
theorem dX12_sceneOf_16 : decode cX12_sceneOf 16 = .ok (.ifCond .eq 7, 3) := by decide +kernel
theorem dX12_sceneOf_19 : decode cX12_sceneOf 19 = .ok (.iconst 1, 1) := by decide +kernel
theorem dX12_sceneOf_20 : decode cX12_sceneOf 20 = .ok (.goto 4, 3) := by decide +kernel
theorem dX12_sceneOf_23 : decode cX12_sceneOf 23 = .ok (.iconst 0, 1) := by decide +kernel
theorem dX12_sceneOf_24 : decode cX12_sceneOf 24 = .ok (.iadd, 1) := by decide +kernel
theorem dX12_sceneOf_25 : decode cX12_sceneOf 25 = .ok (.istore_n 2, 1) := by decide +kernel
theorem dX12_sceneOf_26 : decode cX12_sceneOf 26 = .ok (.iinc 3 1, 3) := by decide +kernel
theorem dX12_sceneOf_29 : decode cX12_sceneOf 29 = .ok (.goto (-25), 3) := by decide +kernel
theorem dX12_sceneOf_32 : decode cX12_sceneOf 32 = .ok (.iload_n 2, 1) := by decide +kernel
theorem dX12_sceneOf_33 : decode cX12_sceneOf 33 = .ok (.ireturn, 1) := by decide +kernel
theorem dX12_isSkipped_0 : decode cX12_isSkipped 0 = .ok (.aload_n 0, 1) := by decide +kernel
theorem dX12_isSkipped_1 : decode cX12_isSkipped 1 = .ok (.getfield 13, 3) := by decide +kernel
theorem dX12_isSkipped_4 : decode cX12_isSkipped 4 = .ok (.bipush 14, 2) := by decide +kernel
theorem dX12_isSkipped_6 : decode cX12_isSkipped 6 = .ok (.iaload, 1) := by decide +kernel
theorem dX12_isSkipped_7 : decode cX12_isSkipped 7 = .ok (.iload_n 1, 1) := by decide +kernel
theorem dX12_isSkipped_8 : decode cX12_isSkipped 8 = .ok (.ishr, 1) := by decide +kernel
theorem dX12_isSkipped_9 : decode cX12_isSkipped 9 = .ok (.iconst 1, 1) := by decide +kernel
theorem dX12_isSkipped_10 : decode cX12_isSkipped 10 = .ok (.iand, 1) := by decide +kernel
theorem dX12_isSkipped_11 : decode cX12_isSkipped 11 = .ok (.iconst 1, 1) := by decide +kernel
theorem dX12_isSkipped_12 : decode cX12_isSkipped 12 = .ok (.if_icmp .ne 7, 3) := by decide +kernel
theorem dX12_isSkipped_15 : decode cX12_isSkipped 15 = .ok (.iconst 1, 1) := by decide +kernel
theorem dX12_isSkipped_16 : decode cX12_isSkipped 16 = .ok (.goto 4, 3) := by decide +kernel
theorem dX12_isSkipped_19 : decode cX12_isSkipped 19 = .ok (.iconst 0, 1) := by decide +kernel
theorem dX12_isSkipped_20 : decode cX12_isSkipped 20 = .ok (.ireturn, 1) := by decide +kernel
theorem dX12_awayFrom_0 : decode cX12_awayFrom 0 = .ok (.iconst 0, 1) := by decide +kernel
theorem dX12_awayFrom_1 : decode cX12_awayFrom 1 = .ok (.istore 4, 2) := by decide +kernel
theorem dX12_awayFrom_3 : decode cX12_awayFrom 3 = .ok (.iload_n 2, 1) := by decide +kernel
theorem dX12_awayFrom_4 : decode cX12_awayFrom 4 = .ok (.istore 5, 2) := by decide +kernel
theorem dX12_awayFrom_6 : decode cX12_awayFrom 6 = .ok (.iload 5, 2) := by decide +kernel
theorem dX12_awayFrom_8 : decode cX12_awayFrom 8 = .ok (.iload_n 3, 1) := by decide +kernel
theorem dX12_awayFrom_9 : decode cX12_awayFrom 9 = .ok (.if_icmp .gt 24, 3) := by decide +kernel
theorem dX12_awayFrom_12 : decode cX12_awayFrom 12 = .ok (.iload 4, 2) := by decide +kernel
theorem dX12_awayFrom_14 : decode cX12_awayFrom 14 = .ok (.aload_n 0, 1) := by decide +kernel
theorem dX12_awayFrom_15 : decode cX12_awayFrom 15 = .ok (.getfield 30, 3) := by decide +kernel
theorem dX12_awayFrom_18 : decode cX12_awayFrom 18 = .ok (.iload_n 1, 1) := by decide +kernel
theorem dX12_awayFrom_19 : decode cX12_awayFrom 19 = .ok (.iload 5, 2) := by decide +kernel
theorem dX12_awayFrom_21 : decode cX12_awayFrom 21 = .ok (.invokestatic 206, 3) := by decide +kernel
theorem dX12_awayFrom_24 : decode cX12_awayFrom 24 = .ok (.iadd, 1) := by decide +kernel
theorem dX12_awayFrom_25 : decode cX12_awayFrom 25 = .ok (.istore 4, 2) := by decide +kernel
theorem dX12_awayFrom_27 : decode cX12_awayFrom 27 = .ok (.iinc 5 1, 3) := by decide +kernel
theorem dX12_awayFrom_30 : decode cX12_awayFrom 30 = .ok (.goto (-24), 3) := by decide +kernel
theorem dX12_awayFrom_33 : decode cX12_awayFrom 33 = .ok (.iload 4, 2) := by decide +kernel
theorem dX12_awayFrom_35 : decode cX12_awayFrom 35 = .ok (.ireturn, 1) := by decide +kernel
theorem dX12_midst_0 : decode cX12_midst 0 = .ok (.iload_n 1, 1) := by decide +kernel
theorem dX12_midst_1 : decode cX12_midst 1 = .ok (.istore_n 3, 1) := by decide +kernel
theorem dX12_midst_2 : decode cX12_midst 2 = .ok (.iload_n 1, 1) := by decide +kernel
theorem dX12_midst_3 : decode cX12_midst 3 = .ok (.iconst 1, 1) := by decide +kernel
theorem dX12_midst_4 : decode cX12_midst 4 = .ok (.iadd, 1) := by decide +kernel
theorem dX12_midst_5 : decode cX12_midst 5 = .ok (.istore 4, 2) := by decide +kernel
theorem dX12_midst_7 : decode cX12_midst 7 = .ok (.iload 4, 2) := by decide +kernel
theorem dX12_midst_9 : decode cX12_midst 9 = .ok (.iload_n 2, 1) := by decide +kernel
theorem dX12_midst_10 : decode cX12_midst 10 = .ok (.if_icmp .gt 30, 3) := by decide +kernel
theorem dX12_midst_13 : decode cX12_midst 13 = .ok (.aload_n 0, 1) := by decide +kernel
theorem dX12_midst_14 : decode cX12_midst 14 = .ok (.iload 4, 2) := by decide +kernel
theorem dX12_midst_16 : decode cX12_midst 16 = .ok (.iload_n 1, 1) := by decide +kernel
theorem dX12_midst_17 : decode cX12_midst 17 = .ok (.iload_n 2, 1) := by decide +kernel
theorem dX12_midst_18 : decode cX12_midst 18 = .ok (.invokevirtual 210, 3) := by decide +kernel
theorem dX12_midst_21 : decode cX12_midst 21 = .ok (.aload_n 0, 1) := by decide +kernel
theorem dX12_midst_22 : decode cX12_midst 22 = .ok (.iload_n 3, 1) := by decide +kernel
theorem dX12_midst_23 : decode cX12_midst 23 = .ok (.iload_n 1, 1) := by decide +kernel
theorem dX12_midst_24 : decode cX12_midst 24 = .ok (.iload_n 2, 1) := by decide +kernel
theorem dX12_midst_25 : decode cX12_midst 25 = .ok (.invokevirtual 210, 3) := by decide +kernel
theorem dX12_midst_28 : decode cX12_midst 28 = .ok (.if_icmp .ge 6, 3) := by decide +kernel
theorem dX12_midst_31 : decode cX12_midst 31 = .ok (.iload 4, 2) := by decide +kernel
theorem dX12_midst_33 : decode cX12_midst 33 = .ok (.istore_n 3, 1) := by decide +kernel
theorem dX12_midst_34 : decode cX12_midst 34 = .ok (.iinc 4 1, 3) := by decide +kernel
theorem dX12_midst_37 : decode cX12_midst 37 = .ok (.goto (-30), 3) := by decide +kernel
theorem dX12_midst_40 : decode cX12_midst 40 = .ok (.iload_n 3, 1) := by decide +kernel
theorem dX12_midst_41 : decode cX12_midst 41 = .ok (.ireturn, 1) := by decide +kernel
theorem dX12_firstOfScene_0 : decode cX12_firstOfScene 0 = .ok (.iconst 0, 1) := by decide +kernel
theorem dX12_firstOfScene_1 : decode cX12_firstOfScene 1 = .ok (.istore_n 2, 1) := by decide +kernel
theorem dX12_firstOfScene_2 : decode cX12_firstOfScene 2 = .ok (.aload_n 0, 1) := by decide +kernel
theorem dX12_firstOfScene_3 : decode cX12_firstOfScene 3 = .ok (.iload_n 2, 1) := by decide +kernel
theorem dX12_firstOfScene_4 : decode cX12_firstOfScene 4 = .ok (.invokevirtual 214, 3) := by decide +kernel
theorem dX12_firstOfScene_7 : decode cX12_firstOfScene 7 = .ok (.iload_n 1, 1) := by decide +kernel
theorem dX12_firstOfScene_8 : decode cX12_firstOfScene 8 = .ok (.if_icmp .ge 9, 3) := by decide +kernel
theorem dX12_firstOfScene_11 : decode cX12_firstOfScene 11 = .ok (.iinc 2 1, 3) := by decide +kernel
theorem dX12_firstOfScene_14 : decode cX12_firstOfScene 14 = .ok (.goto (-12), 3) := by decide +kernel
theorem dX12_firstOfScene_17 : decode cX12_firstOfScene 17 = .ok (.iload_n 2, 1) := by decide +kernel
theorem dX12_firstOfScene_18 : decode cX12_firstOfScene 18 = .ok (.ireturn, 1) := by decide +kernel
theorem dX12_keyOf_0 : decode cX12_keyOf 0 = .ok (.aload_n 0, 1) := by decide +kernel
theorem dX12_keyOf_1 : decode cX12_keyOf 1 = .ok (.iload_n 1, 1) := by decide +kernel
theorem dX12_keyOf_2 : decode cX12_keyOf 2 = .ok (.invokevirtual 217, 3) := by decide +kernel
theorem dX12_keyOf_5 : decode cX12_keyOf 5 = .ok (.istore_n 2, 1) := by decide +kernel
theorem dX12_keyOf_6 : decode cX12_keyOf 6 = .ok (.iload_n 2, 1) := by decide +kernel
theorem dX12_keyOf_7 : decode cX12_keyOf 7 = .ok (.istore_n 3, 1) := by decide +kernel
theorem dX12_keyOf_8 : decode cX12_keyOf 8 = .ok (.iload_n 3, 1) := by decide +kernel
theorem dX12_keyOf_9 : decode cX12_keyOf 9 = .ok (.iconst 1, 1) := by decide +kernel
theorem dX12_keyOf_10 : decode cX12_keyOf 10 = .ok (.iadd, 1) := by decide +kernel
theorem dX12_keyOf_11 : decode cX12_keyOf 11 = .ok (.aload_n 0, 1) := by decide +kernel
theorem dX12_keyOf_12 : decode cX12_keyOf 12 = .ok (.getfield 13, 3) := by decide +kernel
theorem dX12_keyOf_15 : decode cX12_keyOf 15 = .ok (.iconst 2, 1) := by decide +kernel
theorem dX12_keyOf_16 : decode cX12_keyOf 16 = .ok (.iaload, 1) := by decide +kernel
theorem dX12_keyOf_17 : decode cX12_keyOf 17 = .ok (.if_icmp .ge 20, 3) := by decide +kernel
theorem dX12_keyOf_20 : decode cX12_keyOf 20 = .ok (.aload_n 0, 1) := by decide +kernel
theorem dX12_keyOf_21 : decode cX12_keyOf 21 = .ok (.getfield 36, 3) := by decide +kernel
theorem dX12_keyOf_24 : decode cX12_keyOf 24 = .ok (.iload_n 3, 1) := by decide +kernel
theorem dX12_keyOf_25 : decode cX12_keyOf 25 = .ok (.iconst 1, 1) := by decide +kernel
theorem dX12_keyOf_26 : decode cX12_keyOf 26 = .ok (.iadd, 1) := by decide +kernel
theorem dX12_keyOf_27 : decode cX12_keyOf 27 = .ok (.baload, 1) := by decide +kernel
theorem dX12_keyOf_28 : decode cX12_keyOf 28 = .ok (.ifCond .ne 9, 3) := by decide +kernel
theorem dX12_keyOf_31 : decode cX12_keyOf 31 = .ok (.iinc 3 1, 3) := by decide +kernel
theorem dX12_keyOf_34 : decode cX12_keyOf 34 = .ok (.goto (-26), 3) := by decide +kernel
theorem dX12_keyOf_37 : decode cX12_keyOf 37 = .ok (.aload_n 0, 1) := by decide +kernel
theorem dX12_keyOf_38 : decode cX12_keyOf 38 = .ok (.iload_n 2, 1) := by decide +kernel
theorem dX12_keyOf_39 : decode cX12_keyOf 39 = .ok (.iload_n 3, 1) := by decide +kernel
theorem dX12_keyOf_40 : decode cX12_keyOf 40 = .ok (.invokevirtual 220, 3) := by decide +kernel
theorem dX12_keyOf_43 : decode cX12_keyOf 43 = .ok (.ireturn, 1) := by decide +kernel
theorem dX12_laysTarget_0 : decode cX12_laysTarget 0 = .ok (.iconst 0, 1) := by decide +kernel
theorem dX12_laysTarget_1 : decode cX12_laysTarget 1 = .ok (.istore_n 2, 1) := by decide +kernel
theorem dX12_laysTarget_2 : decode cX12_laysTarget 2 = .ok (.aload_n 0, 1) := by decide +kernel
theorem dX12_laysTarget_3 : decode cX12_laysTarget 3 = .ok (.iconst 0, 1) := by decide +kernel
theorem dX12_laysTarget_4 : decode cX12_laysTarget 4 = .ok (.putfield 223, 3) := by decide +kernel
theorem dX12_laysTarget_7 : decode cX12_laysTarget 7 = .ok (.iconst 0, 1) := by decide +kernel
theorem dX12_laysTarget_8 : decode cX12_laysTarget 8 = .ok (.istore_n 3, 1) := by decide +kernel
theorem dX12_laysTarget_9 : decode cX12_laysTarget 9 = .ok (.iload_n 3, 1) := by decide +kernel
theorem dX12_laysTarget_10 : decode cX12_laysTarget 10 = .ok (.bipush 16, 2) := by decide +kernel
theorem dX12_laysTarget_12 : decode cX12_laysTarget 12 = .ok (.if_icmp .ge 16, 3) := by decide +kernel
theorem dX12_laysTarget_15 : decode cX12_laysTarget 15 = .ok (.aload_n 0, 1) := by decide +kernel
theorem dX12_laysTarget_16 : decode cX12_laysTarget 16 = .ok (.getfield 40, 3) := by decide +kernel
theorem dX12_laysTarget_19 : decode cX12_laysTarget 19 = .ok (.iload_n 3, 1) := by decide +kernel
theorem dX12_laysTarget_20 : decode cX12_laysTarget 20 = .ok (.iconst 0, 1) := by decide +kernel
theorem dX12_laysTarget_21 : decode cX12_laysTarget 21 = .ok (.iastore, 1) := by decide +kernel
theorem dX12_laysTarget_22 : decode cX12_laysTarget 22 = .ok (.iinc 3 1, 3) := by decide +kernel
theorem dX12_laysTarget_25 : decode cX12_laysTarget 25 = .ok (.goto (-16), 3) := by decide +kernel
theorem dX12_laysTarget_28 : decode cX12_laysTarget 28 = .ok (.iload_n 1, 1) := by decide +kernel
theorem dX12_laysTarget_29 : decode cX12_laysTarget 29 = .ok (.aload_n 0, 1) := by decide +kernel
theorem dX12_laysTarget_30 : decode cX12_laysTarget 30 = .ok (.getfield 13, 3) := by decide +kernel
theorem dX12_laysTarget_33 : decode cX12_laysTarget 33 = .ok (.iconst 3, 1) := by decide +kernel
theorem dX12_laysTarget_34 : decode cX12_laysTarget 34 = .ok (.iaload, 1) := by decide +kernel
theorem dX12_laysTarget_35 : decode cX12_laysTarget 35 = .ok (.isub, 1) := by decide +kernel
theorem dX12_laysTarget_36 : decode cX12_laysTarget 36 = .ok (.istore_n 3, 1) := by decide +kernel
theorem dX12_laysTarget_37 : decode cX12_laysTarget 37 = .ok (.iload_n 3, 1) := by decide +kernel
theorem dX12_laysTarget_38 : decode cX12_laysTarget 38 = .ok (.iload_n 1, 1) := by decide +kernel
theorem dX12_laysTarget_39 : decode cX12_laysTarget 39 = .ok (.aload_n 0, 1) := by decide +kernel
theorem dX12_laysTarget_40 : decode cX12_laysTarget 40 = .ok (.getfield 13, 3) := by decide +kernel
theorem dX12_laysTarget_43 : decode cX12_laysTarget 43 = .ok (.iconst 3, 1) := by decide +kernel
theorem dX12_laysTarget_44 : decode cX12_laysTarget 44 = .ok (.iaload, 1) := by decide +kernel
theorem dX12_laysTarget_45 : decode cX12_laysTarget 45 = .ok (.iadd, 1) := by decide +kernel
theorem dX12_laysTarget_46 : decode cX12_laysTarget 46 = .ok (.if_icmp .gt 107, 3) := by decide +kernel
theorem dX12_laysTarget_49 : decode cX12_laysTarget 49 = .ok (.aload_n 0, 1) := by decide +kernel
theorem dX12_laysTarget_50 : decode cX12_laysTarget 50 = .ok (.iload_n 3, 1) := by decide +kernel
theorem dX12_laysTarget_51 : decode cX12_laysTarget 51 = .ok (.invokevirtual 182, 3) := by decide +kernel
theorem dX12_laysTarget_54 : decode cX12_laysTarget 54 = .ok (.ifCond .eq 93, 3) := by decide +kernel
theorem dX12_laysTarget_57 : decode cX12_laysTarget 57 = .ok (.aload_n 0, 1) := by decide +kernel
theorem dX12_laysTarget_58 : decode cX12_laysTarget 58 = .ok (.iload_n 3, 1) := by decide +kernel
theorem dX12_laysTarget_59 : decode cX12_laysTarget 59 = .ok (.invokevirtual 226, 3) := by decide +kernel
theorem dX12_laysTarget_62 : decode cX12_laysTarget 62 = .ok (.ifCond .ne 85, 3) := by decide +kernel
theorem dX12_laysTarget_65 : decode cX12_laysTarget 65 = .ok (.aload_n 0, 1) := by decide +kernel
theorem dX12_laysTarget_66 : decode cX12_laysTarget 66 = .ok (.iload_n 3, 1) := by decide +kernel
theorem dX12_laysTarget_67 : decode cX12_laysTarget 67 = .ok (.invokevirtual 214, 3) := by decide +kernel
theorem dX12_laysTarget_70 : decode cX12_laysTarget 70 = .ok (.aload_n 0, 1) := by decide +kernel
theorem dX12_laysTarget_71 : decode cX12_laysTarget 71 = .ok (.iload_n 1, 1) := by decide +kernel
theorem dX12_laysTarget_72 : decode cX12_laysTarget 72 = .ok (.invokevirtual 214, 3) := by decide +kernel
theorem dX12_laysTarget_75 : decode cX12_laysTarget 75 = .ok (.if_icmp .eq 6, 3) := by decide +kernel
theorem dX12_laysTarget_78 : decode cX12_laysTarget 78 = .ok (.goto 69, 3) := by decide +kernel
theorem dX12_laysTarget_81 : decode cX12_laysTarget 81 = .ok (.aload_n 0, 1) := by decide +kernel
theorem dX12_laysTarget_82 : decode cX12_laysTarget 82 = .ok (.getfield 13, 3) := by decide +kernel
theorem dX12_laysTarget_85 : decode cX12_laysTarget 85 = .ok (.bipush 9, 2) := by decide +kernel
theorem dX12_laysTarget_87 : decode cX12_laysTarget 87 = .ok (.iload_n 3, 1) := by decide +kernel
theorem dX12_laysTarget_88 : decode cX12_laysTarget 88 = .ok (.iload_n 1, 1) := by decide +kernel
theorem dX12_laysTarget_89 : decode cX12_laysTarget 89 = .ok (.invokestatic 203, 3) := by decide +kernel
theorem dX12_laysTarget_92 : decode cX12_laysTarget 92 = .ok (.iadd, 1) := by decide +kernel
theorem dX12_laysTarget_93 : decode cX12_laysTarget 93 = .ok (.iaload, 1) := by decide +kernel
theorem dX12_laysTarget_94 : decode cX12_laysTarget 94 = .ok (.istore 4, 2) := by decide +kernel
theorem dX12_laysTarget_96 : decode cX12_laysTarget 96 = .ok (.iload_n 2, 1) := by decide +kernel
theorem dX12_laysTarget_97 : decode cX12_laysTarget 97 = .ok (.iload 4, 2) := by decide +kernel
theorem dX12_laysTarget_99 : decode cX12_laysTarget 99 = .ok (.iadd, 1) := by decide +kernel
theorem dX12_laysTarget_100 : decode cX12_laysTarget 100 = .ok (.istore_n 2, 1) := by decide +kernel
theorem dX12_laysTarget_101 : decode cX12_laysTarget 101 = .ok (.aload_n 0, 1) := by decide +kernel
theorem dX12_laysTarget_102 : decode cX12_laysTarget 102 = .ok (.dup, 1) := by decide +kernel
theorem dX12_laysTarget_103 : decode cX12_laysTarget 103 = .ok (.getfield 223, 3) := by decide +kernel
theorem dX12_laysTarget_106 : decode cX12_laysTarget 106 = .ok (.iconst 1, 1) := by decide +kernel
theorem dX12_laysTarget_107 : decode cX12_laysTarget 107 = .ok (.iadd, 1) := by decide +kernel
theorem dX12_laysTarget_108 : decode cX12_laysTarget 108 = .ok (.putfield 223, 3) := by decide +kernel
theorem dX12_laysTarget_111 : decode cX12_laysTarget 111 = .ok (.iconst 0, 1) := by decide +kernel
theorem dX12_laysTarget_112 : decode cX12_laysTarget 112 = .ok (.istore 5, 2) := by decide +kernel
theorem dX12_laysTarget_114 : decode cX12_laysTarget 114 = .ok (.iload 5, 2) := by decide +kernel
theorem dX12_laysTarget_116 : decode cX12_laysTarget 116 = .ok (.bipush 16, 2) := by decide +kernel
theorem dX12_laysTarget_118 : decode cX12_laysTarget 118 = .ok (.if_icmp .ge 29, 3) := by decide +kernel
theorem dX12_laysTarget_121 : decode cX12_laysTarget 121 = .ok (.aload_n 0, 1) := by decide +kernel
theorem dX12_laysTarget_122 : decode cX12_laysTarget 122 = .ok (.getfield 40, 3) := by decide +kernel
theorem dX12_laysTarget_125 : decode cX12_laysTarget 125 = .ok (.iload 5, 2) := by decide +kernel
theorem dX12_laysTarget_127 : decode cX12_laysTarget 127 = .ok (.dup2, 1) := by decide +kernel
theorem dX12_laysTarget_128 : decode cX12_laysTarget 128 = .ok (.iaload, 1) := by decide +kernel
theorem dX12_laysTarget_129 : decode cX12_laysTarget 129 = .ok (.iload 4, 2) := by decide +kernel
theorem dX12_laysTarget_131 : decode cX12_laysTarget 131 = .ok (.aload_n 0, 1) := by decide +kernel
theorem dX12_laysTarget_132 : decode cX12_laysTarget 132 = .ok (.iload_n 3, 1) := by decide +kernel
theorem dX12_laysTarget_133 : decode cX12_laysTarget 133 = .ok (.iload 5, 2) := by decide +kernel
theorem dX12_laysTarget_135 : decode cX12_laysTarget 135 = .ok (.invokevirtual 229, 3) := by decide +kernel
theorem dX12_laysTarget_138 : decode cX12_laysTarget 138 = .ok (.imul, 1) := by decide +kernel
theorem dX12_laysTarget_139 : decode cX12_laysTarget 139 = .ok (.iadd, 1) := by decide +kernel
theorem dX12_laysTarget_140 : decode cX12_laysTarget 140 = .ok (.iastore, 1) := by decide +kernel
theorem dX12_laysTarget_141 : decode cX12_laysTarget 141 = .ok (.iinc 5 1, 3) := by decide +kernel
theorem dX12_laysTarget_144 : decode cX12_laysTarget 144 = .ok (.goto (-30), 3) := by decide +kernel
theorem dX12_laysTarget_147 : decode cX12_laysTarget 147 = .ok (.iinc 3 1, 3) := by decide +kernel
theorem dX12_laysTarget_150 : decode cX12_laysTarget 150 = .ok (.goto (-113), 3) := by decide +kernel
theorem dX12_laysTarget_153 : decode cX12_laysTarget 153 = .ok (.iconst 0, 1) := by decide +kernel
theorem dX12_laysTarget_154 : decode cX12_laysTarget 154 = .ok (.istore_n 3, 1) := by decide +kernel
theorem dX12_laysTarget_155 : decode cX12_laysTarget 155 = .ok (.iload_n 3, 1) := by decide +kernel
theorem dX12_laysTarget_156 : decode cX12_laysTarget 156 = .ok (.bipush 16, 2) := by decide +kernel
theorem dX12_laysTarget_158 : decode cX12_laysTarget 158 = .ok (.if_icmp .ge 39, 3) := by decide +kernel
theorem dX12_laysTarget_161 : decode cX12_laysTarget 161 = .ok (.aload_n 0, 1) := by decide +kernel
theorem dX12_laysTarget_162 : decode cX12_laysTarget 162 = .ok (.getfield 40, 3) := by decide +kernel
theorem dX12_laysTarget_165 : decode cX12_laysTarget 165 = .ok (.iload_n 3, 1) := by decide +kernel
theorem dX12_laysTarget_166 : decode cX12_laysTarget 166 = .ok (.aload_n 0, 1) := by decide +kernel
theorem dX12_laysTarget_167 : decode cX12_laysTarget 167 = .ok (.getfield 223, 3) := by decide +kernel
theorem dX12_laysTarget_170 : decode cX12_laysTarget 170 = .ok (.ifCond .ne 12, 3) := by decide +kernel
theorem dX12_laysTarget_173 : decode cX12_laysTarget 173 = .ok (.aload_n 0, 1) := by decide +kernel
theorem dX12_laysTarget_174 : decode cX12_laysTarget 174 = .ok (.iload_n 1, 1) := by decide +kernel
theorem dX12_laysTarget_175 : decode cX12_laysTarget 175 = .ok (.iload_n 3, 1) := by decide +kernel
theorem dX12_laysTarget_176 : decode cX12_laysTarget 176 = .ok (.invokevirtual 229, 3) := by decide +kernel
theorem dX12_laysTarget_179 : decode cX12_laysTarget 179 = .ok (.goto 11, 3) := by decide +kernel
theorem dX12_laysTarget_182 : decode cX12_laysTarget 182 = .ok (.aload_n 0, 1) := by decide +kernel
theorem dX12_laysTarget_183 : decode cX12_laysTarget 183 = .ok (.getfield 40, 3) := by decide +kernel
theorem dX12_laysTarget_186 : decode cX12_laysTarget 186 = .ok (.iload_n 3, 1) := by decide +kernel
theorem dX12_laysTarget_187 : decode cX12_laysTarget 187 = .ok (.iaload, 1) := by decide +kernel
theorem dX12_laysTarget_188 : decode cX12_laysTarget 188 = .ok (.iload_n 2, 1) := by decide +kernel
theorem dX12_laysTarget_189 : decode cX12_laysTarget 189 = .ok (.idiv, 1) := by decide +kernel
theorem dX12_laysTarget_190 : decode cX12_laysTarget 190 = .ok (.iastore, 1) := by decide +kernel
theorem dX12_laysTarget_191 : decode cX12_laysTarget 191 = .ok (.iinc 3 1, 3) := by decide +kernel
theorem dX12_laysTarget_194 : decode cX12_laysTarget 194 = .ok (.goto (-39), 3) := by decide +kernel
theorem dX12_laysTarget_197 : decode cX12_laysTarget 197 = .ok (.aload_n 0, 1) := by decide +kernel
theorem dX12_laysTarget_198 : decode cX12_laysTarget 198 = .ok (.getfield 223, 3) := by decide +kernel
theorem dX12_laysTarget_201 : decode cX12_laysTarget 201 = .ok (.ifCond .ne 8, 3) := by decide +kernel
theorem dX12_laysTarget_204 : decode cX12_laysTarget 204 = .ok (.aload_n 0, 1) := by decide +kernel
theorem dX12_laysTarget_205 : decode cX12_laysTarget 205 = .ok (.iconst 1, 1) := by decide +kernel
theorem dX12_laysTarget_206 : decode cX12_laysTarget 206 = .ok (.putfield 223, 3) := by decide +kernel
theorem dX12_laysTarget_209 : decode cX12_laysTarget 209 = .ok (.aload_n 0, 1) := by decide +kernel
theorem dX12_laysTarget_210 : decode cX12_laysTarget 210 = .ok (.getfield 13, 3) := by decide +kernel
theorem dX12_laysTarget_213 : decode cX12_laysTarget 213 = .ok (.bipush 8, 2) := by decide +kernel
theorem dX12_laysTarget_215 : decode cX12_laysTarget 215 = .ok (.iaload, 1) := by decide +kernel
theorem dX12_laysTarget_216 : decode cX12_laysTarget 216 = .ok (.iconst 2, 1) := by decide +kernel
theorem dX12_laysTarget_217 : decode cX12_laysTarget 217 = .ok (.if_icmp .eq 4, 3) := by decide +kernel
theorem dX12_laysTarget_220 : decode cX12_laysTarget 220 = .ok (.return_, 1) := by decide +kernel
theorem dX12_laysTarget_221 : decode cX12_laysTarget 221 = .ok (.aload_n 0, 1) := by decide +kernel
theorem dX12_laysTarget_222 : decode cX12_laysTarget 222 = .ok (.aload_n 0, 1) := by decide +kernel
theorem dX12_laysTarget_223 : decode cX12_laysTarget 223 = .ok (.iload_n 1, 1) := by decide +kernel
theorem dX12_laysTarget_224 : decode cX12_laysTarget 224 = .ok (.invokevirtual 214, 3) := by decide +kernel
theorem dX12_laysTarget_227 : decode cX12_laysTarget 227 = .ok (.invokevirtual 232, 3) := by decide +kernel
theorem dX12_laysTarget_230 : decode cX12_laysTarget 230 = .ok (.istore_n 3, 1) := by decide +kernel
theorem dX12_laysTarget_231 : decode cX12_laysTarget 231 = .ok (.iconst 0, 1) := by decide +kernel
theorem dX12_laysTarget_232 : decode cX12_laysTarget 232 = .ok (.istore 4, 2) := by decide +kernel
theorem dX12_laysTarget_234 : decode cX12_laysTarget 234 = .ok (.iload 4, 2) := by decide +kernel
theorem dX12_laysTarget_236 : decode cX12_laysTarget 236 = .ok (.bipush 16, 2) := by decide +kernel
theorem dX12_laysTarget_238 : decode cX12_laysTarget 238 = .ok (.if_icmp .ge 23, 3) := by decide +kernel
theorem dX12_laysTarget_241 : decode cX12_laysTarget 241 = .ok (.aload_n 0, 1) := by decide +kernel
theorem dX12_laysTarget_242 : decode cX12_laysTarget 242 = .ok (.getfield 40, 3) := by decide +kernel
theorem dX12_laysTarget_245 : decode cX12_laysTarget 245 = .ok (.iload 4, 2) := by decide +kernel
theorem dX12_laysTarget_247 : decode cX12_laysTarget 247 = .ok (.aload_n 0, 1) := by decide +kernel
theorem dX12_laysTarget_248 : decode cX12_laysTarget 248 = .ok (.iload_n 3, 1) := by decide +kernel
theorem dX12_laysTarget_249 : decode cX12_laysTarget 249 = .ok (.iload 4, 2) := by decide +kernel
theorem dX12_laysTarget_251 : decode cX12_laysTarget 251 = .ok (.invokevirtual 229, 3) := by decide +kernel
theorem dX12_laysTarget_254 : decode cX12_laysTarget 254 = .ok (.iastore, 1) := by decide +kernel
theorem dX12_laysTarget_255 : decode cX12_laysTarget 255 = .ok (.iinc 4 1, 3) := by decide +kernel
theorem dX12_laysTarget_258 : decode cX12_laysTarget 258 = .ok (.goto (-24), 3) := by decide +kernel
theorem dX12_laysTarget_261 : decode cX12_laysTarget 261 = .ok (.return_, 1) := by decide +kernel
theorem dX12_isKept_0 : decode cX12_isKept 0 = .ok (.iload_n 1, 1) := by decide +kernel
theorem dX12_isKept_1 : decode cX12_isKept 1 = .ok (.aload_n 0, 1) := by decide +kernel
theorem dX12_isKept_2 : decode cX12_isKept 2 = .ok (.getfield 13, 3) := by decide +kernel
theorem dX12_isKept_5 : decode cX12_isKept 5 = .ok (.iconst 4, 1) := by decide +kernel
theorem dX12_isKept_6 : decode cX12_isKept 6 = .ok (.iaload, 1) := by decide +kernel
theorem dX12_isKept_7 : decode cX12_isKept 7 = .ok (.if_icmp .le 13, 3) := by decide +kernel
theorem dX12_isKept_10 : decode cX12_isKept 10 = .ok (.iload_n 1, 1) := by decide +kernel
theorem dX12_isKept_11 : decode cX12_isKept 11 = .ok (.aload_n 0, 1) := by decide +kernel
theorem dX12_isKept_12 : decode cX12_isKept 12 = .ok (.getfield 13, 3) := by decide +kernel
theorem dX12_isKept_15 : decode cX12_isKept 15 = .ok (.iconst 5, 1) := by decide +kernel
theorem dX12_isKept_16 : decode cX12_isKept 16 = .ok (.iaload, 1) := by decide +kernel
theorem dX12_isKept_17 : decode cX12_isKept 17 = .ok (.if_icmp .lt 7, 3) := by decide +kernel
theorem dX12_isKept_20 : decode cX12_isKept 20 = .ok (.iconst 1, 1) := by decide +kernel
theorem dX12_isKept_21 : decode cX12_isKept 21 = .ok (.goto 4, 3) := by decide +kernel
theorem dX12_isKept_24 : decode cX12_isKept 24 = .ok (.iconst 0, 1) := by decide +kernel
theorem dX12_isKept_25 : decode cX12_isKept 25 = .ok (.ireturn, 1) := by decide +kernel
theorem dX12_boundedTo_0 : decode cX12_boundedTo 0 = .ok (.iconst 0, 1) := by decide +kernel
theorem dX12_boundedTo_1 : decode cX12_boundedTo 1 = .ok (.istore_n 3, 1) := by decide +kernel
theorem dX12_boundedTo_2 : decode cX12_boundedTo 2 = .ok (.aload_n 0, 1) := by decide +kernel
theorem dX12_boundedTo_3 : decode cX12_boundedTo 3 = .ok (.getfield 40, 3) := by decide +kernel
theorem dX12_boundedTo_6 : decode cX12_boundedTo 6 = .ok (.iload_n 3, 1) := by decide +kernel
theorem dX12_boundedTo_7 : decode cX12_boundedTo 7 = .ok (.iaload, 1) := by decide +kernel
theorem dX12_boundedTo_8 : decode cX12_boundedTo 8 = .ok (.iload_n 2, 1) := by decide +kernel
theorem dX12_boundedTo_9 : decode cX12_boundedTo 9 = .ok (.if_icmp .ge 9, 3) := by decide +kernel
theorem dX12_boundedTo_12 : decode cX12_boundedTo 12 = .ok (.iinc 3 1, 3) := by decide +kernel
theorem dX12_boundedTo_15 : decode cX12_boundedTo 15 = .ok (.goto (-13), 3) := by decide +kernel
theorem dX12_boundedTo_18 : decode cX12_boundedTo 18 = .ok (.iload_n 3, 1) := by decide +kernel
theorem dX12_boundedTo_19 : decode cX12_boundedTo 19 = .ok (.aload_n 0, 1) := by decide +kernel
theorem dX12_boundedTo_20 : decode cX12_boundedTo 20 = .ok (.getfield 13, 3) := by decide +kernel
theorem dX12_boundedTo_23 : decode cX12_boundedTo 23 = .ok (.iconst 4, 1) := by decide +kernel
theorem dX12_boundedTo_24 : decode cX12_boundedTo 24 = .ok (.iaload, 1) := by decide +kernel
theorem dX12_boundedTo_25 : decode cX12_boundedTo 25 = .ok (.if_icmp .ge 12, 3) := by decide +kernel
theorem dX12_boundedTo_28 : decode cX12_boundedTo 28 = .ok (.aload_n 0, 1) := by decide +kernel
theorem dX12_boundedTo_29 : decode cX12_boundedTo 29 = .ok (.getfield 13, 3) := by decide +kernel
theorem dX12_boundedTo_32 : decode cX12_boundedTo 32 = .ok (.iconst 4, 1) := by decide +kernel
theorem dX12_boundedTo_33 : decode cX12_boundedTo 33 = .ok (.iaload, 1) := by decide +kernel
theorem dX12_boundedTo_34 : decode cX12_boundedTo 34 = .ok (.goto 23, 3) := by decide +kernel
theorem dX12_boundedTo_37 : decode cX12_boundedTo 37 = .ok (.iload_n 3, 1) := by decide +kernel
theorem dX12_boundedTo_38 : decode cX12_boundedTo 38 = .ok (.aload_n 0, 1) := by decide +kernel
theorem dX12_boundedTo_39 : decode cX12_boundedTo 39 = .ok (.getfield 13, 3) := by decide +kernel
theorem dX12_boundedTo_42 : decode cX12_boundedTo 42 = .ok (.iconst 5, 1) := by decide +kernel
theorem dX12_boundedTo_43 : decode cX12_boundedTo 43 = .ok (.iaload, 1) := by decide +kernel
theorem dX12_boundedTo_44 : decode cX12_boundedTo 44 = .ok (.if_icmp .le 12, 3) := by decide +kernel
theorem dX12_boundedTo_47 : decode cX12_boundedTo 47 = .ok (.aload_n 0, 1) := by decide +kernel
theorem dX12_boundedTo_48 : decode cX12_boundedTo 48 = .ok (.getfield 13, 3) := by decide +kernel
theorem dX12_boundedTo_51 : decode cX12_boundedTo 51 = .ok (.iconst 5, 1) := by decide +kernel
theorem dX12_boundedTo_52 : decode cX12_boundedTo 52 = .ok (.iaload, 1) := by decide +kernel
theorem dX12_boundedTo_53 : decode cX12_boundedTo 53 = .ok (.goto 4, 3) := by decide +kernel
theorem dX12_boundedTo_56 : decode cX12_boundedTo 56 = .ok (.iload_n 3, 1) := by decide +kernel
theorem dX12_boundedTo_57 : decode cX12_boundedTo 57 = .ok (.istore_n 3, 1) := by decide +kernel
theorem dX12_boundedTo_58 : decode cX12_boundedTo 58 = .ok (.aload_n 0, 1) := by decide +kernel
theorem dX12_boundedTo_59 : decode cX12_boundedTo 59 = .ok (.getfield 13, 3) := by decide +kernel
theorem dX12_boundedTo_62 : decode cX12_boundedTo 62 = .ok (.bipush 6, 2) := by decide +kernel
theorem dX12_boundedTo_64 : decode cX12_boundedTo 64 = .ok (.iaload, 1) := by decide +kernel
theorem dX12_boundedTo_65 : decode cX12_boundedTo 65 = .ok (.istore 4, 2) := by decide +kernel
theorem dX12_boundedTo_67 : decode cX12_boundedTo 67 = .ok (.iload_n 3, 1) := by decide +kernel
theorem dX12_boundedTo_68 : decode cX12_boundedTo 68 = .ok (.iload_n 1, 1) := by decide +kernel
theorem dX12_boundedTo_69 : decode cX12_boundedTo 69 = .ok (.iload 4, 2) := by decide +kernel
theorem dX12_boundedTo_71 : decode cX12_boundedTo 71 = .ok (.isub, 1) := by decide +kernel
theorem dX12_boundedTo_72 : decode cX12_boundedTo 72 = .ok (.if_icmp .ge 10, 3) := by decide +kernel
theorem dX12_boundedTo_75 : decode cX12_boundedTo 75 = .ok (.iload_n 1, 1) := by decide +kernel
theorem dX12_boundedTo_76 : decode cX12_boundedTo 76 = .ok (.iload 4, 2) := by decide +kernel
theorem dX12_boundedTo_78 : decode cX12_boundedTo 78 = .ok (.isub, 1) := by decide +kernel
theorem dX12_boundedTo_79 : decode cX12_boundedTo 79 = .ok (.goto 19, 3) := by decide +kernel
theorem dX12_boundedTo_82 : decode cX12_boundedTo 82 = .ok (.iload_n 3, 1) := by decide +kernel
theorem dX12_boundedTo_83 : decode cX12_boundedTo 83 = .ok (.iload_n 1, 1) := by decide +kernel
theorem dX12_boundedTo_84 : decode cX12_boundedTo 84 = .ok (.iload 4, 2) := by decide +kernel
theorem dX12_boundedTo_86 : decode cX12_boundedTo 86 = .ok (.iadd, 1) := by decide +kernel
theorem dX12_boundedTo_87 : decode cX12_boundedTo 87 = .ok (.if_icmp .le 10, 3) := by decide +kernel
theorem dX12_boundedTo_90 : decode cX12_boundedTo 90 = .ok (.iload_n 1, 1) := by decide +kernel
theorem dX12_boundedTo_91 : decode cX12_boundedTo 91 = .ok (.iload 4, 2) := by decide +kernel
theorem dX12_boundedTo_93 : decode cX12_boundedTo 93 = .ok (.iadd, 1) := by decide +kernel
theorem dX12_boundedTo_94 : decode cX12_boundedTo 94 = .ok (.goto 4, 3) := by decide +kernel
theorem dX12_boundedTo_97 : decode cX12_boundedTo 97 = .ok (.iload_n 3, 1) := by decide +kernel
theorem dX12_boundedTo_98 : decode cX12_boundedTo 98 = .ok (.ireturn, 1) := by decide +kernel
theorem dX12_laysTable_0 : decode cX12_laysTable 0 = .ok (.aload_n 0, 1) := by decide +kernel
theorem dX12_laysTable_1 : decode cX12_laysTable 1 = .ok (.iload_n 1, 1) := by decide +kernel
theorem dX12_laysTable_2 : decode cX12_laysTable 2 = .ok (.invokevirtual 235, 3) := by decide +kernel
theorem dX12_laysTable_5 : decode cX12_laysTable 5 = .ok (.iconst 0, 1) := by decide +kernel
theorem dX12_laysTable_6 : decode cX12_laysTable 6 = .ok (.istore_n 2, 1) := by decide +kernel
theorem dX12_laysTable_7 : decode cX12_laysTable 7 = .ok (.iload_n 2, 1) := by decide +kernel
theorem dX12_laysTable_8 : decode cX12_laysTable 8 = .ok (.bipush 16, 2) := by decide +kernel
theorem dX12_laysTable_10 : decode cX12_laysTable 10 = .ok (.if_icmp .ge 38, 3) := by decide +kernel
theorem dX12_laysTable_13 : decode cX12_laysTable 13 = .ok (.aload_n 0, 1) := by decide +kernel
theorem dX12_laysTable_14 : decode cX12_laysTable 14 = .ok (.getfield 43, 3) := by decide +kernel
theorem dX12_laysTable_17 : decode cX12_laysTable 17 = .ok (.iload_n 2, 1) := by decide +kernel
theorem dX12_laysTable_18 : decode cX12_laysTable 18 = .ok (.aload_n 0, 1) := by decide +kernel
theorem dX12_laysTable_19 : decode cX12_laysTable 19 = .ok (.iload_n 2, 1) := by decide +kernel
theorem dX12_laysTable_20 : decode cX12_laysTable 20 = .ok (.invokevirtual 238, 3) := by decide +kernel
theorem dX12_laysTable_23 : decode cX12_laysTable 23 = .ok (.ifCond .eq 7, 3) := by decide +kernel
theorem dX12_laysTable_26 : decode cX12_laysTable 26 = .ok (.iload_n 2, 1) := by decide +kernel
theorem dX12_laysTable_27 : decode cX12_laysTable 27 = .ok (.goto 14, 3) := by decide +kernel
theorem dX12_laysTable_30 : decode cX12_laysTable 30 = .ok (.aload_n 0, 1) := by decide +kernel
theorem dX12_laysTable_31 : decode cX12_laysTable 31 = .ok (.iload_n 2, 1) := by decide +kernel
theorem dX12_laysTable_32 : decode cX12_laysTable 32 = .ok (.aload_n 0, 1) := by decide +kernel
theorem dX12_laysTable_33 : decode cX12_laysTable 33 = .ok (.iload_n 1, 1) := by decide +kernel
theorem dX12_laysTable_34 : decode cX12_laysTable 34 = .ok (.iload_n 2, 1) := by decide +kernel
theorem dX12_laysTable_35 : decode cX12_laysTable 35 = .ok (.invokevirtual 229, 3) := by decide +kernel
theorem dX12_laysTable_38 : decode cX12_laysTable 38 = .ok (.invokevirtual 241, 3) := by decide +kernel
theorem dX12_laysTable_41 : decode cX12_laysTable 41 = .ok (.iastore, 1) := by decide +kernel
theorem dX12_laysTable_42 : decode cX12_laysTable 42 = .ok (.iinc 2 1, 3) := by decide +kernel
theorem dX12_laysTable_45 : decode cX12_laysTable 45 = .ok (.goto (-38), 3) := by decide +kernel
theorem dX12_laysTable_48 : decode cX12_laysTable 48 = .ok (.return_, 1) := by decide +kernel
theorem dX12_roundOf_0 : decode cX12_roundOf 0 = .ok (.aload_n 0, 1) := by decide +kernel
theorem dX12_roundOf_1 : decode cX12_roundOf 1 = .ok (.iload_n 1, 1) := by decide +kernel
theorem dX12_roundOf_2 : decode cX12_roundOf 2 = .ok (.iload_n 2, 1) := by decide +kernel
theorem dX12_roundOf_3 : decode cX12_roundOf 3 = .ok (.invokevirtual 200, 3) := by decide +kernel
theorem dX12_roundOf_6 : decode cX12_roundOf 6 = .ok (.ineg, 1) := by decide +kernel
theorem dX12_roundOf_7 : decode cX12_roundOf 7 = .ok (.istore_n 3, 1) := by decide +kernel
theorem dX12_roundOf_8 : decode cX12_roundOf 8 = .ok (.iload_n 2, 1) := by decide +kernel
theorem dX12_roundOf_9 : decode cX12_roundOf 9 = .ok (.aload_n 0, 1) := by decide +kernel
theorem dX12_roundOf_10 : decode cX12_roundOf 10 = .ok (.getfield 13, 3) := by decide +kernel
theorem dX12_roundOf_13 : decode cX12_roundOf 13 = .ok (.iconst 0, 1) := by decide +kernel
theorem dX12_roundOf_14 : decode cX12_roundOf 14 = .ok (.iaload, 1) := by decide +kernel
theorem dX12_roundOf_15 : decode cX12_roundOf 15 = .ok (.irem, 1) := by decide +kernel
theorem dX12_roundOf_16 : decode cX12_roundOf 16 = .ok (.istore 4, 2) := by decide +kernel
theorem dX12_roundOf_18 : decode cX12_roundOf 18 = .ok (.iload_n 2, 1) := by decide +kernel
theorem dX12_roundOf_19 : decode cX12_roundOf 19 = .ok (.aload_n 0, 1) := by decide +kernel
theorem dX12_roundOf_20 : decode cX12_roundOf 20 = .ok (.getfield 13, 3) := by decide +kernel
theorem dX12_roundOf_23 : decode cX12_roundOf 23 = .ok (.iconst 0, 1) := by decide +kernel
theorem dX12_roundOf_24 : decode cX12_roundOf 24 = .ok (.iaload, 1) := by decide +kernel
theorem dX12_roundOf_25 : decode cX12_roundOf 25 = .ok (.idiv, 1) := by decide +kernel
theorem dX12_roundOf_26 : decode cX12_roundOf 26 = .ok (.istore 5, 2) := by decide +kernel
theorem dX12_roundOf_28 : decode cX12_roundOf 28 = .ok (.iload 5, 2) := by decide +kernel
theorem dX12_roundOf_30 : decode cX12_roundOf 30 = .ok (.iconst 1, 1) := by decide +kernel
theorem dX12_roundOf_31 : decode cX12_roundOf 31 = .ok (.isub, 1) := by decide +kernel
theorem dX12_roundOf_32 : decode cX12_roundOf 32 = .ok (.istore 6, 2) := by decide +kernel
theorem dX12_roundOf_34 : decode cX12_roundOf 34 = .ok (.iload 6, 2) := by decide +kernel
theorem dX12_roundOf_36 : decode cX12_roundOf 36 = .ok (.iload 5, 2) := by decide +kernel
theorem dX12_roundOf_38 : decode cX12_roundOf 38 = .ok (.iconst 1, 1) := by decide +kernel
theorem dX12_roundOf_39 : decode cX12_roundOf 39 = .ok (.iadd, 1) := by decide +kernel
theorem dX12_roundOf_40 : decode cX12_roundOf 40 = .ok (.if_icmp .gt 88, 3) := by decide +kernel
theorem dX12_roundOf_43 : decode cX12_roundOf 43 = .ok (.iload 4, 2) := by decide +kernel
theorem dX12_roundOf_45 : decode cX12_roundOf 45 = .ok (.iconst 1, 1) := by decide +kernel
theorem dX12_roundOf_46 : decode cX12_roundOf 46 = .ok (.isub, 1) := by decide +kernel
theorem dX12_roundOf_47 : decode cX12_roundOf 47 = .ok (.istore 7, 2) := by decide +kernel
theorem dX12_roundOf_49 : decode cX12_roundOf 49 = .ok (.iload 7, 2) := by decide +kernel
theorem dX12_roundOf_51 : decode cX12_roundOf 51 = .ok (.iload 4, 2) := by decide +kernel
theorem dX12_roundOf_53 : decode cX12_roundOf 53 = .ok (.iconst 1, 1) := by decide +kernel
theorem dX12_roundOf_54 : decode cX12_roundOf 54 = .ok (.iadd, 1) := by decide +kernel
theorem dX12_roundOf_55 : decode cX12_roundOf 55 = .ok (.if_icmp .gt 67, 3) := by decide +kernel
theorem dX12_roundOf_58 : decode cX12_roundOf 58 = .ok (.iload 7, 2) := by decide +kernel
theorem dX12_roundOf_60 : decode cX12_roundOf 60 = .ok (.i2l, 1) := by decide +kernel
theorem dX12_roundOf_61 : decode cX12_roundOf 61 = .ok (.lconst 0, 1) := by decide +kernel
theorem dX12_roundOf_62 : decode cX12_roundOf 62 = .ok (.aload_n 0, 1) := by decide +kernel
theorem dX12_roundOf_63 : decode cX12_roundOf 63 = .ok (.getfield 13, 3) := by decide +kernel
theorem dX12_roundOf_66 : decode cX12_roundOf 66 = .ok (.iconst 0, 1) := by decide +kernel
theorem dX12_roundOf_67 : decode cX12_roundOf 67 = .ok (.iaload, 1) := by decide +kernel
theorem dX12_roundOf_68 : decode cX12_roundOf 68 = .ok (.iconst 1, 1) := by decide +kernel
theorem dX12_roundOf_69 : decode cX12_roundOf 69 = .ok (.isub, 1) := by decide +kernel
theorem dX12_roundOf_70 : decode cX12_roundOf 70 = .ok (.i2l, 1) := by decide +kernel
theorem dX12_roundOf_71 : decode cX12_roundOf 71 = .ok (.invokestatic 83, 3) := by decide +kernel
theorem dX12_roundOf_74 : decode cX12_roundOf 74 = .ok (.ifCond .eq 42, 3) := by decide +kernel
theorem dX12_roundOf_77 : decode cX12_roundOf 77 = .ok (.iload 6, 2) := by decide +kernel
theorem dX12_roundOf_79 : decode cX12_roundOf 79 = .ok (.i2l, 1) := by decide +kernel
theorem dX12_roundOf_80 : decode cX12_roundOf 80 = .ok (.lconst 0, 1) := by decide +kernel
theorem dX12_roundOf_81 : decode cX12_roundOf 81 = .ok (.aload_n 0, 1) := by decide +kernel
theorem dX12_roundOf_82 : decode cX12_roundOf 82 = .ok (.getfield 13, 3) := by decide +kernel
theorem dX12_roundOf_85 : decode cX12_roundOf 85 = .ok (.iconst 1, 1) := by decide +kernel
theorem dX12_roundOf_86 : decode cX12_roundOf 86 = .ok (.iaload, 1) := by decide +kernel
theorem dX12_roundOf_87 : decode cX12_roundOf 87 = .ok (.iconst 1, 1) := by decide +kernel
theorem dX12_roundOf_88 : decode cX12_roundOf 88 = .ok (.isub, 1) := by decide +kernel
theorem dX12_roundOf_89 : decode cX12_roundOf 89 = .ok (.i2l, 1) := by decide +kernel
theorem dX12_roundOf_90 : decode cX12_roundOf 90 = .ok (.invokestatic 83, 3) := by decide +kernel
theorem dX12_roundOf_93 : decode cX12_roundOf 93 = .ok (.ifCond .eq 23, 3) := by decide +kernel
theorem dX12_roundOf_96 : decode cX12_roundOf 96 = .ok (.iload_n 3, 1) := by decide +kernel
theorem dX12_roundOf_97 : decode cX12_roundOf 97 = .ok (.aload_n 0, 1) := by decide +kernel
theorem dX12_roundOf_98 : decode cX12_roundOf 98 = .ok (.iload_n 1, 1) := by decide +kernel
theorem dX12_roundOf_99 : decode cX12_roundOf 99 = .ok (.aload_n 0, 1) := by decide +kernel
theorem dX12_roundOf_100 : decode cX12_roundOf 100 = .ok (.getfield 13, 3) := by decide +kernel
theorem dX12_roundOf_103 : decode cX12_roundOf 103 = .ok (.iconst 0, 1) := by decide +kernel
theorem dX12_roundOf_104 : decode cX12_roundOf 104 = .ok (.iaload, 1) := by decide +kernel
theorem dX12_roundOf_105 : decode cX12_roundOf 105 = .ok (.iload 6, 2) := by decide +kernel
theorem dX12_roundOf_107 : decode cX12_roundOf 107 = .ok (.imul, 1) := by decide +kernel
theorem dX12_roundOf_108 : decode cX12_roundOf 108 = .ok (.iload 7, 2) := by decide +kernel
theorem dX12_roundOf_110 : decode cX12_roundOf 110 = .ok (.iadd, 1) := by decide +kernel
theorem dX12_roundOf_111 : decode cX12_roundOf 111 = .ok (.invokevirtual 200, 3) := by decide +kernel
theorem dX12_roundOf_114 : decode cX12_roundOf 114 = .ok (.iadd, 1) := by decide +kernel
theorem dX12_roundOf_115 : decode cX12_roundOf 115 = .ok (.istore_n 3, 1) := by decide +kernel
theorem dX12_roundOf_116 : decode cX12_roundOf 116 = .ok (.iinc 7 1, 3) := by decide +kernel
theorem dX12_roundOf_119 : decode cX12_roundOf 119 = .ok (.goto (-70), 3) := by decide +kernel
theorem dX12_roundOf_122 : decode cX12_roundOf 122 = .ok (.iinc 6 1, 3) := by decide +kernel
theorem dX12_roundOf_125 : decode cX12_roundOf 125 = .ok (.goto (-91), 3) := by decide +kernel
theorem dX12_roundOf_128 : decode cX12_roundOf 128 = .ok (.iload_n 3, 1) := by decide +kernel
theorem dX12_roundOf_129 : decode cX12_roundOf 129 = .ok (.ireturn, 1) := by decide +kernel
theorem dX12_laysOrders_0 : decode cX12_laysOrders 0 = .ok (.iconst 0, 1) := by decide +kernel
theorem dX12_laysOrders_1 : decode cX12_laysOrders 1 = .ok (.istore_n 2, 1) := by decide +kernel
theorem dX12_laysOrders_2 : decode cX12_laysOrders 2 = .ok (.iload_n 2, 1) := by decide +kernel
theorem dX12_laysOrders_3 : decode cX12_laysOrders 3 = .ok (.aload_n 0, 1) := by decide +kernel
theorem dX12_laysOrders_4 : decode cX12_laysOrders 4 = .ok (.invokevirtual 129, 3) := by decide +kernel
theorem dX12_laysOrders_7 : decode cX12_laysOrders 7 = .ok (.if_icmp .ge 37, 3) := by decide +kernel
theorem dX12_laysOrders_10 : decode cX12_laysOrders 10 = .ok (.aload_n 0, 1) := by decide +kernel
theorem dX12_laysOrders_11 : decode cX12_laysOrders 11 = .ok (.getfield 52, 3) := by decide +kernel
theorem dX12_laysOrders_14 : decode cX12_laysOrders 14 = .ok (.iload_n 2, 1) := by decide +kernel
theorem dX12_laysOrders_15 : decode cX12_laysOrders 15 = .ok (.aload_n 0, 1) := by decide +kernel
theorem dX12_laysOrders_16 : decode cX12_laysOrders 16 = .ok (.iload_n 1, 1) := by decide +kernel
theorem dX12_laysOrders_17 : decode cX12_laysOrders 17 = .ok (.iload_n 2, 1) := by decide +kernel
theorem dX12_laysOrders_18 : decode cX12_laysOrders 18 = .ok (.invokevirtual 200, 3) := by decide +kernel
theorem dX12_laysOrders_21 : decode cX12_laysOrders 21 = .ok (.sipush 128, 3) := by decide +kernel
theorem dX12_laysOrders_24 : decode cX12_laysOrders 24 = .ok (.imul, 1) := by decide +kernel
theorem dX12_laysOrders_25 : decode cX12_laysOrders 25 = .ok (.aload_n 0, 1) := by decide +kernel
theorem dX12_laysOrders_26 : decode cX12_laysOrders 26 = .ok (.iload_n 1, 1) := by decide +kernel
theorem dX12_laysOrders_27 : decode cX12_laysOrders 27 = .ok (.iload_n 2, 1) := by decide +kernel
theorem dX12_laysOrders_28 : decode cX12_laysOrders 28 = .ok (.invokevirtual 244, 3) := by decide +kernel
theorem dX12_laysOrders_31 : decode cX12_laysOrders 31 = .ok (.iadd, 1) := by decide +kernel
theorem dX12_laysOrders_32 : decode cX12_laysOrders 32 = .ok (.bipush 64, 2) := by decide +kernel
theorem dX12_laysOrders_34 : decode cX12_laysOrders 34 = .ok (.imul, 1) := by decide +kernel
theorem dX12_laysOrders_35 : decode cX12_laysOrders 35 = .ok (.iload_n 2, 1) := by decide +kernel
theorem dX12_laysOrders_36 : decode cX12_laysOrders 36 = .ok (.iadd, 1) := by decide +kernel
theorem dX12_laysOrders_37 : decode cX12_laysOrders 37 = .ok (.iastore, 1) := by decide +kernel
theorem dX12_laysOrders_38 : decode cX12_laysOrders 38 = .ok (.iinc 2 1, 3) := by decide +kernel
theorem dX12_laysOrders_41 : decode cX12_laysOrders 41 = .ok (.goto (-39), 3) := by decide +kernel
theorem dX12_laysOrders_44 : decode cX12_laysOrders 44 = .ok (.return_, 1) := by decide +kernel
theorem dX12_rankOf_0 : decode cX12_rankOf 0 = .ok (.iconst 0, 1) := by decide +kernel
theorem dX12_rankOf_1 : decode cX12_rankOf 1 = .ok (.istore_n 2, 1) := by decide +kernel
theorem dX12_rankOf_2 : decode cX12_rankOf 2 = .ok (.iconst 0, 1) := by decide +kernel
theorem dX12_rankOf_3 : decode cX12_rankOf 3 = .ok (.istore_n 3, 1) := by decide +kernel
theorem dX12_rankOf_4 : decode cX12_rankOf 4 = .ok (.iload_n 3, 1) := by decide +kernel
theorem dX12_rankOf_5 : decode cX12_rankOf 5 = .ok (.aload_n 0, 1) := by decide +kernel
theorem dX12_rankOf_6 : decode cX12_rankOf 6 = .ok (.invokevirtual 129, 3) := by decide +kernel
theorem dX12_rankOf_9 : decode cX12_rankOf 9 = .ok (.if_icmp .ge 32, 3) := by decide +kernel
theorem dX12_rankOf_12 : decode cX12_rankOf 12 = .ok (.iload_n 2, 1) := by decide +kernel
theorem dX12_rankOf_13 : decode cX12_rankOf 13 = .ok (.aload_n 0, 1) := by decide +kernel
theorem dX12_rankOf_14 : decode cX12_rankOf 14 = .ok (.getfield 52, 3) := by decide +kernel
theorem dX12_rankOf_17 : decode cX12_rankOf 17 = .ok (.iload_n 3, 1) := by decide +kernel
theorem dX12_rankOf_18 : decode cX12_rankOf 18 = .ok (.iaload, 1) := by decide +kernel
theorem dX12_rankOf_19 : decode cX12_rankOf 19 = .ok (.aload_n 0, 1) := by decide +kernel
theorem dX12_rankOf_20 : decode cX12_rankOf 20 = .ok (.getfield 52, 3) := by decide +kernel
theorem dX12_rankOf_23 : decode cX12_rankOf 23 = .ok (.iload_n 1, 1) := by decide +kernel
theorem dX12_rankOf_24 : decode cX12_rankOf 24 = .ok (.iaload, 1) := by decide +kernel
theorem dX12_rankOf_25 : decode cX12_rankOf 25 = .ok (.if_icmp .ge 7, 3) := by decide +kernel
theorem dX12_rankOf_28 : decode cX12_rankOf 28 = .ok (.iconst 1, 1) := by decide +kernel
theorem dX12_rankOf_29 : decode cX12_rankOf 29 = .ok (.goto 4, 3) := by decide +kernel
theorem dX12_rankOf_32 : decode cX12_rankOf 32 = .ok (.iconst 0, 1) := by decide +kernel
theorem dX12_rankOf_33 : decode cX12_rankOf 33 = .ok (.iadd, 1) := by decide +kernel
theorem dX12_rankOf_34 : decode cX12_rankOf 34 = .ok (.istore_n 2, 1) := by decide +kernel
theorem dX12_rankOf_35 : decode cX12_rankOf 35 = .ok (.iinc 3 1, 3) := by decide +kernel
theorem dX12_rankOf_38 : decode cX12_rankOf 38 = .ok (.goto (-34), 3) := by decide +kernel
theorem dX12_rankOf_41 : decode cX12_rankOf 41 = .ok (.iload_n 2, 1) := by decide +kernel
theorem dX12_rankOf_42 : decode cX12_rankOf 42 = .ok (.ireturn, 1) := by decide +kernel
theorem dX12_evens_0 : decode cX12_evens 0 = .ok (.aload_n 0, 1) := by decide +kernel
theorem dX12_evens_1 : decode cX12_evens 1 = .ok (.iload_n 1, 1) := by decide +kernel
theorem dX12_evens_2 : decode cX12_evens 2 = .ok (.invokevirtual 247, 3) := by decide +kernel
theorem dX12_evens_5 : decode cX12_evens 5 = .ok (.aload_n 0, 1) := by decide +kernel
theorem dX12_evens_6 : decode cX12_evens 6 = .ok (.getfield 13, 3) := by decide +kernel
theorem dX12_evens_9 : decode cX12_evens 9 = .ok (.bipush 8, 2) := by decide +kernel
theorem dX12_evens_11 : decode cX12_evens 11 = .ok (.iaload, 1) := by decide +kernel
theorem dX12_evens_12 : decode cX12_evens 12 = .ok (.iconst 1, 1) := by decide +kernel
theorem dX12_evens_13 : decode cX12_evens 13 = .ok (.if_icmp .ne 8, 3) := by decide +kernel
theorem dX12_evens_16 : decode cX12_evens 16 = .ok (.aload_n 0, 1) := by decide +kernel
theorem dX12_evens_17 : decode cX12_evens 17 = .ok (.iload_n 1, 1) := by decide +kernel
theorem dX12_evens_18 : decode cX12_evens 18 = .ok (.invokevirtual 250, 3) := by decide +kernel
theorem dX12_evens_21 : decode cX12_evens 21 = .ok (.iconst 0, 1) := by decide +kernel
theorem dX12_evens_22 : decode cX12_evens 22 = .ok (.istore_n 2, 1) := by decide +kernel
theorem dX12_evens_23 : decode cX12_evens 23 = .ok (.iload_n 2, 1) := by decide +kernel
theorem dX12_evens_24 : decode cX12_evens 24 = .ok (.bipush 16, 2) := by decide +kernel
theorem dX12_evens_26 : decode cX12_evens 26 = .ok (.if_icmp .ge 21, 3) := by decide +kernel
theorem dX12_evens_29 : decode cX12_evens 29 = .ok (.aload_n 0, 1) := by decide +kernel
theorem dX12_evens_30 : decode cX12_evens 30 = .ok (.getfield 49, 3) := by decide +kernel
theorem dX12_evens_33 : decode cX12_evens 33 = .ok (.bipush 16, 2) := by decide +kernel
theorem dX12_evens_35 : decode cX12_evens 35 = .ok (.iload_n 1, 1) := by decide +kernel
theorem dX12_evens_36 : decode cX12_evens 36 = .ok (.imul, 1) := by decide +kernel
theorem dX12_evens_37 : decode cX12_evens 37 = .ok (.iload_n 2, 1) := by decide +kernel
theorem dX12_evens_38 : decode cX12_evens 38 = .ok (.iadd, 1) := by decide +kernel
theorem dX12_evens_39 : decode cX12_evens 39 = .ok (.iconst 0, 1) := by decide +kernel
theorem dX12_evens_40 : decode cX12_evens 40 = .ok (.iastore, 1) := by decide +kernel
theorem dX12_evens_41 : decode cX12_evens 41 = .ok (.iinc 2 1, 3) := by decide +kernel
theorem dX12_evens_44 : decode cX12_evens 44 = .ok (.goto (-21), 3) := by decide +kernel
theorem dX12_evens_47 : decode cX12_evens 47 = .ok (.iconst 0, 1) := by decide +kernel
theorem dX12_evens_48 : decode cX12_evens 48 = .ok (.istore_n 2, 1) := by decide +kernel
theorem dX12_evens_49 : decode cX12_evens 49 = .ok (.iload_n 2, 1) := by decide +kernel
theorem dX12_evens_50 : decode cX12_evens 50 = .ok (.aload_n 0, 1) := by decide +kernel
theorem dX12_evens_51 : decode cX12_evens 51 = .ok (.invokevirtual 129, 3) := by decide +kernel
theorem dX12_evens_54 : decode cX12_evens 54 = .ok (.if_icmp .ge 108, 3) := by decide +kernel
theorem dX12_evens_57 : decode cX12_evens 57 = .ok (.aload_n 0, 1) := by decide +kernel
theorem dX12_evens_58 : decode cX12_evens 58 = .ok (.iload_n 1, 1) := by decide +kernel
theorem dX12_evens_59 : decode cX12_evens 59 = .ok (.iload_n 2, 1) := by decide +kernel
theorem dX12_evens_60 : decode cX12_evens 60 = .ok (.invokevirtual 200, 3) := by decide +kernel
theorem dX12_evens_63 : decode cX12_evens 63 = .ok (.istore_n 3, 1) := by decide +kernel
theorem dX12_evens_64 : decode cX12_evens 64 = .ok (.aload_n 0, 1) := by decide +kernel
theorem dX12_evens_65 : decode cX12_evens 65 = .ok (.getfield 13, 3) := by decide +kernel
theorem dX12_evens_68 : decode cX12_evens 68 = .ok (.bipush 8, 2) := by decide +kernel
theorem dX12_evens_70 : decode cX12_evens 70 = .ok (.iaload, 1) := by decide +kernel
theorem dX12_evens_71 : decode cX12_evens 71 = .ok (.iconst 1, 1) := by decide +kernel
theorem dX12_evens_72 : decode cX12_evens 72 = .ok (.if_icmp .eq 12, 3) := by decide +kernel
theorem dX12_evens_75 : decode cX12_evens 75 = .ok (.aload_n 0, 1) := by decide +kernel
theorem dX12_evens_76 : decode cX12_evens 76 = .ok (.getfield 43, 3) := by decide +kernel
theorem dX12_evens_79 : decode cX12_evens 79 = .ok (.iload_n 3, 1) := by decide +kernel
theorem dX12_evens_80 : decode cX12_evens 80 = .ok (.iaload, 1) := by decide +kernel
theorem dX12_evens_81 : decode cX12_evens 81 = .ok (.goto 27, 3) := by decide +kernel
theorem dX12_evens_84 : decode cX12_evens 84 = .ok (.aload_n 0, 1) := by decide +kernel
theorem dX12_evens_85 : decode cX12_evens 85 = .ok (.iload_n 3, 1) := by decide +kernel
theorem dX12_evens_86 : decode cX12_evens 86 = .ok (.invokevirtual 238, 3) := by decide +kernel
theorem dX12_evens_89 : decode cX12_evens 89 = .ok (.ifCond .eq 7, 3) := by decide +kernel
theorem dX12_evens_92 : decode cX12_evens 92 = .ok (.iload_n 3, 1) := by decide +kernel
theorem dX12_evens_93 : decode cX12_evens 93 = .ok (.goto 15, 3) := by decide +kernel
theorem dX12_evens_96 : decode cX12_evens 96 = .ok (.aload_n 0, 1) := by decide +kernel
theorem dX12_evens_97 : decode cX12_evens 97 = .ok (.iload_n 3, 1) := by decide +kernel
theorem dX12_evens_98 : decode cX12_evens 98 = .ok (.aload_n 0, 1) := by decide +kernel
theorem dX12_evens_99 : decode cX12_evens 99 = .ok (.iload_n 2, 1) := by decide +kernel
theorem dX12_evens_100 : decode cX12_evens 100 = .ok (.invokevirtual 253, 3) := by decide +kernel
theorem dX12_evens_103 : decode cX12_evens 103 = .ok (.iconst 1, 1) := by decide +kernel
theorem dX12_evens_104 : decode cX12_evens 104 = .ok (.iadd, 1) := by decide +kernel
theorem dX12_evens_105 : decode cX12_evens 105 = .ok (.invokevirtual 241, 3) := by decide +kernel
theorem dX12_evens_108 : decode cX12_evens 108 = .ok (.istore 4, 2) := by decide +kernel
theorem dX12_evens_110 : decode cX12_evens 110 = .ok (.aload_n 0, 1) := by decide +kernel
theorem dX12_evens_111 : decode cX12_evens 111 = .ok (.getfield 46, 3) := by decide +kernel
theorem dX12_evens_114 : decode cX12_evens 114 = .ok (.bipush 64, 2) := by decide +kernel
theorem dX12_evens_116 : decode cX12_evens 116 = .ok (.iload_n 1, 1) := by decide +kernel
theorem dX12_evens_117 : decode cX12_evens 117 = .ok (.imul, 1) := by decide +kernel
theorem dX12_evens_118 : decode cX12_evens 118 = .ok (.iload_n 2, 1) := by decide +kernel
theorem dX12_evens_119 : decode cX12_evens 119 = .ok (.iadd, 1) := by decide +kernel
theorem dX12_evens_120 : decode cX12_evens 120 = .ok (.iload 4, 2) := by decide +kernel
theorem dX12_evens_122 : decode cX12_evens 122 = .ok (.iastore, 1) := by decide +kernel
theorem dX12_evens_123 : decode cX12_evens 123 = .ok (.iload 4, 2) := by decide +kernel
theorem dX12_evens_125 : decode cX12_evens 125 = .ok (.istore 5, 2) := by decide +kernel
theorem dX12_evens_127 : decode cX12_evens 127 = .ok (.iload 5, 2) := by decide +kernel
theorem dX12_evens_129 : decode cX12_evens 129 = .ok (.bipush 16, 2) := by decide +kernel
theorem dX12_evens_131 : decode cX12_evens 131 = .ok (.if_icmp .ge 25, 3) := by decide +kernel
theorem dX12_evens_134 : decode cX12_evens 134 = .ok (.aload_n 0, 1) := by decide +kernel
theorem dX12_evens_135 : decode cX12_evens 135 = .ok (.getfield 49, 3) := by decide +kernel
theorem dX12_evens_138 : decode cX12_evens 138 = .ok (.bipush 16, 2) := by decide +kernel
theorem dX12_evens_140 : decode cX12_evens 140 = .ok (.iload_n 1, 1) := by decide +kernel
theorem dX12_evens_141 : decode cX12_evens 141 = .ok (.imul, 1) := by decide +kernel
theorem dX12_evens_142 : decode cX12_evens 142 = .ok (.iload 5, 2) := by decide +kernel
theorem dX12_evens_144 : decode cX12_evens 144 = .ok (.iadd, 1) := by decide +kernel
theorem dX12_evens_145 : decode cX12_evens 145 = .ok (.dup2, 1) := by decide +kernel
theorem dX12_evens_146 : decode cX12_evens 146 = .ok (.iaload, 1) := by decide +kernel
theorem dX12_evens_147 : decode cX12_evens 147 = .ok (.iconst 1, 1) := by decide +kernel
theorem dX12_evens_148 : decode cX12_evens 148 = .ok (.iadd, 1) := by decide +kernel
theorem dX12_evens_149 : decode cX12_evens 149 = .ok (.iastore, 1) := by decide +kernel
theorem dX12_evens_150 : decode cX12_evens 150 = .ok (.iinc 5 1, 3) := by decide +kernel
theorem dX12_evens_153 : decode cX12_evens 153 = .ok (.goto (-26), 3) := by decide +kernel
theorem dX12_evens_156 : decode cX12_evens 156 = .ok (.iinc 2 1, 3) := by decide +kernel
theorem dX12_evens_159 : decode cX12_evens 159 = .ok (.goto (-110), 3) := by decide +kernel
theorem dX12_evens_162 : decode cX12_evens 162 = .ok (.return_, 1) := by decide +kernel
theorem dX12_evensAll_0 : decode cX12_evensAll 0 = .ok (.aload_n 0, 1) := by decide +kernel
theorem dX12_evensAll_1 : decode cX12_evensAll 1 = .ok (.invokevirtual 185, 3) := by decide +kernel
theorem dX12_evensAll_4 : decode cX12_evensAll 4 = .ok (.iconst 0, 1) := by decide +kernel
theorem dX12_evensAll_5 : decode cX12_evensAll 5 = .ok (.istore_n 1, 1) := by decide +kernel
theorem dX12_evensAll_6 : decode cX12_evensAll 6 = .ok (.iload_n 1, 1) := by decide +kernel
theorem dX12_evensAll_7 : decode cX12_evensAll 7 = .ok (.aload_n 0, 1) := by decide +kernel
theorem dX12_evensAll_8 : decode cX12_evensAll 8 = .ok (.getfield 13, 3) := by decide +kernel
theorem dX12_evensAll_11 : decode cX12_evensAll 11 = .ok (.iconst 2, 1) := by decide +kernel
theorem dX12_evensAll_12 : decode cX12_evensAll 12 = .ok (.iaload, 1) := by decide +kernel
theorem dX12_evensAll_13 : decode cX12_evensAll 13 = .ok (.if_icmp .ge 14, 3) := by decide +kernel
theorem dX12_evensAll_16 : decode cX12_evensAll 16 = .ok (.aload_n 0, 1) := by decide +kernel
theorem dX12_evensAll_17 : decode cX12_evensAll 17 = .ok (.iload_n 1, 1) := by decide +kernel
theorem dX12_evensAll_18 : decode cX12_evensAll 18 = .ok (.invokevirtual 256, 3) := by decide +kernel
theorem dX12_evensAll_21 : decode cX12_evensAll 21 = .ok (.iinc 1 1, 3) := by decide +kernel
theorem dX12_evensAll_24 : decode cX12_evensAll 24 = .ok (.goto (-18), 3) := by decide +kernel
theorem dX12_evensAll_27 : decode cX12_evensAll 27 = .ok (.return_, 1) := by decide +kernel
theorem dX12_changedOf_0 : decode cX12_changedOf 0 = .ok (.iconst 0, 1) := by decide +kernel
theorem dX12_changedOf_1 : decode cX12_changedOf 1 = .ok (.istore_n 2, 1) := by decide +kernel
theorem dX12_changedOf_2 : decode cX12_changedOf 2 = .ok (.iconst 0, 1) := by decide +kernel
theorem dX12_changedOf_3 : decode cX12_changedOf 3 = .ok (.istore_n 3, 1) := by decide +kernel
theorem dX12_changedOf_4 : decode cX12_changedOf 4 = .ok (.iload_n 3, 1) := by decide +kernel
theorem dX12_changedOf_5 : decode cX12_changedOf 5 = .ok (.aload_n 0, 1) := by decide +kernel
theorem dX12_changedOf_6 : decode cX12_changedOf 6 = .ok (.invokevirtual 129, 3) := by decide +kernel
theorem dX12_changedOf_9 : decode cX12_changedOf 9 = .ok (.if_icmp .ge 37, 3) := by decide +kernel
theorem dX12_changedOf_12 : decode cX12_changedOf 12 = .ok (.iload_n 2, 1) := by decide +kernel
theorem dX12_changedOf_13 : decode cX12_changedOf 13 = .ok (.aload_n 0, 1) := by decide +kernel
theorem dX12_changedOf_14 : decode cX12_changedOf 14 = .ok (.getfield 46, 3) := by decide +kernel
theorem dX12_changedOf_17 : decode cX12_changedOf 17 = .ok (.bipush 64, 2) := by decide +kernel
theorem dX12_changedOf_19 : decode cX12_changedOf 19 = .ok (.iload_n 1, 1) := by decide +kernel
theorem dX12_changedOf_20 : decode cX12_changedOf 20 = .ok (.imul, 1) := by decide +kernel
theorem dX12_changedOf_21 : decode cX12_changedOf 21 = .ok (.iload_n 3, 1) := by decide +kernel
theorem dX12_changedOf_22 : decode cX12_changedOf 22 = .ok (.iadd, 1) := by decide +kernel
theorem dX12_changedOf_23 : decode cX12_changedOf 23 = .ok (.iaload, 1) := by decide +kernel
theorem dX12_changedOf_24 : decode cX12_changedOf 24 = .ok (.aload_n 0, 1) := by decide +kernel
theorem dX12_changedOf_25 : decode cX12_changedOf 25 = .ok (.iload_n 1, 1) := by decide +kernel
theorem dX12_changedOf_26 : decode cX12_changedOf 26 = .ok (.iload_n 3, 1) := by decide +kernel
theorem dX12_changedOf_27 : decode cX12_changedOf 27 = .ok (.invokevirtual 200, 3) := by decide +kernel
theorem dX12_changedOf_30 : decode cX12_changedOf 30 = .ok (.if_icmp .eq 7, 3) := by decide +kernel
theorem dX12_changedOf_33 : decode cX12_changedOf 33 = .ok (.iconst 1, 1) := by decide +kernel
theorem dX12_changedOf_34 : decode cX12_changedOf 34 = .ok (.goto 4, 3) := by decide +kernel
theorem dX12_changedOf_37 : decode cX12_changedOf 37 = .ok (.iconst 0, 1) := by decide +kernel
theorem dX12_changedOf_38 : decode cX12_changedOf 38 = .ok (.iadd, 1) := by decide +kernel
theorem dX12_changedOf_39 : decode cX12_changedOf 39 = .ok (.istore_n 2, 1) := by decide +kernel
theorem dX12_changedOf_40 : decode cX12_changedOf 40 = .ok (.iinc 3 1, 3) := by decide +kernel
theorem dX12_changedOf_43 : decode cX12_changedOf 43 = .ok (.goto (-39), 3) := by decide +kernel
theorem dX12_changedOf_46 : decode cX12_changedOf 46 = .ok (.iload_n 2, 1) := by decide +kernel
theorem dX12_changedOf_47 : decode cX12_changedOf 47 = .ok (.ireturn, 1) := by decide +kernel
theorem dX12_takes_0 : decode cX12_takes 0 = .ok (.aload_n 0, 1) := by decide +kernel
theorem dX12_takes_1 : decode cX12_takes 1 = .ok (.invokevirtual 259, 3) := by decide +kernel
theorem dX12_takes_4 : decode cX12_takes 4 = .ok (.iconst 0, 1) := by decide +kernel
theorem dX12_takes_5 : decode cX12_takes 5 = .ok (.istore_n 1, 1) := by decide +kernel
theorem dX12_takes_6 : decode cX12_takes 6 = .ok (.iconst 0, 1) := by decide +kernel
theorem dX12_takes_7 : decode cX12_takes 7 = .ok (.istore_n 2, 1) := by decide +kernel
theorem dX12_takes_8 : decode cX12_takes 8 = .ok (.iload_n 2, 1) := by decide +kernel
theorem dX12_takes_9 : decode cX12_takes 9 = .ok (.aload_n 0, 1) := by decide +kernel
theorem dX12_takes_10 : decode cX12_takes 10 = .ok (.getfield 13, 3) := by decide +kernel
theorem dX12_takes_13 : decode cX12_takes 13 = .ok (.iconst 2, 1) := by decide +kernel
theorem dX12_takes_14 : decode cX12_takes 14 = .ok (.iaload, 1) := by decide +kernel
theorem dX12_takes_15 : decode cX12_takes 15 = .ok (.if_icmp .ge 58, 3) := by decide +kernel
theorem dX12_takes_18 : decode cX12_takes 18 = .ok (.iload_n 1, 1) := by decide +kernel
theorem dX12_takes_19 : decode cX12_takes 19 = .ok (.aload_n 0, 1) := by decide +kernel
theorem dX12_takes_20 : decode cX12_takes 20 = .ok (.iload_n 2, 1) := by decide +kernel
theorem dX12_takes_21 : decode cX12_takes 21 = .ok (.invokevirtual 262, 3) := by decide +kernel
theorem dX12_takes_24 : decode cX12_takes 24 = .ok (.iadd, 1) := by decide +kernel
theorem dX12_takes_25 : decode cX12_takes 25 = .ok (.istore_n 1, 1) := by decide +kernel
theorem dX12_takes_26 : decode cX12_takes 26 = .ok (.iconst 0, 1) := by decide +kernel
theorem dX12_takes_27 : decode cX12_takes 27 = .ok (.istore_n 3, 1) := by decide +kernel
theorem dX12_takes_28 : decode cX12_takes 28 = .ok (.iload_n 3, 1) := by decide +kernel
theorem dX12_takes_29 : decode cX12_takes 29 = .ok (.aload_n 0, 1) := by decide +kernel
theorem dX12_takes_30 : decode cX12_takes 30 = .ok (.invokevirtual 129, 3) := by decide +kernel
theorem dX12_takes_33 : decode cX12_takes 33 = .ok (.if_icmp .ge 34, 3) := by decide +kernel
theorem dX12_takes_36 : decode cX12_takes 36 = .ok (.aload_n 0, 1) := by decide +kernel
theorem dX12_takes_37 : decode cX12_takes 37 = .ok (.getfield 13, 3) := by decide +kernel
theorem dX12_takes_40 : decode cX12_takes 40 = .ok (.bipush 15, 2) := by decide +kernel
theorem dX12_takes_42 : decode cX12_takes 42 = .ok (.bipush 64, 2) := by decide +kernel
theorem dX12_takes_44 : decode cX12_takes 44 = .ok (.iload_n 2, 1) := by decide +kernel
theorem dX12_takes_45 : decode cX12_takes 45 = .ok (.imul, 1) := by decide +kernel
theorem dX12_takes_46 : decode cX12_takes 46 = .ok (.iadd, 1) := by decide +kernel
theorem dX12_takes_47 : decode cX12_takes 47 = .ok (.iload_n 3, 1) := by decide +kernel
theorem dX12_takes_48 : decode cX12_takes 48 = .ok (.iadd, 1) := by decide +kernel
theorem dX12_takes_49 : decode cX12_takes 49 = .ok (.aload_n 0, 1) := by decide +kernel
theorem dX12_takes_50 : decode cX12_takes 50 = .ok (.getfield 46, 3) := by decide +kernel
theorem dX12_takes_53 : decode cX12_takes 53 = .ok (.bipush 64, 2) := by decide +kernel
theorem dX12_takes_55 : decode cX12_takes 55 = .ok (.iload_n 2, 1) := by decide +kernel
theorem dX12_takes_56 : decode cX12_takes 56 = .ok (.imul, 1) := by decide +kernel
theorem dX12_takes_57 : decode cX12_takes 57 = .ok (.iload_n 3, 1) := by decide +kernel
theorem dX12_takes_58 : decode cX12_takes 58 = .ok (.iadd, 1) := by decide +kernel
theorem dX12_takes_59 : decode cX12_takes 59 = .ok (.iaload, 1) := by decide +kernel
theorem dX12_takes_60 : decode cX12_takes 60 = .ok (.iastore, 1) := by decide +kernel
theorem dX12_takes_61 : decode cX12_takes 61 = .ok (.iinc 3 1, 3) := by decide +kernel
theorem dX12_takes_64 : decode cX12_takes 64 = .ok (.goto (-36), 3) := by decide +kernel
theorem dX12_takes_67 : decode cX12_takes 67 = .ok (.iinc 2 1, 3) := by decide +kernel
theorem dX12_takes_70 : decode cX12_takes 70 = .ok (.goto (-62), 3) := by decide +kernel
theorem dX12_takes_73 : decode cX12_takes 73 = .ok (.iload_n 1, 1) := by decide +kernel
theorem dX12_takes_74 : decode cX12_takes 74 = .ok (.ireturn, 1) := by decide +kernel
theorem dX12_take_0 : decode cX12_take 0 = .ok (.aload_n 0, 1) := by decide +kernel
theorem dX12_take_1 : decode cX12_take 1 = .ok (.iconst 0, 1) := by decide +kernel
theorem dX12_take_2 : decode cX12_take 2 = .ok (.putfield 1, 3) := by decide +kernel
theorem dX12_take_5 : decode cX12_take 5 = .ok (.aload_n 0, 1) := by decide +kernel
theorem dX12_take_6 : decode cX12_take 6 = .ok (.invokevirtual 177, 3) := by decide +kernel
theorem dX12_take_9 : decode cX12_take 9 = .ok (.aload_n 0, 1) := by decide +kernel
theorem dX12_take_10 : decode cX12_take 10 = .ok (.invokevirtual 265, 3) := by decide +kernel
theorem dX12_take_13 : decode cX12_take 13 = .ok (.ireturn, 1) := by decide +kernel
theorem dX12_laysAside_0 : decode cX12_laysAside 0 = .ok (.iconst 0, 1) := by decide +kernel
theorem dX12_laysAside_1 : decode cX12_laysAside 1 = .ok (.istore_n 1, 1) := by decide +kernel
theorem dX12_laysAside_2 : decode cX12_laysAside 2 = .ok (.iload_n 1, 1) := by decide +kernel
theorem dX12_laysAside_3 : decode cX12_laysAside 3 = .ok (.sipush 1551, 3) := by decide +kernel
theorem dX12_laysAside_6 : decode cX12_laysAside 6 = .ok (.if_icmp .ge 21, 3) := by decide +kernel
theorem dX12_laysAside_9 : decode cX12_laysAside 9 = .ok (.aload_n 0, 1) := by decide +kernel
theorem dX12_laysAside_10 : decode cX12_laysAside 10 = .ok (.getfield 17, 3) := by decide +kernel
theorem dX12_laysAside_13 : decode cX12_laysAside 13 = .ok (.iload_n 1, 1) := by decide +kernel
theorem dX12_laysAside_14 : decode cX12_laysAside 14 = .ok (.aload_n 0, 1) := by decide +kernel
theorem dX12_laysAside_15 : decode cX12_laysAside 15 = .ok (.getfield 13, 3) := by decide +kernel
theorem dX12_laysAside_18 : decode cX12_laysAside 18 = .ok (.iload_n 1, 1) := by decide +kernel
theorem dX12_laysAside_19 : decode cX12_laysAside 19 = .ok (.iaload, 1) := by decide +kernel
theorem dX12_laysAside_20 : decode cX12_laysAside 20 = .ok (.iastore, 1) := by decide +kernel
theorem dX12_laysAside_21 : decode cX12_laysAside 21 = .ok (.iinc 1 1, 3) := by decide +kernel
theorem dX12_laysAside_24 : decode cX12_laysAside 24 = .ok (.goto (-22), 3) := by decide +kernel
theorem dX12_laysAside_27 : decode cX12_laysAside 27 = .ok (.return_, 1) := by decide +kernel
theorem dX12_comesBack_0 : decode cX12_comesBack 0 = .ok (.iconst 0, 1) := by decide +kernel
theorem dX12_comesBack_1 : decode cX12_comesBack 1 = .ok (.istore_n 1, 1) := by decide +kernel
theorem dX12_comesBack_2 : decode cX12_comesBack 2 = .ok (.iload_n 1, 1) := by decide +kernel
theorem dX12_comesBack_3 : decode cX12_comesBack 3 = .ok (.sipush 1551, 3) := by decide +kernel
theorem dX12_comesBack_6 : decode cX12_comesBack 6 = .ok (.if_icmp .ge 21, 3) := by decide +kernel
theorem dX12_comesBack_9 : decode cX12_comesBack 9 = .ok (.aload_n 0, 1) := by decide +kernel
theorem dX12_comesBack_10 : decode cX12_comesBack 10 = .ok (.getfield 13, 3) := by decide +kernel
theorem dX12_comesBack_13 : decode cX12_comesBack 13 = .ok (.iload_n 1, 1) := by decide +kernel
theorem dX12_comesBack_14 : decode cX12_comesBack 14 = .ok (.aload_n 0, 1) := by decide +kernel
theorem dX12_comesBack_15 : decode cX12_comesBack 15 = .ok (.getfield 17, 3) := by decide +kernel
theorem dX12_comesBack_18 : decode cX12_comesBack 18 = .ok (.iload_n 1, 1) := by decide +kernel
theorem dX12_comesBack_19 : decode cX12_comesBack 19 = .ok (.iaload, 1) := by decide +kernel
theorem dX12_comesBack_20 : decode cX12_comesBack 20 = .ok (.iastore, 1) := by decide +kernel
theorem dX12_comesBack_21 : decode cX12_comesBack 21 = .ok (.iinc 1 1, 3) := by decide +kernel
theorem dX12_comesBack_24 : decode cX12_comesBack 24 = .ok (.goto (-22), 3) := by decide +kernel
theorem dX12_comesBack_27 : decode cX12_comesBack 27 = .ok (.return_, 1) := by decide +kernel
theorem dX12_rounds_0 : decode cX12_rounds 0 = .ok (.aload_n 0, 1) := by decide +kernel
theorem dX12_rounds_1 : decode cX12_rounds 1 = .ok (.iconst 0, 1) := by decide +kernel
theorem dX12_rounds_2 : decode cX12_rounds 2 = .ok (.putfield 1, 3) := by decide +kernel
theorem dX12_rounds_5 : decode cX12_rounds 5 = .ok (.iload_n 1, 1) := by decide +kernel
theorem dX12_rounds_6 : decode cX12_rounds 6 = .ok (.i2l, 1) := by decide +kernel
theorem dX12_rounds_7 : decode cX12_rounds 7 = .ok (.lconst 0, 1) := by decide +kernel
theorem dX12_rounds_8 : decode cX12_rounds 8 = .ok (.ldc2_w 268, 3) := by decide +kernel
theorem dX12_rounds_11 : decode cX12_rounds 11 = .ok (.invokestatic 83, 3) := by decide +kernel
theorem dX12_rounds_14 : decode cX12_rounds 14 = .ok (.ifCond .ne 6, 3) := by decide +kernel
theorem dX12_rounds_17 : decode cX12_rounds 17 = .ok (.bipush (-3), 2) := by decide +kernel
theorem dX12_rounds_19 : decode cX12_rounds 19 = .ok (.ireturn, 1) := by decide +kernel
theorem dX12_rounds_20 : decode cX12_rounds 20 = .ok (.aload_n 0, 1) := by decide +kernel
theorem dX12_rounds_21 : decode cX12_rounds 21 = .ok (.invokevirtual 270, 3) := by decide +kernel
theorem dX12_rounds_24 : decode cX12_rounds 24 = .ok (.iconst 0, 1) := by decide +kernel
theorem dX12_rounds_25 : decode cX12_rounds 25 = .ok (.istore_n 2, 1) := by decide +kernel
theorem dX12_rounds_26 : decode cX12_rounds 26 = .ok (.iload_n 2, 1) := by decide +kernel
theorem dX12_rounds_27 : decode cX12_rounds 27 = .ok (.iload_n 1, 1) := by decide +kernel
theorem dX12_rounds_28 : decode cX12_rounds 28 = .ok (.if_icmp .ge 14, 3) := by decide +kernel
theorem dX12_rounds_31 : decode cX12_rounds 31 = .ok (.aload_n 0, 1) := by decide +kernel
theorem dX12_rounds_32 : decode cX12_rounds 32 = .ok (.invokevirtual 265, 3) := by decide +kernel
theorem dX12_rounds_35 : decode cX12_rounds 35 = .ok (.pop, 1) := by decide +kernel
theorem dX12_rounds_36 : decode cX12_rounds 36 = .ok (.iinc 2 1, 3) := by decide +kernel
theorem dX12_rounds_39 : decode cX12_rounds 39 = .ok (.goto (-13), 3) := by decide +kernel
theorem dX12_rounds_42 : decode cX12_rounds 42 = .ok (.aload_n 0, 1) := by decide +kernel
theorem dX12_rounds_43 : decode cX12_rounds 43 = .ok (.invokevirtual 185, 3) := by decide +kernel
theorem dX12_rounds_46 : decode cX12_rounds 46 = .ok (.aload_n 0, 1) := by decide +kernel
theorem dX12_rounds_47 : decode cX12_rounds 47 = .ok (.aload_n 0, 1) := by decide +kernel
theorem dX12_rounds_48 : decode cX12_rounds 48 = .ok (.getfield 30, 3) := by decide +kernel
theorem dX12_rounds_51 : decode cX12_rounds 51 = .ok (.invokevirtual 273, 3) := by decide +kernel
theorem dX12_rounds_54 : decode cX12_rounds 54 = .ok (.istore_n 2, 1) := by decide +kernel
theorem dX12_rounds_55 : decode cX12_rounds 55 = .ok (.aload_n 0, 1) := by decide +kernel
theorem dX12_rounds_56 : decode cX12_rounds 56 = .ok (.invokevirtual 277, 3) := by decide +kernel
theorem dX12_rounds_59 : decode cX12_rounds 59 = .ok (.iload_n 2, 1) := by decide +kernel
theorem dX12_rounds_60 : decode cX12_rounds 60 = .ok (.ireturn, 1) := by decide +kernel
theorem dX12_settles_0 : decode cX12_settles 0 = .ok (.aload_n 0, 1) := by decide +kernel
theorem dX12_settles_1 : decode cX12_settles 1 = .ok (.iconst 0, 1) := by decide +kernel
theorem dX12_settles_2 : decode cX12_settles 2 = .ok (.putfield 1, 3) := by decide +kernel
theorem dX12_settles_5 : decode cX12_settles 5 = .ok (.aload_n 0, 1) := by decide +kernel
theorem dX12_settles_6 : decode cX12_settles 6 = .ok (.invokevirtual 270, 3) := by decide +kernel
theorem dX12_settles_9 : decode cX12_settles 9 = .ok (.iconst 0, 1) := by decide +kernel
theorem dX12_settles_10 : decode cX12_settles 10 = .ok (.istore_n 1, 1) := by decide +kernel
theorem dX12_settles_11 : decode cX12_settles 11 = .ok (.iload_n 1, 1) := by decide +kernel
theorem dX12_settles_12 : decode cX12_settles 12 = .ok (.bipush 20, 2) := by decide +kernel
theorem dX12_settles_14 : decode cX12_settles 14 = .ok (.if_icmp .gt 16, 3) := by decide +kernel
theorem dX12_settles_17 : decode cX12_settles 17 = .ok (.aload_n 0, 1) := by decide +kernel
theorem dX12_settles_18 : decode cX12_settles 18 = .ok (.invokevirtual 265, 3) := by decide +kernel
theorem dX12_settles_21 : decode cX12_settles 21 = .ok (.ifCond .le 9, 3) := by decide +kernel
theorem dX12_settles_24 : decode cX12_settles 24 = .ok (.iinc 1 1, 3) := by decide +kernel
theorem dX12_settles_27 : decode cX12_settles 27 = .ok (.goto (-16), 3) := by decide +kernel
theorem dX12_settles_30 : decode cX12_settles 30 = .ok (.aload_n 0, 1) := by decide +kernel
theorem dX12_settles_31 : decode cX12_settles 31 = .ok (.invokevirtual 277, 3) := by decide +kernel
theorem dX12_settles_34 : decode cX12_settles 34 = .ok (.iload_n 1, 1) := by decide +kernel
theorem dX12_settles_35 : decode cX12_settles 35 = .ok (.bipush 20, 2) := by decide +kernel
theorem dX12_settles_37 : decode cX12_settles 37 = .ok (.if_icmp .le 7, 3) := by decide +kernel
theorem dX12_settles_40 : decode cX12_settles 40 = .ok (.iconst (-1), 1) := by decide +kernel
theorem dX12_settles_41 : decode cX12_settles 41 = .ok (.goto 4, 3) := by decide +kernel
theorem dX12_settles_44 : decode cX12_settles 44 = .ok (.iload_n 1, 1) := by decide +kernel
theorem dX12_settles_45 : decode cX12_settles 45 = .ok (.ireturn, 1) := by decide +kernel
theorem dX12_key_0 : decode cX12_key 0 = .ok (.aload_n 0, 1) := by decide +kernel
theorem dX12_key_1 : decode cX12_key 1 = .ok (.iconst 0, 1) := by decide +kernel
theorem dX12_key_2 : decode cX12_key 2 = .ok (.putfield 1, 3) := by decide +kernel
theorem dX12_key_5 : decode cX12_key 5 = .ok (.aload_n 0, 1) := by decide +kernel
theorem dX12_key_6 : decode cX12_key 6 = .ok (.invokevirtual 185, 3) := by decide +kernel
theorem dX12_key_9 : decode cX12_key 9 = .ok (.iload_n 1, 1) := by decide +kernel
theorem dX12_key_10 : decode cX12_key 10 = .ok (.i2l, 1) := by decide +kernel
theorem dX12_key_11 : decode cX12_key 11 = .ok (.lconst 0, 1) := by decide +kernel
theorem dX12_key_12 : decode cX12_key 12 = .ok (.aload_n 0, 1) := by decide +kernel
theorem dX12_key_13 : decode cX12_key 13 = .ok (.invokevirtual 188, 3) := by decide +kernel
theorem dX12_key_16 : decode cX12_key 16 = .ok (.iconst 1, 1) := by decide +kernel
theorem dX12_key_17 : decode cX12_key 17 = .ok (.isub, 1) := by decide +kernel
theorem dX12_key_18 : decode cX12_key 18 = .ok (.i2l, 1) := by decide +kernel
theorem dX12_key_19 : decode cX12_key 19 = .ok (.invokestatic 83, 3) := by decide +kernel
theorem dX12_key_22 : decode cX12_key 22 = .ok (.ifCond .eq 11, 3) := by decide +kernel
theorem dX12_key_25 : decode cX12_key 25 = .ok (.aload_n 0, 1) := by decide +kernel
theorem dX12_key_26 : decode cX12_key 26 = .ok (.iload_n 1, 1) := by decide +kernel
theorem dX12_key_27 : decode cX12_key 27 = .ok (.invokevirtual 232, 3) := by decide +kernel
theorem dX12_key_30 : decode cX12_key 30 = .ok (.goto 5, 3) := by decide +kernel
theorem dX12_key_33 : decode cX12_key 33 = .ok (.bipush (-2), 2) := by decide +kernel
theorem dX12_key_35 : decode cX12_key 35 = .ok (.ireturn, 1) := by decide +kernel
theorem dX12_laysParts_0 : decode cX12_laysParts 0 = .ok (.aload_n 0, 1) := by decide +kernel
theorem dX12_laysParts_1 : decode cX12_laysParts 1 = .ok (.getfield 13, 3) := by decide +kernel
theorem dX12_laysParts_4 : decode cX12_laysParts 4 = .ok (.iconst 2, 1) := by decide +kernel
theorem dX12_laysParts_5 : decode cX12_laysParts 5 = .ok (.iaload, 1) := by decide +kernel
theorem dX12_laysParts_6 : decode cX12_laysParts 6 = .ok (.istore_n 2, 1) := by decide +kernel
theorem dX12_laysParts_7 : decode cX12_laysParts 7 = .ok (.iconst 0, 1) := by decide +kernel
theorem dX12_laysParts_8 : decode cX12_laysParts 8 = .ok (.istore_n 3, 1) := by decide +kernel
theorem dX12_laysParts_9 : decode cX12_laysParts 9 = .ok (.iload_n 3, 1) := by decide +kernel
theorem dX12_laysParts_10 : decode cX12_laysParts 10 = .ok (.iload_n 2, 1) := by decide +kernel
theorem dX12_laysParts_11 : decode cX12_laysParts 11 = .ok (.if_icmp .ge 50, 3) := by decide +kernel
theorem dX12_laysParts_14 : decode cX12_laysParts 14 = .ok (.iload_n 3, 1) := by decide +kernel
theorem dX12_laysParts_15 : decode cX12_laysParts 15 = .ok (.istore 4, 2) := by decide +kernel
theorem dX12_laysParts_17 : decode cX12_laysParts 17 = .ok (.iload 4, 2) := by decide +kernel
theorem dX12_laysParts_19 : decode cX12_laysParts 19 = .ok (.iload_n 2, 1) := by decide +kernel
theorem dX12_laysParts_20 : decode cX12_laysParts 20 = .ok (.if_icmp .ge 35, 3) := by decide +kernel
theorem dX12_laysParts_23 : decode cX12_laysParts 23 = .ok (.aload_n 0, 1) := by decide +kernel
theorem dX12_laysParts_24 : decode cX12_laysParts 24 = .ok (.getfield 55, 3) := by decide +kernel
theorem dX12_laysParts_27 : decode cX12_laysParts 27 = .ok (.bipush 24, 2) := by decide +kernel
theorem dX12_laysParts_29 : decode cX12_laysParts 29 = .ok (.iload_n 3, 1) := by decide +kernel
theorem dX12_laysParts_30 : decode cX12_laysParts 30 = .ok (.imul, 1) := by decide +kernel
theorem dX12_laysParts_31 : decode cX12_laysParts 31 = .ok (.iload 4, 2) := by decide +kernel
theorem dX12_laysParts_33 : decode cX12_laysParts 33 = .ok (.iadd, 1) := by decide +kernel
theorem dX12_laysParts_34 : decode cX12_laysParts 34 = .ok (.aload_n 0, 1) := by decide +kernel
theorem dX12_laysParts_35 : decode cX12_laysParts 35 = .ok (.aload_n 0, 1) := by decide +kernel
theorem dX12_laysParts_36 : decode cX12_laysParts 36 = .ok (.iload_n 3, 1) := by decide +kernel
theorem dX12_laysParts_37 : decode cX12_laysParts 37 = .ok (.iload 4, 2) := by decide +kernel
theorem dX12_laysParts_39 : decode cX12_laysParts 39 = .ok (.invokevirtual 220, 3) := by decide +kernel
theorem dX12_laysParts_42 : decode cX12_laysParts 42 = .ok (.iload_n 3, 1) := by decide +kernel
theorem dX12_laysParts_43 : decode cX12_laysParts 43 = .ok (.iload 4, 2) := by decide +kernel
theorem dX12_laysParts_45 : decode cX12_laysParts 45 = .ok (.invokevirtual 210, 3) := by decide +kernel
theorem dX12_laysParts_48 : decode cX12_laysParts 48 = .ok (.iastore, 1) := by decide +kernel
theorem dX12_laysParts_49 : decode cX12_laysParts 49 = .ok (.iinc 4 1, 3) := by decide +kernel
theorem dX12_laysParts_52 : decode cX12_laysParts 52 = .ok (.goto (-35), 3) := by decide +kernel
theorem dX12_laysParts_55 : decode cX12_laysParts 55 = .ok (.iinc 3 1, 3) := by decide +kernel
theorem dX12_laysParts_58 : decode cX12_laysParts 58 = .ok (.goto (-49), 3) := by decide +kernel
theorem dX12_laysParts_61 : decode cX12_laysParts 61 = .ok (.iconst 0, 1) := by decide +kernel
theorem dX12_laysParts_62 : decode cX12_laysParts 62 = .ok (.istore_n 3, 1) := by decide +kernel
theorem dX12_laysParts_63 : decode cX12_laysParts 63 = .ok (.iload_n 3, 1) := by decide +kernel
theorem dX12_laysParts_64 : decode cX12_laysParts 64 = .ok (.iload_n 2, 1) := by decide +kernel
theorem dX12_laysParts_65 : decode cX12_laysParts 65 = .ok (.if_icmp .gt 27, 3) := by decide +kernel
theorem dX12_laysParts_68 : decode cX12_laysParts 68 = .ok (.aload_n 0, 1) := by decide +kernel
theorem dX12_laysParts_69 : decode cX12_laysParts 69 = .ok (.getfield 58, 3) := by decide +kernel
theorem dX12_laysParts_72 : decode cX12_laysParts 72 = .ok (.iload_n 3, 1) := by decide +kernel
theorem dX12_laysParts_73 : decode cX12_laysParts 73 = .ok (.iload_n 3, 1) := by decide +kernel
theorem dX12_laysParts_74 : decode cX12_laysParts 74 = .ok (.iload_n 2, 1) := by decide +kernel
theorem dX12_laysParts_75 : decode cX12_laysParts 75 = .ok (.if_icmp .ne 7, 3) := by decide +kernel
theorem dX12_laysParts_78 : decode cX12_laysParts 78 = .ok (.iconst 0, 1) := by decide +kernel
theorem dX12_laysParts_79 : decode cX12_laysParts 79 = .ok (.goto 6, 3) := by decide +kernel
theorem dX12_laysParts_82 : decode cX12_laysParts 82 = .ok (.ldc_w 280, 3) := by decide +kernel
theorem dX12_laysParts_85 : decode cX12_laysParts 85 = .ok (.iastore, 1) := by decide +kernel
theorem dX12_laysParts_86 : decode cX12_laysParts 86 = .ok (.iinc 3 1, 3) := by decide +kernel
theorem dX12_laysParts_89 : decode cX12_laysParts 89 = .ok (.goto (-26), 3) := by decide +kernel
theorem dX12_laysParts_92 : decode cX12_laysParts 92 = .ok (.iconst 1, 1) := by decide +kernel
theorem dX12_laysParts_93 : decode cX12_laysParts 93 = .ok (.istore_n 3, 1) := by decide +kernel
theorem dX12_laysParts_94 : decode cX12_laysParts 94 = .ok (.iload_n 3, 1) := by decide +kernel
theorem dX12_laysParts_95 : decode cX12_laysParts 95 = .ok (.iload_n 1, 1) := by decide +kernel
theorem dX12_laysParts_96 : decode cX12_laysParts 96 = .ok (.if_icmp .gt 107, 3) := by decide +kernel
theorem dX12_laysParts_99 : decode cX12_laysParts 99 = .ok (.iconst 0, 1) := by decide +kernel
theorem dX12_laysParts_100 : decode cX12_laysParts 100 = .ok (.istore 4, 2) := by decide +kernel
theorem dX12_laysParts_102 : decode cX12_laysParts 102 = .ok (.iload 4, 2) := by decide +kernel
theorem dX12_laysParts_104 : decode cX12_laysParts 104 = .ok (.iload_n 2, 1) := by decide +kernel
theorem dX12_laysParts_105 : decode cX12_laysParts 105 = .ok (.if_icmp .gt 92, 3) := by decide +kernel
theorem dX12_laysParts_108 : decode cX12_laysParts 108 = .ok (.ldc_w 280, 3) := by decide +kernel
theorem dX12_laysParts_111 : decode cX12_laysParts 111 = .ok (.istore 5, 2) := by decide +kernel
theorem dX12_laysParts_113 : decode cX12_laysParts 113 = .ok (.iload 4, 2) := by decide +kernel
theorem dX12_laysParts_115 : decode cX12_laysParts 115 = .ok (.istore 6, 2) := by decide +kernel
theorem dX12_laysParts_117 : decode cX12_laysParts 117 = .ok (.iload 6, 2) := by decide +kernel
theorem dX12_laysParts_119 : decode cX12_laysParts 119 = .ok (.iload_n 2, 1) := by decide +kernel
theorem dX12_laysParts_120 : decode cX12_laysParts 120 = .ok (.if_icmp .ge 57, 3) := by decide +kernel
theorem dX12_laysParts_123 : decode cX12_laysParts 123 = .ok (.aload_n 0, 1) := by decide +kernel
theorem dX12_laysParts_124 : decode cX12_laysParts 124 = .ok (.getfield 55, 3) := by decide +kernel
theorem dX12_laysParts_127 : decode cX12_laysParts 127 = .ok (.bipush 24, 2) := by decide +kernel
theorem dX12_laysParts_129 : decode cX12_laysParts 129 = .ok (.iload 4, 2) := by decide +kernel
theorem dX12_laysParts_131 : decode cX12_laysParts 131 = .ok (.imul, 1) := by decide +kernel
theorem dX12_laysParts_132 : decode cX12_laysParts 132 = .ok (.iload 6, 2) := by decide +kernel
theorem dX12_laysParts_134 : decode cX12_laysParts 134 = .ok (.iadd, 1) := by decide +kernel
theorem dX12_laysParts_135 : decode cX12_laysParts 135 = .ok (.iaload, 1) := by decide +kernel
theorem dX12_laysParts_136 : decode cX12_laysParts 136 = .ok (.aload_n 0, 1) := by decide +kernel
theorem dX12_laysParts_137 : decode cX12_laysParts 137 = .ok (.getfield 58, 3) := by decide +kernel
theorem dX12_laysParts_140 : decode cX12_laysParts 140 = .ok (.bipush 25, 2) := by decide +kernel
theorem dX12_laysParts_142 : decode cX12_laysParts 142 = .ok (.iload_n 3, 1) := by decide +kernel
theorem dX12_laysParts_143 : decode cX12_laysParts 143 = .ok (.iconst 1, 1) := by decide +kernel
theorem dX12_laysParts_144 : decode cX12_laysParts 144 = .ok (.isub, 1) := by decide +kernel
theorem dX12_laysParts_145 : decode cX12_laysParts 145 = .ok (.imul, 1) := by decide +kernel
theorem dX12_laysParts_146 : decode cX12_laysParts 146 = .ok (.iload 6, 2) := by decide +kernel
theorem dX12_laysParts_148 : decode cX12_laysParts 148 = .ok (.iadd, 1) := by decide +kernel
theorem dX12_laysParts_149 : decode cX12_laysParts 149 = .ok (.iconst 1, 1) := by decide +kernel
theorem dX12_laysParts_150 : decode cX12_laysParts 150 = .ok (.iadd, 1) := by decide +kernel
theorem dX12_laysParts_151 : decode cX12_laysParts 151 = .ok (.iaload, 1) := by decide +kernel
theorem dX12_laysParts_152 : decode cX12_laysParts 152 = .ok (.iadd, 1) := by decide +kernel
theorem dX12_laysParts_153 : decode cX12_laysParts 153 = .ok (.istore 7, 2) := by decide +kernel
theorem dX12_laysParts_155 : decode cX12_laysParts 155 = .ok (.iload 7, 2) := by decide +kernel
theorem dX12_laysParts_157 : decode cX12_laysParts 157 = .ok (.iload 5, 2) := by decide +kernel
theorem dX12_laysParts_159 : decode cX12_laysParts 159 = .ok (.if_icmp .ge 8, 3) := by decide +kernel
theorem dX12_laysParts_162 : decode cX12_laysParts 162 = .ok (.iload 7, 2) := by decide +kernel
theorem dX12_laysParts_164 : decode cX12_laysParts 164 = .ok (.goto 5, 3) := by decide +kernel
theorem dX12_laysParts_167 : decode cX12_laysParts 167 = .ok (.iload 5, 2) := by decide +kernel
theorem dX12_laysParts_169 : decode cX12_laysParts 169 = .ok (.istore 5, 2) := by decide +kernel
theorem dX12_laysParts_171 : decode cX12_laysParts 171 = .ok (.iinc 6 1, 3) := by decide +kernel
theorem dX12_laysParts_174 : decode cX12_laysParts 174 = .ok (.goto (-57), 3) := by decide +kernel
theorem dX12_laysParts_177 : decode cX12_laysParts 177 = .ok (.aload_n 0, 1) := by decide +kernel
theorem dX12_laysParts_178 : decode cX12_laysParts 178 = .ok (.getfield 58, 3) := by decide +kernel
theorem dX12_laysParts_181 : decode cX12_laysParts 181 = .ok (.bipush 25, 2) := by decide +kernel
theorem dX12_laysParts_183 : decode cX12_laysParts 183 = .ok (.iload_n 3, 1) := by decide +kernel
theorem dX12_laysParts_184 : decode cX12_laysParts 184 = .ok (.imul, 1) := by decide +kernel
theorem dX12_laysParts_185 : decode cX12_laysParts 185 = .ok (.iload 4, 2) := by decide +kernel
theorem dX12_laysParts_187 : decode cX12_laysParts 187 = .ok (.iadd, 1) := by decide +kernel
theorem dX12_laysParts_188 : decode cX12_laysParts 188 = .ok (.iload 5, 2) := by decide +kernel
theorem dX12_laysParts_190 : decode cX12_laysParts 190 = .ok (.iastore, 1) := by decide +kernel
theorem dX12_laysParts_191 : decode cX12_laysParts 191 = .ok (.iinc 4 1, 3) := by decide +kernel
theorem dX12_laysParts_194 : decode cX12_laysParts 194 = .ok (.goto (-92), 3) := by decide +kernel
theorem dX12_laysParts_197 : decode cX12_laysParts 197 = .ok (.iinc 3 1, 3) := by decide +kernel
theorem dX12_laysParts_200 : decode cX12_laysParts 200 = .ok (.goto (-106), 3) := by decide +kernel
theorem dX12_laysParts_203 : decode cX12_laysParts 203 = .ok (.return_, 1) := by decide +kernel
theorem dX12_parted_0 : decode cX12_parted 0 = .ok (.aload_n 0, 1) := by decide +kernel
theorem dX12_parted_1 : decode cX12_parted 1 = .ok (.iconst 0, 1) := by decide +kernel
theorem dX12_parted_2 : decode cX12_parted 2 = .ok (.putfield 1, 3) := by decide +kernel
theorem dX12_parted_5 : decode cX12_parted 5 = .ok (.iload_n 1, 1) := by decide +kernel
theorem dX12_parted_6 : decode cX12_parted 6 = .ok (.i2l, 1) := by decide +kernel
theorem dX12_parted_7 : decode cX12_parted 7 = .ok (.lconst 1, 1) := by decide +kernel
theorem dX12_parted_8 : decode cX12_parted 8 = .ok (.ldc2_w 281, 3) := by decide +kernel
theorem dX12_parted_11 : decode cX12_parted 11 = .ok (.invokestatic 83, 3) := by decide +kernel
theorem dX12_parted_14 : decode cX12_parted 14 = .ok (.ifCond .eq 8, 3) := by decide +kernel
theorem dX12_parted_17 : decode cX12_parted 17 = .ok (.iload_n 2, 1) := by decide +kernel
theorem dX12_parted_18 : decode cX12_parted 18 = .ok (.iconst (-1), 1) := by decide +kernel
theorem dX12_parted_19 : decode cX12_parted 19 = .ok (.if_icmp .ge 6, 3) := by decide +kernel
theorem dX12_parted_22 : decode cX12_parted 22 = .ok (.bipush (-3), 2) := by decide +kernel
theorem dX12_parted_24 : decode cX12_parted 24 = .ok (.ireturn, 1) := by decide +kernel
theorem dX12_parted_25 : decode cX12_parted 25 = .ok (.aload_n 0, 1) := by decide +kernel
theorem dX12_parted_26 : decode cX12_parted 26 = .ok (.getfield 13, 3) := by decide +kernel
theorem dX12_parted_29 : decode cX12_parted 29 = .ok (.iconst 2, 1) := by decide +kernel
theorem dX12_parted_30 : decode cX12_parted 30 = .ok (.iaload, 1) := by decide +kernel
theorem dX12_parted_31 : decode cX12_parted 31 = .ok (.iload_n 1, 1) := by decide +kernel
theorem dX12_parted_32 : decode cX12_parted 32 = .ok (.if_icmp .lt 8, 3) := by decide +kernel
theorem dX12_parted_35 : decode cX12_parted 35 = .ok (.iload_n 2, 1) := by decide +kernel
theorem dX12_parted_36 : decode cX12_parted 36 = .ok (.iload_n 1, 1) := by decide +kernel
theorem dX12_parted_37 : decode cX12_parted 37 = .ok (.if_icmp .lt 5, 3) := by decide +kernel
theorem dX12_parted_40 : decode cX12_parted 40 = .ok (.iconst (-1), 1) := by decide +kernel
theorem dX12_parted_41 : decode cX12_parted 41 = .ok (.ireturn, 1) := by decide +kernel
theorem dX12_parted_42 : decode cX12_parted 42 = .ok (.aload_n 0, 1) := by decide +kernel
theorem dX12_parted_43 : decode cX12_parted 43 = .ok (.invokevirtual 185, 3) := by decide +kernel
theorem dX12_parted_46 : decode cX12_parted 46 = .ok (.aload_n 0, 1) := by decide +kernel
theorem dX12_parted_47 : decode cX12_parted 47 = .ok (.iload_n 1, 1) := by decide +kernel
theorem dX12_parted_48 : decode cX12_parted 48 = .ok (.invokevirtual 283, 3) := by decide +kernel
theorem dX12_parted_51 : decode cX12_parted 51 = .ok (.iload_n 2, 1) := by decide +kernel
theorem dX12_parted_52 : decode cX12_parted 52 = .ok (.iconst (-1), 1) := by decide +kernel
theorem dX12_parted_53 : decode cX12_parted 53 = .ok (.if_icmp .ne 13, 3) := by decide +kernel
theorem dX12_parted_56 : decode cX12_parted 56 = .ok (.aload_n 0, 1) := by decide +kernel
theorem dX12_parted_57 : decode cX12_parted 57 = .ok (.getfield 58, 3) := by decide +kernel
theorem dX12_parted_60 : decode cX12_parted 60 = .ok (.bipush 25, 2) := by decide +kernel
theorem dX12_parted_62 : decode cX12_parted 62 = .ok (.iload_n 1, 1) := by decide +kernel
theorem dX12_parted_63 : decode cX12_parted 63 = .ok (.imul, 1) := by decide +kernel
theorem dX12_parted_64 : decode cX12_parted 64 = .ok (.iaload, 1) := by decide +kernel
theorem dX12_parted_65 : decode cX12_parted 65 = .ok (.ireturn, 1) := by decide +kernel
theorem dX12_parted_66 : decode cX12_parted 66 = .ok (.iconst 0, 1) := by decide +kernel
theorem dX12_parted_67 : decode cX12_parted 67 = .ok (.istore_n 3, 1) := by decide +kernel
theorem dX12_parted_68 : decode cX12_parted 68 = .ok (.iload_n 1, 1) := by decide +kernel
theorem dX12_parted_69 : decode cX12_parted 69 = .ok (.istore 4, 2) := by decide +kernel
theorem dX12_parted_71 : decode cX12_parted 71 = .ok (.iload 4, 2) := by decide +kernel
theorem dX12_parted_73 : decode cX12_parted 73 = .ok (.iload_n 1, 1) := by decide +kernel
theorem dX12_parted_74 : decode cX12_parted 74 = .ok (.iload_n 2, 1) := by decide +kernel
theorem dX12_parted_75 : decode cX12_parted 75 = .ok (.isub, 1) := by decide +kernel
theorem dX12_parted_76 : decode cX12_parted 76 = .ok (.if_icmp .le 68, 3) := by decide +kernel
theorem dX12_parted_79 : decode cX12_parted 79 = .ok (.iload_n 3, 1) := by decide +kernel
theorem dX12_parted_80 : decode cX12_parted 80 = .ok (.istore 5, 2) := by decide +kernel
theorem dX12_parted_82 : decode cX12_parted 82 = .ok (.aload_n 0, 1) := by decide +kernel
theorem dX12_parted_83 : decode cX12_parted 83 = .ok (.getfield 55, 3) := by decide +kernel
theorem dX12_parted_86 : decode cX12_parted 86 = .ok (.bipush 24, 2) := by decide +kernel
theorem dX12_parted_88 : decode cX12_parted 88 = .ok (.iload_n 3, 1) := by decide +kernel
theorem dX12_parted_89 : decode cX12_parted 89 = .ok (.imul, 1) := by decide +kernel
theorem dX12_parted_90 : decode cX12_parted 90 = .ok (.iload 5, 2) := by decide +kernel
theorem dX12_parted_92 : decode cX12_parted 92 = .ok (.iadd, 1) := by decide +kernel
theorem dX12_parted_93 : decode cX12_parted 93 = .ok (.iaload, 1) := by decide +kernel
theorem dX12_parted_94 : decode cX12_parted 94 = .ok (.aload_n 0, 1) := by decide +kernel
theorem dX12_parted_95 : decode cX12_parted 95 = .ok (.getfield 58, 3) := by decide +kernel
theorem dX12_parted_98 : decode cX12_parted 98 = .ok (.bipush 25, 2) := by decide +kernel
theorem dX12_parted_100 : decode cX12_parted 100 = .ok (.iload 4, 2) := by decide +kernel
theorem dX12_parted_102 : decode cX12_parted 102 = .ok (.iconst 1, 1) := by decide +kernel
theorem dX12_parted_103 : decode cX12_parted 103 = .ok (.isub, 1) := by decide +kernel
theorem dX12_parted_104 : decode cX12_parted 104 = .ok (.imul, 1) := by decide +kernel
theorem dX12_parted_105 : decode cX12_parted 105 = .ok (.iload 5, 2) := by decide +kernel
theorem dX12_parted_107 : decode cX12_parted 107 = .ok (.iadd, 1) := by decide +kernel
theorem dX12_parted_108 : decode cX12_parted 108 = .ok (.iconst 1, 1) := by decide +kernel
theorem dX12_parted_109 : decode cX12_parted 109 = .ok (.iadd, 1) := by decide +kernel
theorem dX12_parted_110 : decode cX12_parted 110 = .ok (.iaload, 1) := by decide +kernel
theorem dX12_parted_111 : decode cX12_parted 111 = .ok (.iadd, 1) := by decide +kernel
theorem dX12_parted_112 : decode cX12_parted 112 = .ok (.aload_n 0, 1) := by decide +kernel
theorem dX12_parted_113 : decode cX12_parted 113 = .ok (.getfield 58, 3) := by decide +kernel
theorem dX12_parted_116 : decode cX12_parted 116 = .ok (.bipush 25, 2) := by decide +kernel
theorem dX12_parted_118 : decode cX12_parted 118 = .ok (.iload 4, 2) := by decide +kernel
theorem dX12_parted_120 : decode cX12_parted 120 = .ok (.imul, 1) := by decide +kernel
theorem dX12_parted_121 : decode cX12_parted 121 = .ok (.iload_n 3, 1) := by decide +kernel
theorem dX12_parted_122 : decode cX12_parted 122 = .ok (.iadd, 1) := by decide +kernel
theorem dX12_parted_123 : decode cX12_parted 123 = .ok (.iaload, 1) := by decide +kernel
theorem dX12_parted_124 : decode cX12_parted 124 = .ok (.if_icmp .le 9, 3) := by decide +kernel
theorem dX12_parted_127 : decode cX12_parted 127 = .ok (.iinc 5 1, 3) := by decide +kernel
theorem dX12_parted_130 : decode cX12_parted 130 = .ok (.goto (-48), 3) := by decide +kernel
theorem dX12_parted_133 : decode cX12_parted 133 = .ok (.iload 5, 2) := by decide +kernel
theorem dX12_parted_135 : decode cX12_parted 135 = .ok (.iconst 1, 1) := by decide +kernel
theorem dX12_parted_136 : decode cX12_parted 136 = .ok (.iadd, 1) := by decide +kernel
theorem dX12_parted_137 : decode cX12_parted 137 = .ok (.istore_n 3, 1) := by decide +kernel
theorem dX12_parted_138 : decode cX12_parted 138 = .ok (.iinc 4 (-1), 3) := by decide +kernel
theorem dX12_parted_141 : decode cX12_parted 141 = .ok (.goto (-70), 3) := by decide +kernel
theorem dX12_parted_144 : decode cX12_parted 144 = .ok (.iload_n 3, 1) := by decide +kernel
theorem dX12_parted_145 : decode cX12_parted 145 = .ok (.ireturn, 1) := by decide +kernel
theorem dX12_likeBy_0 : decode cX12_likeBy 0 = .ok (.iconst 0, 1) := by decide +kernel
theorem dX12_likeBy_1 : decode cX12_likeBy 1 = .ok (.istore 4, 2) := by decide +kernel
theorem dX12_likeBy_3 : decode cX12_likeBy 3 = .ok (.iconst 0, 1) := by decide +kernel
theorem dX12_likeBy_4 : decode cX12_likeBy 4 = .ok (.istore 5, 2) := by decide +kernel
theorem dX12_likeBy_6 : decode cX12_likeBy 6 = .ok (.iload 5, 2) := by decide +kernel
theorem dX12_likeBy_8 : decode cX12_likeBy 8 = .ok (.aload_n 0, 1) := by decide +kernel
theorem dX12_likeBy_9 : decode cX12_likeBy 9 = .ok (.invokevirtual 129, 3) := by decide +kernel
theorem dX12_likeBy_12 : decode cX12_likeBy 12 = .ok (.if_icmp .ge 112, 3) := by decide +kernel
theorem dX12_likeBy_15 : decode cX12_likeBy 15 = .ok (.iload 5, 2) := by decide +kernel
theorem dX12_likeBy_17 : decode cX12_likeBy 17 = .ok (.aload_n 0, 1) := by decide +kernel
theorem dX12_likeBy_18 : decode cX12_likeBy 18 = .ok (.getfield 13, 3) := by decide +kernel
theorem dX12_likeBy_21 : decode cX12_likeBy 21 = .ok (.iconst 0, 1) := by decide +kernel
theorem dX12_likeBy_22 : decode cX12_likeBy 22 = .ok (.iaload, 1) := by decide +kernel
theorem dX12_likeBy_23 : decode cX12_likeBy 23 = .ok (.irem, 1) := by decide +kernel
theorem dX12_likeBy_24 : decode cX12_likeBy 24 = .ok (.iload_n 2, 1) := by decide +kernel
theorem dX12_likeBy_25 : decode cX12_likeBy 25 = .ok (.iadd, 1) := by decide +kernel
theorem dX12_likeBy_26 : decode cX12_likeBy 26 = .ok (.istore 6, 2) := by decide +kernel
theorem dX12_likeBy_28 : decode cX12_likeBy 28 = .ok (.iload 5, 2) := by decide +kernel
theorem dX12_likeBy_30 : decode cX12_likeBy 30 = .ok (.aload_n 0, 1) := by decide +kernel
theorem dX12_likeBy_31 : decode cX12_likeBy 31 = .ok (.getfield 13, 3) := by decide +kernel
theorem dX12_likeBy_34 : decode cX12_likeBy 34 = .ok (.iconst 0, 1) := by decide +kernel
theorem dX12_likeBy_35 : decode cX12_likeBy 35 = .ok (.iaload, 1) := by decide +kernel
theorem dX12_likeBy_36 : decode cX12_likeBy 36 = .ok (.idiv, 1) := by decide +kernel
theorem dX12_likeBy_37 : decode cX12_likeBy 37 = .ok (.iload_n 3, 1) := by decide +kernel
theorem dX12_likeBy_38 : decode cX12_likeBy 38 = .ok (.iadd, 1) := by decide +kernel
theorem dX12_likeBy_39 : decode cX12_likeBy 39 = .ok (.istore 7, 2) := by decide +kernel
theorem dX12_likeBy_41 : decode cX12_likeBy 41 = .ok (.iload 4, 2) := by decide +kernel
theorem dX12_likeBy_43 : decode cX12_likeBy 43 = .ok (.iload 6, 2) := by decide +kernel
theorem dX12_likeBy_45 : decode cX12_likeBy 45 = .ok (.i2l, 1) := by decide +kernel
theorem dX12_likeBy_46 : decode cX12_likeBy 46 = .ok (.lconst 0, 1) := by decide +kernel
theorem dX12_likeBy_47 : decode cX12_likeBy 47 = .ok (.aload_n 0, 1) := by decide +kernel
theorem dX12_likeBy_48 : decode cX12_likeBy 48 = .ok (.getfield 13, 3) := by decide +kernel
theorem dX12_likeBy_51 : decode cX12_likeBy 51 = .ok (.iconst 0, 1) := by decide +kernel
theorem dX12_likeBy_52 : decode cX12_likeBy 52 = .ok (.iaload, 1) := by decide +kernel
theorem dX12_likeBy_53 : decode cX12_likeBy 53 = .ok (.iconst 1, 1) := by decide +kernel
theorem dX12_likeBy_54 : decode cX12_likeBy 54 = .ok (.isub, 1) := by decide +kernel
theorem dX12_likeBy_55 : decode cX12_likeBy 55 = .ok (.i2l, 1) := by decide +kernel
theorem dX12_likeBy_56 : decode cX12_likeBy 56 = .ok (.invokestatic 83, 3) := by decide +kernel
theorem dX12_likeBy_59 : decode cX12_likeBy 59 = .ok (.ifCond .eq 55, 3) := by decide +kernel
theorem dX12_likeBy_62 : decode cX12_likeBy 62 = .ok (.iload 7, 2) := by decide +kernel
theorem dX12_likeBy_64 : decode cX12_likeBy 64 = .ok (.i2l, 1) := by decide +kernel
theorem dX12_likeBy_65 : decode cX12_likeBy 65 = .ok (.lconst 0, 1) := by decide +kernel
theorem dX12_likeBy_66 : decode cX12_likeBy 66 = .ok (.aload_n 0, 1) := by decide +kernel
theorem dX12_likeBy_67 : decode cX12_likeBy 67 = .ok (.getfield 13, 3) := by decide +kernel
theorem dX12_likeBy_70 : decode cX12_likeBy 70 = .ok (.iconst 1, 1) := by decide +kernel
theorem dX12_likeBy_71 : decode cX12_likeBy 71 = .ok (.iaload, 1) := by decide +kernel
theorem dX12_likeBy_72 : decode cX12_likeBy 72 = .ok (.iconst 1, 1) := by decide +kernel
theorem dX12_likeBy_73 : decode cX12_likeBy 73 = .ok (.isub, 1) := by decide +kernel
theorem dX12_likeBy_74 : decode cX12_likeBy 74 = .ok (.i2l, 1) := by decide +kernel
theorem dX12_likeBy_75 : decode cX12_likeBy 75 = .ok (.invokestatic 83, 3) := by decide +kernel
theorem dX12_likeBy_78 : decode cX12_likeBy 78 = .ok (.ifCond .eq 36, 3) := by decide +kernel
theorem dX12_likeBy_81 : decode cX12_likeBy 81 = .ok (.aload_n 0, 1) := by decide +kernel
theorem dX12_likeBy_82 : decode cX12_likeBy 82 = .ok (.iload_n 1, 1) := by decide +kernel
theorem dX12_likeBy_83 : decode cX12_likeBy 83 = .ok (.iconst 1, 1) := by decide +kernel
theorem dX12_likeBy_84 : decode cX12_likeBy 84 = .ok (.iadd, 1) := by decide +kernel
theorem dX12_likeBy_85 : decode cX12_likeBy 85 = .ok (.aload_n 0, 1) := by decide +kernel
theorem dX12_likeBy_86 : decode cX12_likeBy 86 = .ok (.getfield 13, 3) := by decide +kernel
theorem dX12_likeBy_89 : decode cX12_likeBy 89 = .ok (.iconst 0, 1) := by decide +kernel
theorem dX12_likeBy_90 : decode cX12_likeBy 90 = .ok (.iaload, 1) := by decide +kernel
theorem dX12_likeBy_91 : decode cX12_likeBy 91 = .ok (.iload 7, 2) := by decide +kernel
theorem dX12_likeBy_93 : decode cX12_likeBy 93 = .ok (.imul, 1) := by decide +kernel
theorem dX12_likeBy_94 : decode cX12_likeBy 94 = .ok (.iload 6, 2) := by decide +kernel
theorem dX12_likeBy_96 : decode cX12_likeBy 96 = .ok (.iadd, 1) := by decide +kernel
theorem dX12_likeBy_97 : decode cX12_likeBy 97 = .ok (.invokevirtual 200, 3) := by decide +kernel
theorem dX12_likeBy_100 : decode cX12_likeBy 100 = .ok (.aload_n 0, 1) := by decide +kernel
theorem dX12_likeBy_101 : decode cX12_likeBy 101 = .ok (.iload_n 1, 1) := by decide +kernel
theorem dX12_likeBy_102 : decode cX12_likeBy 102 = .ok (.iload 5, 2) := by decide +kernel
theorem dX12_likeBy_104 : decode cX12_likeBy 104 = .ok (.invokevirtual 200, 3) := by decide +kernel
theorem dX12_likeBy_107 : decode cX12_likeBy 107 = .ok (.if_icmp .ne 7, 3) := by decide +kernel
theorem dX12_likeBy_110 : decode cX12_likeBy 110 = .ok (.iconst 1, 1) := by decide +kernel
theorem dX12_likeBy_111 : decode cX12_likeBy 111 = .ok (.goto 4, 3) := by decide +kernel
theorem dX12_likeBy_114 : decode cX12_likeBy 114 = .ok (.iconst 0, 1) := by decide +kernel
theorem dX12_likeBy_115 : decode cX12_likeBy 115 = .ok (.iadd, 1) := by decide +kernel
theorem dX12_likeBy_116 : decode cX12_likeBy 116 = .ok (.istore 4, 2) := by decide +kernel
theorem dX12_likeBy_118 : decode cX12_likeBy 118 = .ok (.iinc 5 1, 3) := by decide +kernel
theorem dX12_likeBy_121 : decode cX12_likeBy 121 = .ok (.goto (-115), 3) := by decide +kernel
theorem dX12_likeBy_124 : decode cX12_likeBy 124 = .ok (.iload 4, 2) := by decide +kernel
theorem dX12_likeBy_126 : decode cX12_likeBy 126 = .ok (.ireturn, 1) := by decide +kernel
theorem dX12_shift_0 : decode cX12_shift 0 = .ok (.aload_n 0, 1) := by decide +kernel
theorem dX12_shift_1 : decode cX12_shift 1 = .ok (.iconst 0, 1) := by decide +kernel
theorem dX12_shift_2 : decode cX12_shift 2 = .ok (.putfield 1, 3) := by decide +kernel
theorem dX12_shift_5 : decode cX12_shift 5 = .ok (.aload_n 0, 1) := by decide +kernel
theorem dX12_shift_6 : decode cX12_shift 6 = .ok (.iload_n 1, 1) := by decide +kernel
theorem dX12_shift_7 : decode cX12_shift 7 = .ok (.invokevirtual 182, 3) := by decide +kernel
theorem dX12_shift_10 : decode cX12_shift 10 = .ok (.ifCond .eq 15, 3) := by decide +kernel
theorem dX12_shift_13 : decode cX12_shift 13 = .ok (.iload_n 2, 1) := by decide +kernel
theorem dX12_shift_14 : decode cX12_shift 14 = .ok (.i2l, 1) := by decide +kernel
theorem dX12_shift_15 : decode cX12_shift 15 = .ok (.lconst 0, 1) := by decide +kernel
theorem dX12_shift_16 : decode cX12_shift 16 = .ok (.ldc2_w 169, 3) := by decide +kernel
theorem dX12_shift_19 : decode cX12_shift 19 = .ok (.invokestatic 83, 3) := by decide +kernel
theorem dX12_shift_22 : decode cX12_shift 22 = .ok (.ifCond .ne 6, 3) := by decide +kernel
theorem dX12_shift_25 : decode cX12_shift 25 = .ok (.bipush (-2), 2) := by decide +kernel
theorem dX12_shift_27 : decode cX12_shift 27 = .ok (.ireturn, 1) := by decide +kernel
theorem dX12_shift_28 : decode cX12_shift 28 = .ok (.iload_n 1, 1) := by decide +kernel
theorem dX12_shift_29 : decode cX12_shift 29 = .ok (.iconst 1, 1) := by decide +kernel
theorem dX12_shift_30 : decode cX12_shift 30 = .ok (.iadd, 1) := by decide +kernel
theorem dX12_shift_31 : decode cX12_shift 31 = .ok (.aload_n 0, 1) := by decide +kernel
theorem dX12_shift_32 : decode cX12_shift 32 = .ok (.getfield 13, 3) := by decide +kernel
theorem dX12_shift_35 : decode cX12_shift 35 = .ok (.iconst 2, 1) := by decide +kernel
theorem dX12_shift_36 : decode cX12_shift 36 = .ok (.iaload, 1) := by decide +kernel
theorem dX12_shift_37 : decode cX12_shift 37 = .ok (.if_icmp .ne 5, 3) := by decide +kernel
theorem dX12_shift_40 : decode cX12_shift 40 = .ok (.iconst (-1), 1) := by decide +kernel
theorem dX12_shift_41 : decode cX12_shift 41 = .ok (.ireturn, 1) := by decide +kernel
theorem dX12_shift_42 : decode cX12_shift 42 = .ok (.iconst 0, 1) := by decide +kernel
theorem dX12_shift_43 : decode cX12_shift 43 = .ok (.istore_n 3, 1) := by decide +kernel
theorem dX12_shift_44 : decode cX12_shift 44 = .ok (.iconst 0, 1) := by decide +kernel
theorem dX12_shift_45 : decode cX12_shift 45 = .ok (.istore 4, 2) := by decide +kernel
theorem dX12_shift_47 : decode cX12_shift 47 = .ok (.iconst (-1), 1) := by decide +kernel
theorem dX12_shift_48 : decode cX12_shift 48 = .ok (.istore 5, 2) := by decide +kernel
theorem dX12_shift_50 : decode cX12_shift 50 = .ok (.iconst 0, 1) := by decide +kernel
theorem dX12_shift_51 : decode cX12_shift 51 = .ok (.istore 6, 2) := by decide +kernel
theorem dX12_shift_53 : decode cX12_shift 53 = .ok (.iload 6, 2) := by decide +kernel
theorem dX12_shift_55 : decode cX12_shift 55 = .ok (.iconst 5, 1) := by decide +kernel
theorem dX12_shift_56 : decode cX12_shift 56 = .ok (.if_icmp .ge 94, 3) := by decide +kernel
theorem dX12_shift_59 : decode cX12_shift 59 = .ok (.bipush (-2), 2) := by decide +kernel
theorem dX12_shift_61 : decode cX12_shift 61 = .ok (.istore 7, 2) := by decide +kernel
theorem dX12_shift_63 : decode cX12_shift 63 = .ok (.iload 7, 2) := by decide +kernel
theorem dX12_shift_65 : decode cX12_shift 65 = .ok (.iconst 3, 1) := by decide +kernel
theorem dX12_shift_66 : decode cX12_shift 66 = .ok (.if_icmp .ge 78, 3) := by decide +kernel
theorem dX12_shift_69 : decode cX12_shift 69 = .ok (.bipush (-2), 2) := by decide +kernel
theorem dX12_shift_71 : decode cX12_shift 71 = .ok (.istore 8, 2) := by decide +kernel
theorem dX12_shift_73 : decode cX12_shift 73 = .ok (.iload 8, 2) := by decide +kernel
theorem dX12_shift_75 : decode cX12_shift 75 = .ok (.iconst 3, 1) := by decide +kernel
theorem dX12_shift_76 : decode cX12_shift 76 = .ok (.if_icmp .ge 62, 3) := by decide +kernel
theorem dX12_shift_79 : decode cX12_shift 79 = .ok (.iload 7, 2) := by decide +kernel
theorem dX12_shift_81 : decode cX12_shift 81 = .ok (.iconst 0, 1) := by decide +kernel
theorem dX12_shift_82 : decode cX12_shift 82 = .ok (.invokestatic 203, 3) := by decide +kernel
theorem dX12_shift_85 : decode cX12_shift 85 = .ok (.iload 8, 2) := by decide +kernel
theorem dX12_shift_87 : decode cX12_shift 87 = .ok (.iconst 0, 1) := by decide +kernel
theorem dX12_shift_88 : decode cX12_shift 88 = .ok (.invokestatic 203, 3) := by decide +kernel
theorem dX12_shift_91 : decode cX12_shift 91 = .ok (.iadd, 1) := by decide +kernel
theorem dX12_shift_92 : decode cX12_shift 92 = .ok (.iload 6, 2) := by decide +kernel
theorem dX12_shift_94 : decode cX12_shift 94 = .ok (.if_icmp .ne 38, 3) := by decide +kernel
theorem dX12_shift_97 : decode cX12_shift 97 = .ok (.aload_n 0, 1) := by decide +kernel
theorem dX12_shift_98 : decode cX12_shift 98 = .ok (.iload_n 1, 1) := by decide +kernel
theorem dX12_shift_99 : decode cX12_shift 99 = .ok (.iload 7, 2) := by decide +kernel
theorem dX12_shift_101 : decode cX12_shift 101 = .ok (.iload 8, 2) := by decide +kernel
theorem dX12_shift_103 : decode cX12_shift 103 = .ok (.invokevirtual 286, 3) := by decide +kernel
theorem dX12_shift_106 : decode cX12_shift 106 = .ok (.iload 5, 2) := by decide +kernel
theorem dX12_shift_108 : decode cX12_shift 108 = .ok (.if_icmp .gt 6, 3) := by decide +kernel
theorem dX12_shift_111 : decode cX12_shift 111 = .ok (.goto 21, 3) := by decide +kernel
theorem dX12_shift_114 : decode cX12_shift 114 = .ok (.iload 7, 2) := by decide +kernel
theorem dX12_shift_116 : decode cX12_shift 116 = .ok (.istore_n 3, 1) := by decide +kernel
theorem dX12_shift_117 : decode cX12_shift 117 = .ok (.iload 8, 2) := by decide +kernel
theorem dX12_shift_119 : decode cX12_shift 119 = .ok (.istore 4, 2) := by decide +kernel
theorem dX12_shift_121 : decode cX12_shift 121 = .ok (.aload_n 0, 1) := by decide +kernel
theorem dX12_shift_122 : decode cX12_shift 122 = .ok (.iload_n 1, 1) := by decide +kernel
theorem dX12_shift_123 : decode cX12_shift 123 = .ok (.iload 7, 2) := by decide +kernel
theorem dX12_shift_125 : decode cX12_shift 125 = .ok (.iload 8, 2) := by decide +kernel
theorem dX12_shift_127 : decode cX12_shift 127 = .ok (.invokevirtual 286, 3) := by decide +kernel
theorem dX12_shift_130 : decode cX12_shift 130 = .ok (.istore 5, 2) := by decide +kernel
theorem dX12_shift_132 : decode cX12_shift 132 = .ok (.iinc 8 1, 3) := by decide +kernel
theorem dX12_shift_135 : decode cX12_shift 135 = .ok (.goto (-62), 3) := by decide +kernel
theorem dX12_shift_138 : decode cX12_shift 138 = .ok (.iinc 7 1, 3) := by decide +kernel
theorem dX12_shift_141 : decode cX12_shift 141 = .ok (.goto (-78), 3) := by decide +kernel
theorem dX12_shift_144 : decode cX12_shift 144 = .ok (.iinc 6 1, 3) := by decide +kernel
theorem dX12_shift_147 : decode cX12_shift 147 = .ok (.goto (-94), 3) := by decide +kernel
theorem dX12_shift_150 : decode cX12_shift 150 = .ok (.iload_n 2, 1) := by decide +kernel
theorem dX12_shift_151 : decode cX12_shift 151 = .ok (.ifCond .ne 9, 3) := by decide +kernel
theorem dX12_shift_154 : decode cX12_shift 154 = .ok (.iload_n 3, 1) := by decide +kernel
theorem dX12_shift_155 : decode cX12_shift 155 = .ok (.iconst 2, 1) := by decide +kernel
theorem dX12_shift_156 : decode cX12_shift 156 = .ok (.iadd, 1) := by decide +kernel
theorem dX12_shift_157 : decode cX12_shift 157 = .ok (.goto 17, 3) := by decide +kernel
theorem dX12_shift_160 : decode cX12_shift 160 = .ok (.iload_n 2, 1) := by decide +kernel
theorem dX12_shift_161 : decode cX12_shift 161 = .ok (.iconst 1, 1) := by decide +kernel
theorem dX12_shift_162 : decode cX12_shift 162 = .ok (.if_icmp .ne 10, 3) := by decide +kernel
theorem dX12_shift_165 : decode cX12_shift 165 = .ok (.iload 4, 2) := by decide +kernel
theorem dX12_shift_167 : decode cX12_shift 167 = .ok (.iconst 2, 1) := by decide +kernel
theorem dX12_shift_168 : decode cX12_shift 168 = .ok (.iadd, 1) := by decide +kernel
theorem dX12_shift_169 : decode cX12_shift 169 = .ok (.goto 5, 3) := by decide +kernel
theorem dX12_shift_172 : decode cX12_shift 172 = .ok (.iload 5, 2) := by decide +kernel
theorem dX12_shift_174 : decode cX12_shift 174 = .ok (.ireturn, 1) := by decide +kernel
theorem dX12_shade_0 : decode cX12_shade 0 = .ok (.aload_n 0, 1) := by decide +kernel
theorem dX12_shade_1 : decode cX12_shade 1 = .ok (.aload_n 0, 1) := by decide +kernel
theorem dX12_shade_2 : decode cX12_shade 2 = .ok (.iload_n 1, 1) := by decide +kernel
theorem dX12_shade_3 : decode cX12_shade 3 = .ok (.invokevirtual 182, 3) := by decide +kernel
theorem dX12_shade_6 : decode cX12_shade 6 = .ok (.ifCond .eq 15, 3) := by decide +kernel
theorem dX12_shade_9 : decode cX12_shade 9 = .ok (.aload_n 0, 1) := by decide +kernel
theorem dX12_shade_10 : decode cX12_shade 10 = .ok (.iload_n 2, 1) := by decide +kernel
theorem dX12_shade_11 : decode cX12_shade 11 = .ok (.invokevirtual 197, 3) := by decide +kernel
theorem dX12_shade_14 : decode cX12_shade 14 = .ok (.ifCond .eq 7, 3) := by decide +kernel
theorem dX12_shade_17 : decode cX12_shade 17 = .ok (.iconst 0, 1) := by decide +kernel
theorem dX12_shade_18 : decode cX12_shade 18 = .ok (.goto 4, 3) := by decide +kernel
theorem dX12_shade_21 : decode cX12_shade 21 = .ok (.iconst 1, 1) := by decide +kernel
theorem dX12_shade_22 : decode cX12_shade 22 = .ok (.putfield 1, 3) := by decide +kernel
theorem dX12_shade_25 : decode cX12_shade 25 = .ok (.aload_n 0, 1) := by decide +kernel
theorem dX12_shade_26 : decode cX12_shade 26 = .ok (.getfield 1, 3) := by decide +kernel
theorem dX12_shade_29 : decode cX12_shade 29 = .ok (.iconst 1, 1) := by decide +kernel
theorem dX12_shade_30 : decode cX12_shade 30 = .ok (.if_icmp .ne 5, 3) := by decide +kernel
theorem dX12_shade_33 : decode cX12_shade 33 = .ok (.iconst 0, 1) := by decide +kernel
theorem dX12_shade_34 : decode cX12_shade 34 = .ok (.ireturn, 1) := by decide +kernel
theorem dX12_shade_35 : decode cX12_shade 35 = .ok (.iload_n 3, 1) := by decide +kernel
theorem dX12_shade_36 : decode cX12_shade 36 = .ok (.ifCond .ne 10, 3) := by decide +kernel
theorem dX12_shade_39 : decode cX12_shade 39 = .ok (.aload_n 0, 1) := by decide +kernel
theorem dX12_shade_40 : decode cX12_shade 40 = .ok (.iload_n 1, 1) := by decide +kernel
theorem dX12_shade_41 : decode cX12_shade 41 = .ok (.iload_n 2, 1) := by decide +kernel
theorem dX12_shade_42 : decode cX12_shade 42 = .ok (.invokevirtual 200, 3) := by decide +kernel
theorem dX12_shade_45 : decode cX12_shade 45 = .ok (.ireturn, 1) := by decide +kernel
theorem dX12_shade_46 : decode cX12_shade 46 = .ok (.aload_n 0, 1) := by decide +kernel
theorem dX12_shade_47 : decode cX12_shade 47 = .ok (.invokevirtual 185, 3) := by decide +kernel
theorem dX12_shade_50 : decode cX12_shade 50 = .ok (.aload_n 0, 1) := by decide +kernel
theorem dX12_shade_51 : decode cX12_shade 51 = .ok (.iload_n 1, 1) := by decide +kernel
theorem dX12_shade_52 : decode cX12_shade 52 = .ok (.invokevirtual 256, 3) := by decide +kernel
theorem dX12_shade_55 : decode cX12_shade 55 = .ok (.aload_n 0, 1) := by decide +kernel
theorem dX12_shade_56 : decode cX12_shade 56 = .ok (.getfield 46, 3) := by decide +kernel
theorem dX12_shade_59 : decode cX12_shade 59 = .ok (.bipush 64, 2) := by decide +kernel
theorem dX12_shade_61 : decode cX12_shade 61 = .ok (.iload_n 1, 1) := by decide +kernel
theorem dX12_shade_62 : decode cX12_shade 62 = .ok (.imul, 1) := by decide +kernel
theorem dX12_shade_63 : decode cX12_shade 63 = .ok (.iload_n 2, 1) := by decide +kernel
theorem dX12_shade_64 : decode cX12_shade 64 = .ok (.iadd, 1) := by decide +kernel
theorem dX12_shade_65 : decode cX12_shade 65 = .ok (.iaload, 1) := by decide +kernel
theorem dX12_shade_66 : decode cX12_shade 66 = .ok (.ireturn, 1) := by decide +kernel
theorem dX12_countIn_0 : decode cX12_countIn 0 = .ok (.aload_n 0, 1) := by decide +kernel
theorem dX12_countIn_1 : decode cX12_countIn 1 = .ok (.bipush 16, 2) := by decide +kernel
theorem dX12_countIn_3 : decode cX12_countIn 3 = .ok (.iload_n 1, 1) := by decide +kernel
theorem dX12_countIn_4 : decode cX12_countIn 4 = .ok (.imul, 1) := by decide +kernel
theorem dX12_countIn_5 : decode cX12_countIn 5 = .ok (.iload_n 2, 1) := by decide +kernel
theorem dX12_countIn_6 : decode cX12_countIn 6 = .ok (.iadd, 1) := by decide +kernel
theorem dX12_countIn_7 : decode cX12_countIn 7 = .ok (.iaload, 1) := by decide +kernel
theorem dX12_countIn_8 : decode cX12_countIn 8 = .ok (.iload_n 2, 1) := by decide +kernel
theorem dX12_countIn_9 : decode cX12_countIn 9 = .ok (.ifCond .ne 7, 3) := by decide +kernel
theorem dX12_countIn_12 : decode cX12_countIn 12 = .ok (.iconst 0, 1) := by decide +kernel
theorem dX12_countIn_13 : decode cX12_countIn 13 = .ok (.goto 13, 3) := by decide +kernel
theorem dX12_countIn_16 : decode cX12_countIn 16 = .ok (.aload_n 0, 1) := by decide +kernel
theorem dX12_countIn_17 : decode cX12_countIn 17 = .ok (.bipush 16, 2) := by decide +kernel
theorem dX12_countIn_19 : decode cX12_countIn 19 = .ok (.iload_n 1, 1) := by decide +kernel
theorem dX12_countIn_20 : decode cX12_countIn 20 = .ok (.imul, 1) := by decide +kernel
theorem dX12_countIn_21 : decode cX12_countIn 21 = .ok (.iload_n 2, 1) := by decide +kernel
theorem dX12_countIn_22 : decode cX12_countIn 22 = .ok (.iadd, 1) := by decide +kernel
theorem dX12_countIn_23 : decode cX12_countIn 23 = .ok (.iconst 1, 1) := by decide +kernel
theorem dX12_countIn_24 : decode cX12_countIn 24 = .ok (.isub, 1) := by decide +kernel
theorem dX12_countIn_25 : decode cX12_countIn 25 = .ok (.iaload, 1) := by decide +kernel
theorem dX12_countIn_26 : decode cX12_countIn 26 = .ok (.isub, 1) := by decide +kernel
theorem dX12_countIn_27 : decode cX12_countIn 27 = .ok (.ireturn, 1) := by decide +kernel
theorem dX12_level_0 : decode cX12_level 0 = .ok (.aload_n 0, 1) := by decide +kernel
theorem dX12_level_1 : decode cX12_level 1 = .ok (.iconst 0, 1) := by decide +kernel
theorem dX12_level_2 : decode cX12_level 2 = .ok (.putfield 1, 3) := by decide +kernel
theorem dX12_level_5 : decode cX12_level 5 = .ok (.aload_n 0, 1) := by decide +kernel
theorem dX12_level_6 : decode cX12_level 6 = .ok (.iload_n 1, 1) := by decide +kernel
theorem dX12_level_7 : decode cX12_level 7 = .ok (.invokevirtual 182, 3) := by decide +kernel
theorem dX12_level_10 : decode cX12_level 10 = .ok (.ifCond .eq 15, 3) := by decide +kernel
theorem dX12_level_13 : decode cX12_level 13 = .ok (.iload_n 3, 1) := by decide +kernel
theorem dX12_level_14 : decode cX12_level 14 = .ok (.i2l, 1) := by decide +kernel
theorem dX12_level_15 : decode cX12_level 15 = .ok (.lconst 0, 1) := by decide +kernel
theorem dX12_level_16 : decode cX12_level 16 = .ok (.ldc2_w 289, 3) := by decide +kernel
theorem dX12_level_19 : decode cX12_level 19 = .ok (.invokestatic 83, 3) := by decide +kernel
theorem dX12_level_22 : decode cX12_level 22 = .ok (.ifCond .ne 6, 3) := by decide +kernel
theorem dX12_level_25 : decode cX12_level 25 = .ok (.bipush (-2), 2) := by decide +kernel
theorem dX12_level_27 : decode cX12_level 27 = .ok (.ireturn, 1) := by decide +kernel
theorem dX12_level_28 : decode cX12_level 28 = .ok (.iload_n 2, 1) := by decide +kernel
theorem dX12_level_29 : decode cX12_level 29 = .ok (.invokestatic 164, 3) := by decide +kernel
theorem dX12_level_32 : decode cX12_level 32 = .ok (.ifCond .ne 6, 3) := by decide +kernel
theorem dX12_level_35 : decode cX12_level 35 = .ok (.bipush (-3), 2) := by decide +kernel
theorem dX12_level_37 : decode cX12_level 37 = .ok (.ireturn, 1) := by decide +kernel
theorem dX12_level_38 : decode cX12_level 38 = .ok (.aload_n 0, 1) := by decide +kernel
theorem dX12_level_39 : decode cX12_level 39 = .ok (.invokevirtual 185, 3) := by decide +kernel
theorem dX12_level_42 : decode cX12_level 42 = .ok (.aload_n 0, 1) := by decide +kernel
theorem dX12_level_43 : decode cX12_level 43 = .ok (.iload_n 1, 1) := by decide +kernel
theorem dX12_level_44 : decode cX12_level 44 = .ok (.invokevirtual 256, 3) := by decide +kernel
theorem dX12_level_47 : decode cX12_level 47 = .ok (.iload_n 3, 1) := by decide +kernel
theorem dX12_level_48 : decode cX12_level 48 = .ok (.tableswitch 63 0 3 #[32, 42, 49, 56], 32) := by decide +kernel
theorem dX12_level_80 : decode cX12_level 80 = .ok (.aload_n 0, 1) := by decide +kernel
theorem dX12_level_81 : decode cX12_level 81 = .ok (.getfield 30, 3) := by decide +kernel
theorem dX12_level_84 : decode cX12_level 84 = .ok (.iload_n 1, 1) := by decide +kernel
theorem dX12_level_85 : decode cX12_level 85 = .ok (.iload_n 2, 1) := by decide +kernel
theorem dX12_level_86 : decode cX12_level 86 = .ok (.invokestatic 291, 3) := by decide +kernel
theorem dX12_level_89 : decode cX12_level 89 = .ok (.ireturn, 1) := by decide +kernel
theorem dX12_level_90 : decode cX12_level 90 = .ok (.aload_n 0, 1) := by decide +kernel
theorem dX12_level_91 : decode cX12_level 91 = .ok (.iload_n 1, 1) := by decide +kernel
theorem dX12_level_92 : decode cX12_level 92 = .ok (.iload_n 2, 1) := by decide +kernel
theorem dX12_level_93 : decode cX12_level 93 = .ok (.invokevirtual 229, 3) := by decide +kernel
theorem dX12_level_96 : decode cX12_level 96 = .ok (.ireturn, 1) := by decide +kernel
theorem dX12_level_97 : decode cX12_level 97 = .ok (.aload_n 0, 1) := by decide +kernel
theorem dX12_level_98 : decode cX12_level 98 = .ok (.getfield 40, 3) := by decide +kernel
theorem dX12_level_101 : decode cX12_level 101 = .ok (.iload_n 2, 1) := by decide +kernel
theorem dX12_level_102 : decode cX12_level 102 = .ok (.iaload, 1) := by decide +kernel
theorem dX12_level_103 : decode cX12_level 103 = .ok (.ireturn, 1) := by decide +kernel
theorem dX12_level_104 : decode cX12_level 104 = .ok (.aload_n 0, 1) := by decide +kernel
theorem dX12_level_105 : decode cX12_level 105 = .ok (.getfield 43, 3) := by decide +kernel
theorem dX12_level_108 : decode cX12_level 108 = .ok (.iload_n 2, 1) := by decide +kernel
theorem dX12_level_109 : decode cX12_level 109 = .ok (.iaload, 1) := by decide +kernel
theorem dX12_level_110 : decode cX12_level 110 = .ok (.ireturn, 1) := by decide +kernel
theorem dX12_level_111 : decode cX12_level 111 = .ok (.aload_n 0, 1) := by decide +kernel
theorem dX12_level_112 : decode cX12_level 112 = .ok (.getfield 49, 3) := by decide +kernel
theorem dX12_level_115 : decode cX12_level 115 = .ok (.iload_n 1, 1) := by decide +kernel
theorem dX12_level_116 : decode cX12_level 116 = .ok (.iload_n 2, 1) := by decide +kernel
theorem dX12_level_117 : decode cX12_level 117 = .ok (.invokestatic 291, 3) := by decide +kernel
theorem dX12_level_120 : decode cX12_level 120 = .ok (.ireturn, 1) := by decide +kernel
theorem dX12_shadesIn_0 : decode cX12_shadesIn 0 = .ok (.iconst 0, 1) := by decide +kernel
theorem dX12_shadesIn_1 : decode cX12_shadesIn 1 = .ok (.istore_n 2, 1) := by decide +kernel
theorem dX12_shadesIn_2 : decode cX12_shadesIn 2 = .ok (.iconst 0, 1) := by decide +kernel
theorem dX12_shadesIn_3 : decode cX12_shadesIn 3 = .ok (.istore_n 3, 1) := by decide +kernel
theorem dX12_shadesIn_4 : decode cX12_shadesIn 4 = .ok (.iload_n 3, 1) := by decide +kernel
theorem dX12_shadesIn_5 : decode cX12_shadesIn 5 = .ok (.bipush 16, 2) := by decide +kernel
theorem dX12_shadesIn_7 : decode cX12_shadesIn 7 = .ok (.if_icmp .ge 26, 3) := by decide +kernel
theorem dX12_shadesIn_10 : decode cX12_shadesIn 10 = .ok (.iload_n 2, 1) := by decide +kernel
theorem dX12_shadesIn_11 : decode cX12_shadesIn 11 = .ok (.aload_n 0, 1) := by decide +kernel
theorem dX12_shadesIn_12 : decode cX12_shadesIn 12 = .ok (.iload_n 1, 1) := by decide +kernel
theorem dX12_shadesIn_13 : decode cX12_shadesIn 13 = .ok (.iload_n 3, 1) := by decide +kernel
theorem dX12_shadesIn_14 : decode cX12_shadesIn 14 = .ok (.invokestatic 291, 3) := by decide +kernel
theorem dX12_shadesIn_17 : decode cX12_shadesIn 17 = .ok (.ifCond .le 7, 3) := by decide +kernel
theorem dX12_shadesIn_20 : decode cX12_shadesIn 20 = .ok (.iconst 1, 1) := by decide +kernel
theorem dX12_shadesIn_21 : decode cX12_shadesIn 21 = .ok (.goto 4, 3) := by decide +kernel
theorem dX12_shadesIn_24 : decode cX12_shadesIn 24 = .ok (.iconst 0, 1) := by decide +kernel
theorem dX12_shadesIn_25 : decode cX12_shadesIn 25 = .ok (.iadd, 1) := by decide +kernel
theorem dX12_shadesIn_26 : decode cX12_shadesIn 26 = .ok (.istore_n 2, 1) := by decide +kernel
theorem dX12_shadesIn_27 : decode cX12_shadesIn 27 = .ok (.iinc 3 1, 3) := by decide +kernel
theorem dX12_shadesIn_30 : decode cX12_shadesIn 30 = .ok (.goto (-26), 3) := by decide +kernel
theorem dX12_shadesIn_33 : decode cX12_shadesIn 33 = .ok (.iload_n 2, 1) := by decide +kernel
theorem dX12_shadesIn_34 : decode cX12_shadesIn 34 = .ok (.ireturn, 1) := by decide +kernel
theorem dX12_frame_0 : decode cX12_frame 0 = .ok (.aload_n 0, 1) := by decide +kernel
theorem dX12_frame_1 : decode cX12_frame 1 = .ok (.iconst 0, 1) := by decide +kernel
theorem dX12_frame_2 : decode cX12_frame 2 = .ok (.putfield 1, 3) := by decide +kernel
theorem dX12_frame_5 : decode cX12_frame 5 = .ok (.aload_n 0, 1) := by decide +kernel
theorem dX12_frame_6 : decode cX12_frame 6 = .ok (.iload_n 1, 1) := by decide +kernel
theorem dX12_frame_7 : decode cX12_frame 7 = .ok (.invokevirtual 182, 3) := by decide +kernel
theorem dX12_frame_10 : decode cX12_frame 10 = .ok (.ifCond .eq 15, 3) := by decide +kernel
theorem dX12_frame_13 : decode cX12_frame 13 = .ok (.iload_n 2, 1) := by decide +kernel
theorem dX12_frame_14 : decode cX12_frame 14 = .ok (.i2l, 1) := by decide +kernel
theorem dX12_frame_15 : decode cX12_frame 15 = .ok (.lconst 0, 1) := by decide +kernel
theorem dX12_frame_16 : decode cX12_frame 16 = .ok (.ldc2_w 281, 3) := by decide +kernel
theorem dX12_frame_19 : decode cX12_frame 19 = .ok (.invokestatic 83, 3) := by decide +kernel
theorem dX12_frame_22 : decode cX12_frame 22 = .ok (.ifCond .ne 6, 3) := by decide +kernel
theorem dX12_frame_25 : decode cX12_frame 25 = .ok (.bipush (-2), 2) := by decide +kernel
theorem dX12_frame_27 : decode cX12_frame 27 = .ok (.ireturn, 1) := by decide +kernel
theorem dX12_frame_28 : decode cX12_frame 28 = .ok (.aload_n 0, 1) := by decide +kernel
theorem dX12_frame_29 : decode cX12_frame 29 = .ok (.invokevirtual 185, 3) := by decide +kernel
theorem dX12_frame_32 : decode cX12_frame 32 = .ok (.aload_n 0, 1) := by decide +kernel
theorem dX12_frame_33 : decode cX12_frame 33 = .ok (.iload_n 1, 1) := by decide +kernel
theorem dX12_frame_34 : decode cX12_frame 34 = .ok (.invokevirtual 256, 3) := by decide +kernel
theorem dX12_frame_37 : decode cX12_frame 37 = .ok (.iconst 0, 1) := by decide +kernel
theorem dX12_frame_38 : decode cX12_frame 38 = .ok (.istore_n 3, 1) := by decide +kernel
theorem dX12_frame_39 : decode cX12_frame 39 = .ok (.iload_n 2, 1) := by decide +kernel
theorem dX12_frame_40 : decode cX12_frame 40 = .ok (.tableswitch 148 0 7 #[48, 55, 61, 75, 90, 95, 104, 113], 48) := by decide +kernel
theorem dX12_frame_88 : decode cX12_frame 88 = .ok (.aload_n 0, 1) := by decide +kernel
theorem dX12_frame_89 : decode cX12_frame 89 = .ok (.getfield 33, 3) := by decide +kernel
theorem dX12_frame_92 : decode cX12_frame 92 = .ok (.iload_n 1, 1) := by decide +kernel
theorem dX12_frame_93 : decode cX12_frame 93 = .ok (.iaload, 1) := by decide +kernel
theorem dX12_frame_94 : decode cX12_frame 94 = .ok (.ireturn, 1) := by decide +kernel
theorem dX12_frame_95 : decode cX12_frame 95 = .ok (.aload_n 0, 1) := by decide +kernel
theorem dX12_frame_96 : decode cX12_frame 96 = .ok (.iload_n 1, 1) := by decide +kernel
theorem dX12_frame_97 : decode cX12_frame 97 = .ok (.invokevirtual 214, 3) := by decide +kernel
theorem dX12_frame_100 : decode cX12_frame 100 = .ok (.ireturn, 1) := by decide +kernel
theorem dX12_frame_101 : decode cX12_frame 101 = .ok (.aload_n 0, 1) := by decide +kernel
theorem dX12_frame_102 : decode cX12_frame 102 = .ok (.iload_n 1, 1) := by decide +kernel
theorem dX12_frame_103 : decode cX12_frame 103 = .ok (.invokevirtual 226, 3) := by decide +kernel
theorem dX12_frame_106 : decode cX12_frame 106 = .ok (.ifCond .eq 7, 3) := by decide +kernel
theorem dX12_frame_109 : decode cX12_frame 109 = .ok (.iconst 1, 1) := by decide +kernel
theorem dX12_frame_110 : decode cX12_frame 110 = .ok (.goto 4, 3) := by decide +kernel
theorem dX12_frame_113 : decode cX12_frame 113 = .ok (.iconst 0, 1) := by decide +kernel
theorem dX12_frame_114 : decode cX12_frame 114 = .ok (.ireturn, 1) := by decide +kernel
theorem dX12_frame_115 : decode cX12_frame 115 = .ok (.aload_n 0, 1) := by decide +kernel
theorem dX12_frame_116 : decode cX12_frame 116 = .ok (.getfield 36, 3) := by decide +kernel
theorem dX12_frame_119 : decode cX12_frame 119 = .ok (.iload_n 1, 1) := by decide +kernel
theorem dX12_frame_120 : decode cX12_frame 120 = .ok (.baload, 1) := by decide +kernel
theorem dX12_frame_121 : decode cX12_frame 121 = .ok (.ifCond .eq 7, 3) := by decide +kernel
theorem dX12_frame_124 : decode cX12_frame 124 = .ok (.iconst 1, 1) := by decide +kernel
theorem dX12_frame_125 : decode cX12_frame 125 = .ok (.goto 4, 3) := by decide +kernel
theorem dX12_frame_128 : decode cX12_frame 128 = .ok (.iconst 0, 1) := by decide +kernel
theorem dX12_frame_129 : decode cX12_frame 129 = .ok (.ireturn, 1) := by decide +kernel
theorem dX12_frame_130 : decode cX12_frame 130 = .ok (.aload_n 0, 1) := by decide +kernel
theorem dX12_frame_131 : decode cX12_frame 131 = .ok (.getfield 223, 3) := by decide +kernel
theorem dX12_frame_134 : decode cX12_frame 134 = .ok (.ireturn, 1) := by decide +kernel
theorem dX12_frame_135 : decode cX12_frame 135 = .ok (.aload_n 0, 1) := by decide +kernel
theorem dX12_frame_136 : decode cX12_frame 136 = .ok (.getfield 30, 3) := by decide +kernel
theorem dX12_frame_139 : decode cX12_frame 139 = .ok (.iload_n 1, 1) := by decide +kernel
theorem dX12_frame_140 : decode cX12_frame 140 = .ok (.invokestatic 294, 3) := by decide +kernel
theorem dX12_frame_143 : decode cX12_frame 143 = .ok (.ireturn, 1) := by decide +kernel
theorem dX12_frame_144 : decode cX12_frame 144 = .ok (.aload_n 0, 1) := by decide +kernel
theorem dX12_frame_145 : decode cX12_frame 145 = .ok (.getfield 49, 3) := by decide +kernel
theorem dX12_frame_148 : decode cX12_frame 148 = .ok (.iload_n 1, 1) := by decide +kernel
theorem dX12_frame_149 : decode cX12_frame 149 = .ok (.invokestatic 294, 3) := by decide +kernel
theorem dX12_frame_152 : decode cX12_frame 152 = .ok (.ireturn, 1) := by decide +kernel
theorem dX12_frame_153 : decode cX12_frame 153 = .ok (.iconst 0, 1) := by decide +kernel
theorem dX12_frame_154 : decode cX12_frame 154 = .ok (.istore 4, 2) := by decide +kernel
theorem dX12_frame_156 : decode cX12_frame 156 = .ok (.iload 4, 2) := by decide +kernel
theorem dX12_frame_158 : decode cX12_frame 158 = .ok (.aload_n 0, 1) := by decide +kernel
theorem dX12_frame_159 : decode cX12_frame 159 = .ok (.invokevirtual 129, 3) := by decide +kernel
theorem dX12_frame_162 : decode cX12_frame 162 = .ok (.if_icmp .ge 24, 3) := by decide +kernel
theorem dX12_frame_165 : decode cX12_frame 165 = .ok (.iload_n 3, 1) := by decide +kernel
theorem dX12_frame_166 : decode cX12_frame 166 = .ok (.aload_n 0, 1) := by decide +kernel
theorem dX12_frame_167 : decode cX12_frame 167 = .ok (.getfield 46, 3) := by decide +kernel
theorem dX12_frame_170 : decode cX12_frame 170 = .ok (.bipush 64, 2) := by decide +kernel
theorem dX12_frame_172 : decode cX12_frame 172 = .ok (.iload_n 1, 1) := by decide +kernel
theorem dX12_frame_173 : decode cX12_frame 173 = .ok (.imul, 1) := by decide +kernel
theorem dX12_frame_174 : decode cX12_frame 174 = .ok (.iload 4, 2) := by decide +kernel
theorem dX12_frame_176 : decode cX12_frame 176 = .ok (.iadd, 1) := by decide +kernel
theorem dX12_frame_177 : decode cX12_frame 177 = .ok (.iaload, 1) := by decide +kernel
theorem dX12_frame_178 : decode cX12_frame 178 = .ok (.iadd, 1) := by decide +kernel
theorem dX12_frame_179 : decode cX12_frame 179 = .ok (.istore_n 3, 1) := by decide +kernel
theorem dX12_frame_180 : decode cX12_frame 180 = .ok (.iinc 4 1, 3) := by decide +kernel
theorem dX12_frame_183 : decode cX12_frame 183 = .ok (.goto (-27), 3) := by decide +kernel
theorem dX12_frame_186 : decode cX12_frame 186 = .ok (.iload_n 3, 1) := by decide +kernel
theorem dX12_frame_187 : decode cX12_frame 187 = .ok (.ireturn, 1) := by decide +kernel
theorem dX12_frame_188 : decode cX12_frame 188 = .ok (.aload_n 0, 1) := by decide +kernel
theorem dX12_frame_189 : decode cX12_frame 189 = .ok (.iload_n 1, 1) := by decide +kernel
theorem dX12_frame_190 : decode cX12_frame 190 = .ok (.invokevirtual 262, 3) := by decide +kernel
theorem dX12_frame_193 : decode cX12_frame 193 = .ok (.ireturn, 1) := by decide +kernel
theorem dX12_apart_0 : decode cX12_apart 0 = .ok (.aload_n 0, 1) := by decide +kernel
theorem dX12_apart_1 : decode cX12_apart 1 = .ok (.iconst 0, 1) := by decide +kernel
theorem dX12_apart_2 : decode cX12_apart 2 = .ok (.putfield 1, 3) := by decide +kernel
theorem dX12_apart_5 : decode cX12_apart 5 = .ok (.aload_n 0, 1) := by decide +kernel
theorem dX12_apart_6 : decode cX12_apart 6 = .ok (.iload_n 1, 1) := by decide +kernel
theorem dX12_apart_7 : decode cX12_apart 7 = .ok (.invokevirtual 182, 3) := by decide +kernel
theorem dX12_apart_10 : decode cX12_apart 10 = .ok (.ifCond .eq 11, 3) := by decide +kernel
theorem dX12_apart_13 : decode cX12_apart 13 = .ok (.aload_n 0, 1) := by decide +kernel
theorem dX12_apart_14 : decode cX12_apart 14 = .ok (.iload_n 2, 1) := by decide +kernel
theorem dX12_apart_15 : decode cX12_apart 15 = .ok (.invokevirtual 182, 3) := by decide +kernel
theorem dX12_apart_18 : decode cX12_apart 18 = .ok (.ifCond .ne 6, 3) := by decide +kernel
theorem dX12_apart_21 : decode cX12_apart 21 = .ok (.bipush (-2), 2) := by decide +kernel
theorem dX12_apart_23 : decode cX12_apart 23 = .ok (.ireturn, 1) := by decide +kernel
theorem dX12_apart_24 : decode cX12_apart 24 = .ok (.aload_n 0, 1) := by decide +kernel
theorem dX12_apart_25 : decode cX12_apart 25 = .ok (.invokevirtual 259, 3) := by decide +kernel
theorem dX12_apart_28 : decode cX12_apart 28 = .ok (.iload_n 3, 1) := by decide +kernel
theorem dX12_apart_29 : decode cX12_apart 29 = .ok (.ifCond .eq 10, 3) := by decide +kernel
theorem dX12_apart_32 : decode cX12_apart 32 = .ok (.aload_n 0, 1) := by decide +kernel
theorem dX12_apart_33 : decode cX12_apart 33 = .ok (.getfield 49, 3) := by decide +kernel
theorem dX12_apart_36 : decode cX12_apart 36 = .ok (.goto 7, 3) := by decide +kernel
theorem dX12_apart_39 : decode cX12_apart 39 = .ok (.aload_n 0, 1) := by decide +kernel
theorem dX12_apart_40 : decode cX12_apart 40 = .ok (.getfield 30, 3) := by decide +kernel
theorem dX12_apart_43 : decode cX12_apart 43 = .ok (.iload_n 1, 1) := by decide +kernel
theorem dX12_apart_44 : decode cX12_apart 44 = .ok (.iload_n 2, 1) := by decide +kernel
theorem dX12_apart_45 : decode cX12_apart 45 = .ok (.invokestatic 206, 3) := by decide +kernel
theorem dX12_apart_48 : decode cX12_apart 48 = .ok (.ireturn, 1) := by decide +kernel
theorem dX12_scene_0 : decode cX12_scene 0 = .ok (.aload_n 0, 1) := by decide +kernel
theorem dX12_scene_1 : decode cX12_scene 1 = .ok (.iconst 0, 1) := by decide +kernel
theorem dX12_scene_2 : decode cX12_scene 2 = .ok (.putfield 1, 3) := by decide +kernel
theorem dX12_scene_5 : decode cX12_scene 5 = .ok (.iload_n 1, 1) := by decide +kernel
theorem dX12_scene_6 : decode cX12_scene 6 = .ok (.iconst (-1), 1) := by decide +kernel
theorem dX12_scene_7 : decode cX12_scene 7 = .ok (.if_icmp .ge 6, 3) := by decide +kernel
theorem dX12_scene_10 : decode cX12_scene 10 = .ok (.bipush (-3), 2) := by decide +kernel
theorem dX12_scene_12 : decode cX12_scene 12 = .ok (.ireturn, 1) := by decide +kernel
theorem dX12_scene_13 : decode cX12_scene 13 = .ok (.aload_n 0, 1) := by decide +kernel
theorem dX12_scene_14 : decode cX12_scene 14 = .ok (.invokevirtual 185, 3) := by decide +kernel
theorem dX12_scene_17 : decode cX12_scene 17 = .ok (.iload_n 1, 1) := by decide +kernel
theorem dX12_scene_18 : decode cX12_scene 18 = .ok (.iconst (-1), 1) := by decide +kernel
theorem dX12_scene_19 : decode cX12_scene 19 = .ok (.if_icmp .ne 8, 3) := by decide +kernel
theorem dX12_scene_22 : decode cX12_scene 22 = .ok (.aload_n 0, 1) := by decide +kernel
theorem dX12_scene_23 : decode cX12_scene 23 = .ok (.invokevirtual 188, 3) := by decide +kernel
theorem dX12_scene_26 : decode cX12_scene 26 = .ok (.ireturn, 1) := by decide +kernel
theorem dX12_scene_27 : decode cX12_scene 27 = .ok (.iconst 0, 1) := by decide +kernel
theorem dX12_scene_28 : decode cX12_scene 28 = .ok (.istore_n 2, 1) := by decide +kernel
theorem dX12_scene_29 : decode cX12_scene 29 = .ok (.iload_n 2, 1) := by decide +kernel
theorem dX12_scene_30 : decode cX12_scene 30 = .ok (.aload_n 0, 1) := by decide +kernel
theorem dX12_scene_31 : decode cX12_scene 31 = .ok (.getfield 13, 3) := by decide +kernel
theorem dX12_scene_34 : decode cX12_scene 34 = .ok (.iconst 2, 1) := by decide +kernel
theorem dX12_scene_35 : decode cX12_scene 35 = .ok (.iaload, 1) := by decide +kernel
theorem dX12_scene_36 : decode cX12_scene 36 = .ok (.if_icmp .ge 29, 3) := by decide +kernel
theorem dX12_scene_39 : decode cX12_scene 39 = .ok (.aload_n 0, 1) := by decide +kernel
theorem dX12_scene_40 : decode cX12_scene 40 = .ok (.getfield 36, 3) := by decide +kernel
theorem dX12_scene_43 : decode cX12_scene 43 = .ok (.iload_n 2, 1) := by decide +kernel
theorem dX12_scene_44 : decode cX12_scene 44 = .ok (.baload, 1) := by decide +kernel
theorem dX12_scene_45 : decode cX12_scene 45 = .ok (.ifCond .eq 14, 3) := by decide +kernel
theorem dX12_scene_48 : decode cX12_scene 48 = .ok (.aload_n 0, 1) := by decide +kernel
theorem dX12_scene_49 : decode cX12_scene 49 = .ok (.iload_n 2, 1) := by decide +kernel
theorem dX12_scene_50 : decode cX12_scene 50 = .ok (.invokevirtual 214, 3) := by decide +kernel
theorem dX12_scene_53 : decode cX12_scene 53 = .ok (.iload_n 1, 1) := by decide +kernel
theorem dX12_scene_54 : decode cX12_scene 54 = .ok (.if_icmp .ne 5, 3) := by decide +kernel
theorem dX12_scene_57 : decode cX12_scene 57 = .ok (.iload_n 2, 1) := by decide +kernel
theorem dX12_scene_58 : decode cX12_scene 58 = .ok (.ireturn, 1) := by decide +kernel
theorem dX12_scene_59 : decode cX12_scene 59 = .ok (.iinc 2 1, 3) := by decide +kernel
theorem dX12_scene_62 : decode cX12_scene 62 = .ok (.goto (-33), 3) := by decide +kernel
theorem dX12_scene_65 : decode cX12_scene 65 = .ok (.iconst (-1), 1) := by decide +kernel
theorem dX12_scene_66 : decode cX12_scene 66 = .ok (.ireturn, 1) := by decide +kernel
theorem dX12_rank_0 : decode cX12_rank 0 = .ok (.aload_n 0, 1) := by decide +kernel
theorem dX12_rank_1 : decode cX12_rank 1 = .ok (.iconst 0, 1) := by decide +kernel
theorem dX12_rank_2 : decode cX12_rank 2 = .ok (.putfield 1, 3) := by decide +kernel
theorem dX12_rank_5 : decode cX12_rank 5 = .ok (.aload_n 0, 1) := by decide +kernel
theorem dX12_rank_6 : decode cX12_rank 6 = .ok (.iload_n 1, 1) := by decide +kernel
theorem dX12_rank_7 : decode cX12_rank 7 = .ok (.invokevirtual 182, 3) := by decide +kernel
theorem dX12_rank_10 : decode cX12_rank 10 = .ok (.ifCond .eq 11, 3) := by decide +kernel
theorem dX12_rank_13 : decode cX12_rank 13 = .ok (.aload_n 0, 1) := by decide +kernel
theorem dX12_rank_14 : decode cX12_rank 14 = .ok (.iload_n 2, 1) := by decide +kernel
theorem dX12_rank_15 : decode cX12_rank 15 = .ok (.invokevirtual 197, 3) := by decide +kernel
theorem dX12_rank_18 : decode cX12_rank 18 = .ok (.ifCond .ne 6, 3) := by decide +kernel
theorem dX12_rank_21 : decode cX12_rank 21 = .ok (.bipush (-2), 2) := by decide +kernel
theorem dX12_rank_23 : decode cX12_rank 23 = .ok (.ireturn, 1) := by decide +kernel
theorem dX12_rank_24 : decode cX12_rank 24 = .ok (.aload_n 0, 1) := by decide +kernel
theorem dX12_rank_25 : decode cX12_rank 25 = .ok (.iload_n 1, 1) := by decide +kernel
theorem dX12_rank_26 : decode cX12_rank 26 = .ok (.invokevirtual 250, 3) := by decide +kernel
theorem dX12_rank_29 : decode cX12_rank 29 = .ok (.aload_n 0, 1) := by decide +kernel
theorem dX12_rank_30 : decode cX12_rank 30 = .ok (.iload_n 2, 1) := by decide +kernel
theorem dX12_rank_31 : decode cX12_rank 31 = .ok (.invokevirtual 253, 3) := by decide +kernel
theorem dX12_rank_34 : decode cX12_rank 34 = .ok (.ireturn, 1) := by decide +kernel
theorem dX12_inverse_0 : decode cX12_inverse 0 = .ok (.aload_n 0, 1) := by decide +kernel
theorem dX12_inverse_1 : decode cX12_inverse 1 = .ok (.iconst 0, 1) := by decide +kernel
theorem dX12_inverse_2 : decode cX12_inverse 2 = .ok (.putfield 1, 3) := by decide +kernel
theorem dX12_inverse_5 : decode cX12_inverse 5 = .ok (.aload_n 0, 1) := by decide +kernel
theorem dX12_inverse_6 : decode cX12_inverse 6 = .ok (.iload_n 1, 1) := by decide +kernel
theorem dX12_inverse_7 : decode cX12_inverse 7 = .ok (.invokevirtual 182, 3) := by decide +kernel
theorem dX12_inverse_10 : decode cX12_inverse 10 = .ok (.ifCond .ne 6, 3) := by decide +kernel
theorem dX12_inverse_13 : decode cX12_inverse 13 = .ok (.bipush (-2), 2) := by decide +kernel
theorem dX12_inverse_15 : decode cX12_inverse 15 = .ok (.ireturn, 1) := by decide +kernel
theorem dX12_inverse_16 : decode cX12_inverse 16 = .ok (.iload_n 2, 1) := by decide +kernel
theorem dX12_inverse_17 : decode cX12_inverse 17 = .ok (.invokestatic 164, 3) := by decide +kernel
theorem dX12_inverse_20 : decode cX12_inverse 20 = .ok (.ifCond .ne 6, 3) := by decide +kernel
theorem dX12_inverse_23 : decode cX12_inverse 23 = .ok (.bipush (-3), 2) := by decide +kernel
theorem dX12_inverse_25 : decode cX12_inverse 25 = .ok (.ireturn, 1) := by decide +kernel
theorem dX12_inverse_26 : decode cX12_inverse 26 = .ok (.aload_n 0, 1) := by decide +kernel
theorem dX12_inverse_27 : decode cX12_inverse 27 = .ok (.invokevirtual 185, 3) := by decide +kernel
theorem dX12_inverse_30 : decode cX12_inverse 30 = .ok (.aload_n 0, 1) := by decide +kernel
theorem dX12_inverse_31 : decode cX12_inverse 31 = .ok (.iload_n 1, 1) := by decide +kernel
theorem dX12_inverse_32 : decode cX12_inverse 32 = .ok (.invokevirtual 247, 3) := by decide +kernel
theorem dX12_inverse_35 : decode cX12_inverse 35 = .ok (.iconst 0, 1) := by decide +kernel
theorem dX12_inverse_36 : decode cX12_inverse 36 = .ok (.istore_n 3, 1) := by decide +kernel
theorem dX12_inverse_37 : decode cX12_inverse 37 = .ok (.iload_n 3, 1) := by decide +kernel
theorem dX12_inverse_38 : decode cX12_inverse 38 = .ok (.bipush 16, 2) := by decide +kernel
theorem dX12_inverse_40 : decode cX12_inverse 40 = .ok (.if_icmp .ge 21, 3) := by decide +kernel
theorem dX12_inverse_43 : decode cX12_inverse 43 = .ok (.aload_n 0, 1) := by decide +kernel
theorem dX12_inverse_44 : decode cX12_inverse 44 = .ok (.getfield 43, 3) := by decide +kernel
theorem dX12_inverse_47 : decode cX12_inverse 47 = .ok (.iload_n 3, 1) := by decide +kernel
theorem dX12_inverse_48 : decode cX12_inverse 48 = .ok (.iaload, 1) := by decide +kernel
theorem dX12_inverse_49 : decode cX12_inverse 49 = .ok (.iload_n 2, 1) := by decide +kernel
theorem dX12_inverse_50 : decode cX12_inverse 50 = .ok (.if_icmp .lt 5, 3) := by decide +kernel
theorem dX12_inverse_53 : decode cX12_inverse 53 = .ok (.iload_n 3, 1) := by decide +kernel
theorem dX12_inverse_54 : decode cX12_inverse 54 = .ok (.ireturn, 1) := by decide +kernel
theorem dX12_inverse_55 : decode cX12_inverse 55 = .ok (.iinc 3 1, 3) := by decide +kernel
theorem dX12_inverse_58 : decode cX12_inverse 58 = .ok (.goto (-21), 3) := by decide +kernel
theorem dX12_inverse_61 : decode cX12_inverse 61 = .ok (.iconst (-1), 1) := by decide +kernel
theorem dX12_inverse_62 : decode cX12_inverse 62 = .ok (.ireturn, 1) := by decide +kernel
theorem dX12_flickerBy_0 : decode cX12_flickerBy 0 = .ok (.iconst 0, 1) := by decide +kernel
theorem dX12_flickerBy_1 : decode cX12_flickerBy 1 = .ok (.istore_n 2, 1) := by decide +kernel
theorem dX12_flickerBy_2 : decode cX12_flickerBy 2 = .ok (.iconst 1, 1) := by decide +kernel
theorem dX12_flickerBy_3 : decode cX12_flickerBy 3 = .ok (.istore_n 3, 1) := by decide +kernel
theorem dX12_flickerBy_4 : decode cX12_flickerBy 4 = .ok (.iload_n 3, 1) := by decide +kernel
theorem dX12_flickerBy_5 : decode cX12_flickerBy 5 = .ok (.aload_n 0, 1) := by decide +kernel
theorem dX12_flickerBy_6 : decode cX12_flickerBy 6 = .ok (.getfield 13, 3) := by decide +kernel
theorem dX12_flickerBy_9 : decode cX12_flickerBy 9 = .ok (.iconst 2, 1) := by decide +kernel
theorem dX12_flickerBy_10 : decode cX12_flickerBy 10 = .ok (.iaload, 1) := by decide +kernel
theorem dX12_flickerBy_11 : decode cX12_flickerBy 11 = .ok (.if_icmp .ge 33, 3) := by decide +kernel
theorem dX12_flickerBy_14 : decode cX12_flickerBy 14 = .ok (.iload_n 2, 1) := by decide +kernel
theorem dX12_flickerBy_15 : decode cX12_flickerBy 15 = .ok (.aload_n 0, 1) := by decide +kernel
theorem dX12_flickerBy_16 : decode cX12_flickerBy 16 = .ok (.getfield 36, 3) := by decide +kernel
theorem dX12_flickerBy_19 : decode cX12_flickerBy 19 = .ok (.iload_n 3, 1) := by decide +kernel
theorem dX12_flickerBy_20 : decode cX12_flickerBy 20 = .ok (.baload, 1) := by decide +kernel
theorem dX12_flickerBy_21 : decode cX12_flickerBy 21 = .ok (.ifCond .eq 7, 3) := by decide +kernel
theorem dX12_flickerBy_24 : decode cX12_flickerBy 24 = .ok (.iconst 0, 1) := by decide +kernel
theorem dX12_flickerBy_25 : decode cX12_flickerBy 25 = .ok (.goto 11, 3) := by decide +kernel
theorem dX12_flickerBy_28 : decode cX12_flickerBy 28 = .ok (.aload_n 1, 1) := by decide +kernel
theorem dX12_flickerBy_29 : decode cX12_flickerBy 29 = .ok (.iload_n 3, 1) := by decide +kernel
theorem dX12_flickerBy_30 : decode cX12_flickerBy 30 = .ok (.iload_n 3, 1) := by decide +kernel
theorem dX12_flickerBy_31 : decode cX12_flickerBy 31 = .ok (.iconst 1, 1) := by decide +kernel
theorem dX12_flickerBy_32 : decode cX12_flickerBy 32 = .ok (.isub, 1) := by decide +kernel
theorem dX12_flickerBy_33 : decode cX12_flickerBy 33 = .ok (.invokestatic 206, 3) := by decide +kernel
theorem dX12_flickerBy_36 : decode cX12_flickerBy 36 = .ok (.iadd, 1) := by decide +kernel
theorem dX12_flickerBy_37 : decode cX12_flickerBy 37 = .ok (.istore_n 2, 1) := by decide +kernel
theorem dX12_flickerBy_38 : decode cX12_flickerBy 38 = .ok (.iinc 3 1, 3) := by decide +kernel
theorem dX12_flickerBy_41 : decode cX12_flickerBy 41 = .ok (.goto (-37), 3) := by decide +kernel
theorem dX12_flickerBy_44 : decode cX12_flickerBy 44 = .ok (.iload_n 2, 1) := by decide +kernel
theorem dX12_flickerBy_45 : decode cX12_flickerBy 45 = .ok (.ireturn, 1) := by decide +kernel
theorem dX12_flicker_0 : decode cX12_flicker 0 = .ok (.aload_n 0, 1) := by decide +kernel
theorem dX12_flicker_1 : decode cX12_flicker 1 = .ok (.iconst 0, 1) := by decide +kernel
theorem dX12_flicker_2 : decode cX12_flicker 2 = .ok (.putfield 1, 3) := by decide +kernel
theorem dX12_flicker_5 : decode cX12_flicker 5 = .ok (.aload_n 0, 1) := by decide +kernel
theorem dX12_flicker_6 : decode cX12_flicker 6 = .ok (.invokevirtual 259, 3) := by decide +kernel
theorem dX12_flicker_9 : decode cX12_flicker 9 = .ok (.aload_n 0, 1) := by decide +kernel
theorem dX12_flicker_10 : decode cX12_flicker 10 = .ok (.iload_n 1, 1) := by decide +kernel
theorem dX12_flicker_11 : decode cX12_flicker 11 = .ok (.ifCond .eq 10, 3) := by decide +kernel
theorem dX12_flicker_14 : decode cX12_flicker 14 = .ok (.aload_n 0, 1) := by decide +kernel
theorem dX12_flicker_15 : decode cX12_flicker 15 = .ok (.getfield 49, 3) := by decide +kernel
theorem dX12_flicker_18 : decode cX12_flicker 18 = .ok (.goto 7, 3) := by decide +kernel
theorem dX12_flicker_21 : decode cX12_flicker 21 = .ok (.aload_n 0, 1) := by decide +kernel
theorem dX12_flicker_22 : decode cX12_flicker 22 = .ok (.getfield 30, 3) := by decide +kernel
theorem dX12_flicker_25 : decode cX12_flicker 25 = .ok (.invokevirtual 273, 3) := by decide +kernel
theorem dX12_flicker_28 : decode cX12_flicker 28 = .ok (.ireturn, 1) := by decide +kernel
theorem dX12_steady_0 : decode cX12_steady 0 = .ok (.aload_n 0, 1) := by decide +kernel
theorem dX12_steady_1 : decode cX12_steady 1 = .ok (.iconst 0, 1) := by decide +kernel
theorem dX12_steady_2 : decode cX12_steady 2 = .ok (.putfield 1, 3) := by decide +kernel
theorem dX12_steady_5 : decode cX12_steady 5 = .ok (.aload_n 0, 1) := by decide +kernel
theorem dX12_steady_6 : decode cX12_steady 6 = .ok (.iload_n 1, 1) := by decide +kernel
theorem dX12_steady_7 : decode cX12_steady 7 = .ok (.invokevirtual 182, 3) := by decide +kernel
theorem dX12_steady_10 : decode cX12_steady 10 = .ok (.ifCond .ne 6, 3) := by decide +kernel
theorem dX12_steady_13 : decode cX12_steady 13 = .ok (.bipush (-2), 2) := by decide +kernel
theorem dX12_steady_15 : decode cX12_steady 15 = .ok (.ireturn, 1) := by decide +kernel
theorem dX12_steady_16 : decode cX12_steady 16 = .ok (.aload_n 0, 1) := by decide +kernel
theorem dX12_steady_17 : decode cX12_steady 17 = .ok (.invokevirtual 185, 3) := by decide +kernel
theorem dX12_steady_20 : decode cX12_steady 20 = .ok (.aload_n 0, 1) := by decide +kernel
theorem dX12_steady_21 : decode cX12_steady 21 = .ok (.iload_n 1, 1) := by decide +kernel
theorem dX12_steady_22 : decode cX12_steady 22 = .ok (.invokevirtual 256, 3) := by decide +kernel
theorem dX12_steady_25 : decode cX12_steady 25 = .ok (.aload_n 0, 1) := by decide +kernel
theorem dX12_steady_26 : decode cX12_steady 26 = .ok (.iload_n 1, 1) := by decide +kernel
theorem dX12_steady_27 : decode cX12_steady 27 = .ok (.invokevirtual 262, 3) := by decide +kernel
theorem dX12_steady_30 : decode cX12_steady 30 = .ok (.ifCond .ne 7, 3) := by decide +kernel
theorem dX12_steady_33 : decode cX12_steady 33 = .ok (.iconst 1, 1) := by decide +kernel
theorem dX12_steady_34 : decode cX12_steady 34 = .ok (.goto 4, 3) := by decide +kernel
theorem dX12_steady_37 : decode cX12_steady 37 = .ok (.iconst 0, 1) := by decide +kernel
theorem dX12_steady_38 : decode cX12_steady 38 = .ok (.ireturn, 1) := by decide +kernel
theorem dX12_bestRadius_0 : decode cX12_bestRadius 0 = .ok (.aload_n 0, 1) := by decide +kernel
theorem dX12_bestRadius_1 : decode cX12_bestRadius 1 = .ok (.iconst 0, 1) := by decide +kernel
theorem dX12_bestRadius_2 : decode cX12_bestRadius 2 = .ok (.putfield 1, 3) := by decide +kernel
theorem dX12_bestRadius_5 : decode cX12_bestRadius 5 = .ok (.aload_n 0, 1) := by decide +kernel
theorem dX12_bestRadius_6 : decode cX12_bestRadius 6 = .ok (.getfield 13, 3) := by decide +kernel
theorem dX12_bestRadius_9 : decode cX12_bestRadius 9 = .ok (.iconst 3, 1) := by decide +kernel
theorem dX12_bestRadius_10 : decode cX12_bestRadius 10 = .ok (.iaload, 1) := by decide +kernel
theorem dX12_bestRadius_11 : decode cX12_bestRadius 11 = .ok (.istore_n 1, 1) := by decide +kernel
theorem dX12_bestRadius_12 : decode cX12_bestRadius 12 = .ok (.iconst (-1), 1) := by decide +kernel
theorem dX12_bestRadius_13 : decode cX12_bestRadius 13 = .ok (.istore_n 2, 1) := by decide +kernel
theorem dX12_bestRadius_14 : decode cX12_bestRadius 14 = .ok (.iconst 0, 1) := by decide +kernel
theorem dX12_bestRadius_15 : decode cX12_bestRadius 15 = .ok (.istore_n 3, 1) := by decide +kernel
theorem dX12_bestRadius_16 : decode cX12_bestRadius 16 = .ok (.iconst 0, 1) := by decide +kernel
theorem dX12_bestRadius_17 : decode cX12_bestRadius 17 = .ok (.istore 4, 2) := by decide +kernel
theorem dX12_bestRadius_19 : decode cX12_bestRadius 19 = .ok (.iload 4, 2) := by decide +kernel
theorem dX12_bestRadius_21 : decode cX12_bestRadius 21 = .ok (.iconst 4, 1) := by decide +kernel
theorem dX12_bestRadius_22 : decode cX12_bestRadius 22 = .ok (.if_icmp .ge 51, 3) := by decide +kernel
theorem dX12_bestRadius_25 : decode cX12_bestRadius 25 = .ok (.aload_n 0, 1) := by decide +kernel
theorem dX12_bestRadius_26 : decode cX12_bestRadius 26 = .ok (.getfield 13, 3) := by decide +kernel
theorem dX12_bestRadius_29 : decode cX12_bestRadius 29 = .ok (.iconst 3, 1) := by decide +kernel
theorem dX12_bestRadius_30 : decode cX12_bestRadius 30 = .ok (.iload 4, 2) := by decide +kernel
theorem dX12_bestRadius_32 : decode cX12_bestRadius 32 = .ok (.iastore, 1) := by decide +kernel
theorem dX12_bestRadius_33 : decode cX12_bestRadius 33 = .ok (.aload_n 0, 1) := by decide +kernel
theorem dX12_bestRadius_34 : decode cX12_bestRadius 34 = .ok (.invokevirtual 259, 3) := by decide +kernel
theorem dX12_bestRadius_37 : decode cX12_bestRadius 37 = .ok (.aload_n 0, 1) := by decide +kernel
theorem dX12_bestRadius_38 : decode cX12_bestRadius 38 = .ok (.aload_n 0, 1) := by decide +kernel
theorem dX12_bestRadius_39 : decode cX12_bestRadius 39 = .ok (.getfield 49, 3) := by decide +kernel
theorem dX12_bestRadius_42 : decode cX12_bestRadius 42 = .ok (.invokevirtual 273, 3) := by decide +kernel
theorem dX12_bestRadius_45 : decode cX12_bestRadius 45 = .ok (.istore 5, 2) := by decide +kernel
theorem dX12_bestRadius_47 : decode cX12_bestRadius 47 = .ok (.iload_n 2, 1) := by decide +kernel
theorem dX12_bestRadius_48 : decode cX12_bestRadius 48 = .ok (.iconst (-1), 1) := by decide +kernel
theorem dX12_bestRadius_49 : decode cX12_bestRadius 49 = .ok (.if_icmp .eq 12, 3) := by decide +kernel
theorem dX12_bestRadius_52 : decode cX12_bestRadius 52 = .ok (.iload 5, 2) := by decide +kernel
theorem dX12_bestRadius_54 : decode cX12_bestRadius 54 = .ok (.iload_n 3, 1) := by decide +kernel
theorem dX12_bestRadius_55 : decode cX12_bestRadius 55 = .ok (.if_icmp .lt 6, 3) := by decide +kernel
theorem dX12_bestRadius_58 : decode cX12_bestRadius 58 = .ok (.goto 9, 3) := by decide +kernel
theorem dX12_bestRadius_61 : decode cX12_bestRadius 61 = .ok (.iload 4, 2) := by decide +kernel
theorem dX12_bestRadius_63 : decode cX12_bestRadius 63 = .ok (.istore_n 2, 1) := by decide +kernel
theorem dX12_bestRadius_64 : decode cX12_bestRadius 64 = .ok (.iload 5, 2) := by decide +kernel
theorem dX12_bestRadius_66 : decode cX12_bestRadius 66 = .ok (.istore_n 3, 1) := by decide +kernel
theorem dX12_bestRadius_67 : decode cX12_bestRadius 67 = .ok (.iinc 4 1, 3) := by decide +kernel
theorem dX12_bestRadius_70 : decode cX12_bestRadius 70 = .ok (.goto (-51), 3) := by decide +kernel
theorem dX12_bestRadius_73 : decode cX12_bestRadius 73 = .ok (.aload_n 0, 1) := by decide +kernel
theorem dX12_bestRadius_74 : decode cX12_bestRadius 74 = .ok (.getfield 13, 3) := by decide +kernel
theorem dX12_bestRadius_77 : decode cX12_bestRadius 77 = .ok (.iconst 3, 1) := by decide +kernel
theorem dX12_bestRadius_78 : decode cX12_bestRadius 78 = .ok (.iload_n 1, 1) := by decide +kernel
theorem dX12_bestRadius_79 : decode cX12_bestRadius 79 = .ok (.iastore, 1) := by decide +kernel
theorem dX12_bestRadius_80 : decode cX12_bestRadius 80 = .ok (.iload_n 2, 1) := by decide +kernel
theorem dX12_bestRadius_81 : decode cX12_bestRadius 81 = .ok (.ireturn, 1) := by decide +kernel
theorem dX12_leastStep_0 : decode cX12_leastStep 0 = .ok (.aload_n 0, 1) := by decide +kernel
theorem dX12_leastStep_1 : decode cX12_leastStep 1 = .ok (.iconst 0, 1) := by decide +kernel
theorem dX12_leastStep_2 : decode cX12_leastStep 2 = .ok (.putfield 1, 3) := by decide +kernel
theorem dX12_leastStep_5 : decode cX12_leastStep 5 = .ok (.iload_n 1, 1) := by decide +kernel
theorem dX12_leastStep_6 : decode cX12_leastStep 6 = .ok (.ifCond .ge 6, 3) := by decide +kernel
theorem dX12_leastStep_9 : decode cX12_leastStep 9 = .ok (.bipush (-3), 2) := by decide +kernel
theorem dX12_leastStep_11 : decode cX12_leastStep 11 = .ok (.ireturn, 1) := by decide +kernel
theorem dX12_leastStep_12 : decode cX12_leastStep 12 = .ok (.aload_n 0, 1) := by decide +kernel
theorem dX12_leastStep_13 : decode cX12_leastStep 13 = .ok (.getfield 13, 3) := by decide +kernel
theorem dX12_leastStep_16 : decode cX12_leastStep 16 = .ok (.bipush 6, 2) := by decide +kernel
theorem dX12_leastStep_18 : decode cX12_leastStep 18 = .ok (.iaload, 1) := by decide +kernel
theorem dX12_leastStep_19 : decode cX12_leastStep 19 = .ok (.istore_n 2, 1) := by decide +kernel
theorem dX12_leastStep_20 : decode cX12_leastStep 20 = .ok (.iconst (-1), 1) := by decide +kernel
theorem dX12_leastStep_21 : decode cX12_leastStep 21 = .ok (.istore_n 3, 1) := by decide +kernel
theorem dX12_leastStep_22 : decode cX12_leastStep 22 = .ok (.iconst 0, 1) := by decide +kernel
theorem dX12_leastStep_23 : decode cX12_leastStep 23 = .ok (.istore 4, 2) := by decide +kernel
theorem dX12_leastStep_25 : decode cX12_leastStep 25 = .ok (.iload 4, 2) := by decide +kernel
theorem dX12_leastStep_27 : decode cX12_leastStep 27 = .ok (.bipush 16, 2) := by decide +kernel
theorem dX12_leastStep_29 : decode cX12_leastStep 29 = .ok (.if_icmp .ge 42, 3) := by decide +kernel
theorem dX12_leastStep_32 : decode cX12_leastStep 32 = .ok (.iload_n 3, 1) := by decide +kernel
theorem dX12_leastStep_33 : decode cX12_leastStep 33 = .ok (.iconst (-1), 1) := by decide +kernel
theorem dX12_leastStep_34 : decode cX12_leastStep 34 = .ok (.if_icmp .ne 37, 3) := by decide +kernel
theorem dX12_leastStep_37 : decode cX12_leastStep 37 = .ok (.aload_n 0, 1) := by decide +kernel
theorem dX12_leastStep_38 : decode cX12_leastStep 38 = .ok (.getfield 13, 3) := by decide +kernel
theorem dX12_leastStep_41 : decode cX12_leastStep 41 = .ok (.bipush 6, 2) := by decide +kernel
theorem dX12_leastStep_43 : decode cX12_leastStep 43 = .ok (.iload 4, 2) := by decide +kernel
theorem dX12_leastStep_45 : decode cX12_leastStep 45 = .ok (.iastore, 1) := by decide +kernel
theorem dX12_leastStep_46 : decode cX12_leastStep 46 = .ok (.aload_n 0, 1) := by decide +kernel
theorem dX12_leastStep_47 : decode cX12_leastStep 47 = .ok (.invokevirtual 259, 3) := by decide +kernel
theorem dX12_leastStep_50 : decode cX12_leastStep 50 = .ok (.aload_n 0, 1) := by decide +kernel
theorem dX12_leastStep_51 : decode cX12_leastStep 51 = .ok (.aload_n 0, 1) := by decide +kernel
theorem dX12_leastStep_52 : decode cX12_leastStep 52 = .ok (.getfield 49, 3) := by decide +kernel
theorem dX12_leastStep_55 : decode cX12_leastStep 55 = .ok (.invokevirtual 273, 3) := by decide +kernel
theorem dX12_leastStep_58 : decode cX12_leastStep 58 = .ok (.iload_n 1, 1) := by decide +kernel
theorem dX12_leastStep_59 : decode cX12_leastStep 59 = .ok (.if_icmp .gt 6, 3) := by decide +kernel
theorem dX12_leastStep_62 : decode cX12_leastStep 62 = .ok (.iload 4, 2) := by decide +kernel
theorem dX12_leastStep_64 : decode cX12_leastStep 64 = .ok (.istore_n 3, 1) := by decide +kernel
theorem dX12_leastStep_65 : decode cX12_leastStep 65 = .ok (.iinc 4 1, 3) := by decide +kernel
theorem dX12_leastStep_68 : decode cX12_leastStep 68 = .ok (.goto (-43), 3) := by decide +kernel
theorem dX12_leastStep_71 : decode cX12_leastStep 71 = .ok (.aload_n 0, 1) := by decide +kernel
theorem dX12_leastStep_72 : decode cX12_leastStep 72 = .ok (.getfield 13, 3) := by decide +kernel
theorem dX12_leastStep_75 : decode cX12_leastStep 75 = .ok (.bipush 6, 2) := by decide +kernel
theorem dX12_leastStep_77 : decode cX12_leastStep 77 = .ok (.iload_n 2, 1) := by decide +kernel
theorem dX12_leastStep_78 : decode cX12_leastStep 78 = .ok (.iastore, 1) := by decide +kernel
theorem dX12_leastStep_79 : decode cX12_leastStep 79 = .ok (.iload_n 3, 1) := by decide +kernel
theorem dX12_leastStep_80 : decode cX12_leastStep 80 = .ok (.ireturn, 1) := by decide +kernel
theorem dX12_isFlash_0 : decode cX12_isFlash 0 = .ok (.aload_n 0, 1) := by decide +kernel
theorem dX12_isFlash_1 : decode cX12_isFlash 1 = .ok (.getfield 36, 3) := by decide +kernel
theorem dX12_isFlash_4 : decode cX12_isFlash 4 = .ok (.iload_n 1, 1) := by decide +kernel
theorem dX12_isFlash_5 : decode cX12_isFlash 5 = .ok (.baload, 1) := by decide +kernel
theorem dX12_isFlash_6 : decode cX12_isFlash 6 = .ok (.ifCond .ne 83, 3) := by decide +kernel
theorem dX12_isFlash_9 : decode cX12_isFlash 9 = .ok (.aload_n 0, 1) := by decide +kernel
theorem dX12_isFlash_10 : decode cX12_isFlash 10 = .ok (.getfield 36, 3) := by decide +kernel
theorem dX12_isFlash_13 : decode cX12_isFlash 13 = .ok (.iload_n 1, 1) := by decide +kernel
theorem dX12_isFlash_14 : decode cX12_isFlash 14 = .ok (.iconst 1, 1) := by decide +kernel
theorem dX12_isFlash_15 : decode cX12_isFlash 15 = .ok (.iadd, 1) := by decide +kernel
theorem dX12_isFlash_16 : decode cX12_isFlash 16 = .ok (.baload, 1) := by decide +kernel
theorem dX12_isFlash_17 : decode cX12_isFlash 17 = .ok (.ifCond .ne 72, 3) := by decide +kernel
theorem dX12_isFlash_20 : decode cX12_isFlash 20 = .ok (.aload_n 0, 1) := by decide +kernel
theorem dX12_isFlash_21 : decode cX12_isFlash 21 = .ok (.getfield 33, 3) := by decide +kernel
theorem dX12_isFlash_24 : decode cX12_isFlash 24 = .ok (.iload_n 1, 1) := by decide +kernel
theorem dX12_isFlash_25 : decode cX12_isFlash 25 = .ok (.iaload, 1) := by decide +kernel
theorem dX12_isFlash_26 : decode cX12_isFlash 26 = .ok (.aload_n 0, 1) := by decide +kernel
theorem dX12_isFlash_27 : decode cX12_isFlash 27 = .ok (.getfield 33, 3) := by decide +kernel
theorem dX12_isFlash_30 : decode cX12_isFlash 30 = .ok (.iload_n 1, 1) := by decide +kernel
theorem dX12_isFlash_31 : decode cX12_isFlash 31 = .ok (.iconst 1, 1) := by decide +kernel
theorem dX12_isFlash_32 : decode cX12_isFlash 32 = .ok (.isub, 1) := by decide +kernel
theorem dX12_isFlash_33 : decode cX12_isFlash 33 = .ok (.iaload, 1) := by decide +kernel
theorem dX12_isFlash_34 : decode cX12_isFlash 34 = .ok (.invokestatic 203, 3) := by decide +kernel
theorem dX12_isFlash_37 : decode cX12_isFlash 37 = .ok (.iload_n 2, 1) := by decide +kernel
theorem dX12_isFlash_38 : decode cX12_isFlash 38 = .ok (.if_icmp .le 51, 3) := by decide +kernel
theorem dX12_isFlash_41 : decode cX12_isFlash 41 = .ok (.aload_n 0, 1) := by decide +kernel
theorem dX12_isFlash_42 : decode cX12_isFlash 42 = .ok (.getfield 33, 3) := by decide +kernel
theorem dX12_isFlash_45 : decode cX12_isFlash 45 = .ok (.iload_n 1, 1) := by decide +kernel
theorem dX12_isFlash_46 : decode cX12_isFlash 46 = .ok (.iaload, 1) := by decide +kernel
theorem dX12_isFlash_47 : decode cX12_isFlash 47 = .ok (.aload_n 0, 1) := by decide +kernel
theorem dX12_isFlash_48 : decode cX12_isFlash 48 = .ok (.getfield 33, 3) := by decide +kernel
theorem dX12_isFlash_51 : decode cX12_isFlash 51 = .ok (.iload_n 1, 1) := by decide +kernel
theorem dX12_isFlash_52 : decode cX12_isFlash 52 = .ok (.iconst 1, 1) := by decide +kernel
theorem dX12_isFlash_53 : decode cX12_isFlash 53 = .ok (.iadd, 1) := by decide +kernel
theorem dX12_isFlash_54 : decode cX12_isFlash 54 = .ok (.iaload, 1) := by decide +kernel
theorem dX12_isFlash_55 : decode cX12_isFlash 55 = .ok (.invokestatic 203, 3) := by decide +kernel
theorem dX12_isFlash_58 : decode cX12_isFlash 58 = .ok (.iload_n 2, 1) := by decide +kernel
theorem dX12_isFlash_59 : decode cX12_isFlash 59 = .ok (.if_icmp .le 30, 3) := by decide +kernel
theorem dX12_isFlash_62 : decode cX12_isFlash 62 = .ok (.aload_n 0, 1) := by decide +kernel
theorem dX12_isFlash_63 : decode cX12_isFlash 63 = .ok (.getfield 33, 3) := by decide +kernel
theorem dX12_isFlash_66 : decode cX12_isFlash 66 = .ok (.iload_n 1, 1) := by decide +kernel
theorem dX12_isFlash_67 : decode cX12_isFlash 67 = .ok (.iconst 1, 1) := by decide +kernel
theorem dX12_isFlash_68 : decode cX12_isFlash 68 = .ok (.isub, 1) := by decide +kernel
theorem dX12_isFlash_69 : decode cX12_isFlash 69 = .ok (.iaload, 1) := by decide +kernel
theorem dX12_isFlash_70 : decode cX12_isFlash 70 = .ok (.aload_n 0, 1) := by decide +kernel
theorem dX12_isFlash_71 : decode cX12_isFlash 71 = .ok (.getfield 33, 3) := by decide +kernel
theorem dX12_isFlash_74 : decode cX12_isFlash 74 = .ok (.iload_n 1, 1) := by decide +kernel
theorem dX12_isFlash_75 : decode cX12_isFlash 75 = .ok (.iconst 1, 1) := by decide +kernel
theorem dX12_isFlash_76 : decode cX12_isFlash 76 = .ok (.iadd, 1) := by decide +kernel
theorem dX12_isFlash_77 : decode cX12_isFlash 77 = .ok (.iaload, 1) := by decide +kernel
theorem dX12_isFlash_78 : decode cX12_isFlash 78 = .ok (.invokestatic 203, 3) := by decide +kernel
theorem dX12_isFlash_81 : decode cX12_isFlash 81 = .ok (.iload_n 2, 1) := by decide +kernel
theorem dX12_isFlash_82 : decode cX12_isFlash 82 = .ok (.if_icmp .gt 7, 3) := by decide +kernel
theorem dX12_isFlash_85 : decode cX12_isFlash 85 = .ok (.iconst 1, 1) := by decide +kernel
theorem dX12_isFlash_86 : decode cX12_isFlash 86 = .ok (.goto 4, 3) := by decide +kernel
theorem dX12_isFlash_89 : decode cX12_isFlash 89 = .ok (.iconst 0, 1) := by decide +kernel
theorem dX12_isFlash_90 : decode cX12_isFlash 90 = .ok (.ireturn, 1) := by decide +kernel
theorem dX12_flash_0 : decode cX12_flash 0 = .ok (.aload_n 0, 1) := by decide +kernel
theorem dX12_flash_1 : decode cX12_flash 1 = .ok (.iconst 0, 1) := by decide +kernel
theorem dX12_flash_2 : decode cX12_flash 2 = .ok (.putfield 1, 3) := by decide +kernel
theorem dX12_flash_5 : decode cX12_flash 5 = .ok (.iload_n 1, 1) := by decide +kernel
theorem dX12_flash_6 : decode cX12_flash 6 = .ok (.ifCond .lt 8, 3) := by decide +kernel
theorem dX12_flash_9 : decode cX12_flash 9 = .ok (.iload_n 2, 1) := by decide +kernel
theorem dX12_flash_10 : decode cX12_flash 10 = .ok (.iconst (-1), 1) := by decide +kernel
theorem dX12_flash_11 : decode cX12_flash 11 = .ok (.if_icmp .ge 6, 3) := by decide +kernel
theorem dX12_flash_14 : decode cX12_flash 14 = .ok (.bipush (-3), 2) := by decide +kernel
theorem dX12_flash_16 : decode cX12_flash 16 = .ok (.ireturn, 1) := by decide +kernel
theorem dX12_flash_17 : decode cX12_flash 17 = .ok (.aload_n 0, 1) := by decide +kernel
theorem dX12_flash_18 : decode cX12_flash 18 = .ok (.invokevirtual 185, 3) := by decide +kernel
theorem dX12_flash_21 : decode cX12_flash 21 = .ok (.iconst 0, 1) := by decide +kernel
theorem dX12_flash_22 : decode cX12_flash 22 = .ok (.istore_n 3, 1) := by decide +kernel
theorem dX12_flash_23 : decode cX12_flash 23 = .ok (.iconst 1, 1) := by decide +kernel
theorem dX12_flash_24 : decode cX12_flash 24 = .ok (.istore 4, 2) := by decide +kernel
theorem dX12_flash_26 : decode cX12_flash 26 = .ok (.iload 4, 2) := by decide +kernel
theorem dX12_flash_28 : decode cX12_flash 28 = .ok (.iconst 1, 1) := by decide +kernel
theorem dX12_flash_29 : decode cX12_flash 29 = .ok (.iadd, 1) := by decide +kernel
theorem dX12_flash_30 : decode cX12_flash 30 = .ok (.aload_n 0, 1) := by decide +kernel
theorem dX12_flash_31 : decode cX12_flash 31 = .ok (.getfield 13, 3) := by decide +kernel
theorem dX12_flash_34 : decode cX12_flash 34 = .ok (.iconst 2, 1) := by decide +kernel
theorem dX12_flash_35 : decode cX12_flash 35 = .ok (.iaload, 1) := by decide +kernel
theorem dX12_flash_36 : decode cX12_flash 36 = .ok (.if_icmp .ge 33, 3) := by decide +kernel
theorem dX12_flash_39 : decode cX12_flash 39 = .ok (.aload_n 0, 1) := by decide +kernel
theorem dX12_flash_40 : decode cX12_flash 40 = .ok (.iload 4, 2) := by decide +kernel
theorem dX12_flash_42 : decode cX12_flash 42 = .ok (.iload_n 1, 1) := by decide +kernel
theorem dX12_flash_43 : decode cX12_flash 43 = .ok (.invokevirtual 298, 3) := by decide +kernel
theorem dX12_flash_46 : decode cX12_flash 46 = .ok (.ifCond .ne 6, 3) := by decide +kernel
theorem dX12_flash_49 : decode cX12_flash 49 = .ok (.goto 14, 3) := by decide +kernel
theorem dX12_flash_52 : decode cX12_flash 52 = .ok (.iload_n 3, 1) := by decide +kernel
theorem dX12_flash_53 : decode cX12_flash 53 = .ok (.iload_n 2, 1) := by decide +kernel
theorem dX12_flash_54 : decode cX12_flash 54 = .ok (.if_icmp .ne 6, 3) := by decide +kernel
theorem dX12_flash_57 : decode cX12_flash 57 = .ok (.iload 4, 2) := by decide +kernel
theorem dX12_flash_59 : decode cX12_flash 59 = .ok (.ireturn, 1) := by decide +kernel
theorem dX12_flash_60 : decode cX12_flash 60 = .ok (.iinc 3 1, 3) := by decide +kernel
theorem dX12_flash_63 : decode cX12_flash 63 = .ok (.iinc 4 1, 3) := by decide +kernel
theorem dX12_flash_66 : decode cX12_flash 66 = .ok (.goto (-40), 3) := by decide +kernel
theorem dX12_flash_69 : decode cX12_flash 69 = .ok (.iload_n 2, 1) := by decide +kernel
theorem dX12_flash_70 : decode cX12_flash 70 = .ok (.iconst (-1), 1) := by decide +kernel
theorem dX12_flash_71 : decode cX12_flash 71 = .ok (.if_icmp .ne 7, 3) := by decide +kernel
theorem dX12_flash_74 : decode cX12_flash 74 = .ok (.iload_n 3, 1) := by decide +kernel
theorem dX12_flash_75 : decode cX12_flash 75 = .ok (.goto 4, 3) := by decide +kernel
theorem dX12_flash_78 : decode cX12_flash 78 = .ok (.iconst (-1), 1) := by decide +kernel
theorem dX12_flash_79 : decode cX12_flash 79 = .ok (.ireturn, 1) := by decide +kernel
theorem dX12_period_0 : decode cX12_period 0 = .ok (.aload_n 0, 1) := by decide +kernel
theorem dX12_period_1 : decode cX12_period 1 = .ok (.iconst 0, 1) := by decide +kernel
theorem dX12_period_2 : decode cX12_period 2 = .ok (.putfield 1, 3) := by decide +kernel
theorem dX12_period_5 : decode cX12_period 5 = .ok (.aload_n 0, 1) := by decide +kernel
theorem dX12_period_6 : decode cX12_period 6 = .ok (.invokevirtual 185, 3) := by decide +kernel
theorem dX12_period_9 : decode cX12_period 9 = .ok (.iconst (-1), 1) := by decide +kernel
theorem dX12_period_10 : decode cX12_period 10 = .ok (.istore_n 1, 1) := by decide +kernel
theorem dX12_period_11 : decode cX12_period 11 = .ok (.iconst 0, 1) := by decide +kernel
theorem dX12_period_12 : decode cX12_period 12 = .ok (.istore_n 2, 1) := by decide +kernel
theorem dX12_period_13 : decode cX12_period 13 = .ok (.iconst 1, 1) := by decide +kernel
theorem dX12_period_14 : decode cX12_period 14 = .ok (.istore_n 3, 1) := by decide +kernel
theorem dX12_period_15 : decode cX12_period 15 = .ok (.iload_n 3, 1) := by decide +kernel
theorem dX12_period_16 : decode cX12_period 16 = .ok (.bipush 9, 2) := by decide +kernel
theorem dX12_period_18 : decode cX12_period 18 = .ok (.if_icmp .ge 105, 3) := by decide +kernel
theorem dX12_period_21 : decode cX12_period 21 = .ok (.iload_n 3, 1) := by decide +kernel
theorem dX12_period_22 : decode cX12_period 22 = .ok (.aload_n 0, 1) := by decide +kernel
theorem dX12_period_23 : decode cX12_period 23 = .ok (.getfield 13, 3) := by decide +kernel
theorem dX12_period_26 : decode cX12_period 26 = .ok (.iconst 2, 1) := by decide +kernel
theorem dX12_period_27 : decode cX12_period 27 = .ok (.iaload, 1) := by decide +kernel
theorem dX12_period_28 : decode cX12_period 28 = .ok (.if_icmp .ge 95, 3) := by decide +kernel
theorem dX12_period_31 : decode cX12_period 31 = .ok (.iconst 0, 1) := by decide +kernel
theorem dX12_period_32 : decode cX12_period 32 = .ok (.istore 4, 2) := by decide +kernel
theorem dX12_period_34 : decode cX12_period 34 = .ok (.iconst 0, 1) := by decide +kernel
theorem dX12_period_35 : decode cX12_period 35 = .ok (.istore 5, 2) := by decide +kernel
theorem dX12_period_37 : decode cX12_period 37 = .ok (.iload 5, 2) := by decide +kernel
theorem dX12_period_39 : decode cX12_period 39 = .ok (.iload_n 3, 1) := by decide +kernel
theorem dX12_period_40 : decode cX12_period 40 = .ok (.iadd, 1) := by decide +kernel
theorem dX12_period_41 : decode cX12_period 41 = .ok (.aload_n 0, 1) := by decide +kernel
theorem dX12_period_42 : decode cX12_period 42 = .ok (.getfield 13, 3) := by decide +kernel
theorem dX12_period_45 : decode cX12_period 45 = .ok (.iconst 2, 1) := by decide +kernel
theorem dX12_period_46 : decode cX12_period 46 = .ok (.iaload, 1) := by decide +kernel
theorem dX12_period_47 : decode cX12_period 47 = .ok (.if_icmp .ge 33, 3) := by decide +kernel
theorem dX12_period_50 : decode cX12_period 50 = .ok (.iload 4, 2) := by decide +kernel
theorem dX12_period_52 : decode cX12_period 52 = .ok (.aload_n 0, 1) := by decide +kernel
theorem dX12_period_53 : decode cX12_period 53 = .ok (.getfield 33, 3) := by decide +kernel
theorem dX12_period_56 : decode cX12_period 56 = .ok (.iload 5, 2) := by decide +kernel
theorem dX12_period_58 : decode cX12_period 58 = .ok (.iaload, 1) := by decide +kernel
theorem dX12_period_59 : decode cX12_period 59 = .ok (.aload_n 0, 1) := by decide +kernel
theorem dX12_period_60 : decode cX12_period 60 = .ok (.getfield 33, 3) := by decide +kernel
theorem dX12_period_63 : decode cX12_period 63 = .ok (.iload 5, 2) := by decide +kernel
theorem dX12_period_65 : decode cX12_period 65 = .ok (.iload_n 3, 1) := by decide +kernel
theorem dX12_period_66 : decode cX12_period 66 = .ok (.iadd, 1) := by decide +kernel
theorem dX12_period_67 : decode cX12_period 67 = .ok (.iaload, 1) := by decide +kernel
theorem dX12_period_68 : decode cX12_period 68 = .ok (.invokestatic 203, 3) := by decide +kernel
theorem dX12_period_71 : decode cX12_period 71 = .ok (.iadd, 1) := by decide +kernel
theorem dX12_period_72 : decode cX12_period 72 = .ok (.istore 4, 2) := by decide +kernel
theorem dX12_period_74 : decode cX12_period 74 = .ok (.iinc 5 1, 3) := by decide +kernel
theorem dX12_period_77 : decode cX12_period 77 = .ok (.goto (-40), 3) := by decide +kernel
theorem dX12_period_80 : decode cX12_period 80 = .ok (.iload_n 1, 1) := by decide +kernel
theorem dX12_period_81 : decode cX12_period 81 = .ok (.iconst (-1), 1) := by decide +kernel
theorem dX12_period_82 : decode cX12_period 82 = .ok (.if_icmp .eq 30, 3) := by decide +kernel
theorem dX12_period_85 : decode cX12_period 85 = .ok (.iload 4, 2) := by decide +kernel
theorem dX12_period_87 : decode cX12_period 87 = .ok (.aload_n 0, 1) := by decide +kernel
theorem dX12_period_88 : decode cX12_period 88 = .ok (.getfield 13, 3) := by decide +kernel
theorem dX12_period_91 : decode cX12_period 91 = .ok (.iconst 2, 1) := by decide +kernel
theorem dX12_period_92 : decode cX12_period 92 = .ok (.iaload, 1) := by decide +kernel
theorem dX12_period_93 : decode cX12_period 93 = .ok (.iload_n 1, 1) := by decide +kernel
theorem dX12_period_94 : decode cX12_period 94 = .ok (.isub, 1) := by decide +kernel
theorem dX12_period_95 : decode cX12_period 95 = .ok (.imul, 1) := by decide +kernel
theorem dX12_period_96 : decode cX12_period 96 = .ok (.iload_n 2, 1) := by decide +kernel
theorem dX12_period_97 : decode cX12_period 97 = .ok (.aload_n 0, 1) := by decide +kernel
theorem dX12_period_98 : decode cX12_period 98 = .ok (.getfield 13, 3) := by decide +kernel
theorem dX12_period_101 : decode cX12_period 101 = .ok (.iconst 2, 1) := by decide +kernel
theorem dX12_period_102 : decode cX12_period 102 = .ok (.iaload, 1) := by decide +kernel
theorem dX12_period_103 : decode cX12_period 103 = .ok (.iload_n 3, 1) := by decide +kernel
theorem dX12_period_104 : decode cX12_period 104 = .ok (.isub, 1) := by decide +kernel
theorem dX12_period_105 : decode cX12_period 105 = .ok (.imul, 1) := by decide +kernel
theorem dX12_period_106 : decode cX12_period 106 = .ok (.if_icmp .lt 6, 3) := by decide +kernel
theorem dX12_period_109 : decode cX12_period 109 = .ok (.goto 8, 3) := by decide +kernel
theorem dX12_period_112 : decode cX12_period 112 = .ok (.iload_n 3, 1) := by decide +kernel
theorem dX12_period_113 : decode cX12_period 113 = .ok (.istore_n 1, 1) := by decide +kernel
theorem dX12_period_114 : decode cX12_period 114 = .ok (.iload 4, 2) := by decide +kernel
theorem dX12_period_116 : decode cX12_period 116 = .ok (.istore_n 2, 1) := by decide +kernel
theorem dX12_period_117 : decode cX12_period 117 = .ok (.iinc 3 1, 3) := by decide +kernel
theorem dX12_period_120 : decode cX12_period 120 = .ok (.goto (-105), 3) := by decide +kernel
theorem dX12_period_123 : decode cX12_period 123 = .ok (.iload_n 1, 1) := by decide +kernel
theorem dX12_period_124 : decode cX12_period 124 = .ok (.ireturn, 1) := by decide +kernel
theorem dX12_areLike_0 : decode cX12_areLike 0 = .ok (.iconst 0, 1) := by decide +kernel
theorem dX12_areLike_1 : decode cX12_areLike 1 = .ok (.istore_n 3, 1) := by decide +kernel
theorem dX12_areLike_2 : decode cX12_areLike 2 = .ok (.iload_n 3, 1) := by decide +kernel
theorem dX12_areLike_3 : decode cX12_areLike 3 = .ok (.aload_n 0, 1) := by decide +kernel
theorem dX12_areLike_4 : decode cX12_areLike 4 = .ok (.invokevirtual 129, 3) := by decide +kernel
theorem dX12_areLike_7 : decode cX12_areLike 7 = .ok (.if_icmp .ge 26, 3) := by decide +kernel
theorem dX12_areLike_10 : decode cX12_areLike 10 = .ok (.aload_n 0, 1) := by decide +kernel
theorem dX12_areLike_11 : decode cX12_areLike 11 = .ok (.iload_n 1, 1) := by decide +kernel
theorem dX12_areLike_12 : decode cX12_areLike 12 = .ok (.iload_n 3, 1) := by decide +kernel
theorem dX12_areLike_13 : decode cX12_areLike 13 = .ok (.invokevirtual 200, 3) := by decide +kernel
theorem dX12_areLike_16 : decode cX12_areLike 16 = .ok (.aload_n 0, 1) := by decide +kernel
theorem dX12_areLike_17 : decode cX12_areLike 17 = .ok (.iload_n 2, 1) := by decide +kernel
theorem dX12_areLike_18 : decode cX12_areLike 18 = .ok (.iload_n 3, 1) := by decide +kernel
theorem dX12_areLike_19 : decode cX12_areLike 19 = .ok (.invokevirtual 200, 3) := by decide +kernel
theorem dX12_areLike_22 : decode cX12_areLike 22 = .ok (.if_icmp .eq 5, 3) := by decide +kernel
theorem dX12_areLike_25 : decode cX12_areLike 25 = .ok (.iconst 0, 1) := by decide +kernel
theorem dX12_areLike_26 : decode cX12_areLike 26 = .ok (.ireturn, 1) := by decide +kernel
theorem dX12_areLike_27 : decode cX12_areLike 27 = .ok (.iinc 3 1, 3) := by decide +kernel
theorem dX12_areLike_30 : decode cX12_areLike 30 = .ok (.goto (-28), 3) := by decide +kernel
theorem dX12_areLike_33 : decode cX12_areLike 33 = .ok (.iconst 1, 1) := by decide +kernel
theorem dX12_areLike_34 : decode cX12_areLike 34 = .ok (.ireturn, 1) := by decide +kernel
theorem dX12_firstLike_0 : decode cX12_firstLike 0 = .ok (.iconst 0, 1) := by decide +kernel
theorem dX12_firstLike_1 : decode cX12_firstLike 1 = .ok (.istore_n 2, 1) := by decide +kernel
theorem dX12_firstLike_2 : decode cX12_firstLike 2 = .ok (.aload_n 0, 1) := by decide +kernel
theorem dX12_firstLike_3 : decode cX12_firstLike 3 = .ok (.iload_n 1, 1) := by decide +kernel
theorem dX12_firstLike_4 : decode cX12_firstLike 4 = .ok (.iload_n 2, 1) := by decide +kernel
theorem dX12_firstLike_5 : decode cX12_firstLike 5 = .ok (.invokevirtual 301, 3) := by decide +kernel
theorem dX12_firstLike_8 : decode cX12_firstLike 8 = .ok (.ifCond .ne 9, 3) := by decide +kernel
theorem dX12_firstLike_11 : decode cX12_firstLike 11 = .ok (.iinc 2 1, 3) := by decide +kernel
theorem dX12_firstLike_14 : decode cX12_firstLike 14 = .ok (.goto (-12), 3) := by decide +kernel
theorem dX12_firstLike_17 : decode cX12_firstLike 17 = .ok (.iload_n 2, 1) := by decide +kernel
theorem dX12_firstLike_18 : decode cX12_firstLike 18 = .ok (.ireturn, 1) := by decide +kernel
theorem dX12_alike_0 : decode cX12_alike 0 = .ok (.aload_n 0, 1) := by decide +kernel
theorem dX12_alike_1 : decode cX12_alike 1 = .ok (.iconst 0, 1) := by decide +kernel
theorem dX12_alike_2 : decode cX12_alike 2 = .ok (.putfield 1, 3) := by decide +kernel
theorem dX12_alike_5 : decode cX12_alike 5 = .ok (.iload_n 1, 1) := by decide +kernel
theorem dX12_alike_6 : decode cX12_alike 6 = .ok (.iconst (-1), 1) := by decide +kernel
theorem dX12_alike_7 : decode cX12_alike 7 = .ok (.if_icmp .eq 14, 3) := by decide +kernel
theorem dX12_alike_10 : decode cX12_alike 10 = .ok (.aload_n 0, 1) := by decide +kernel
theorem dX12_alike_11 : decode cX12_alike 11 = .ok (.iload_n 1, 1) := by decide +kernel
theorem dX12_alike_12 : decode cX12_alike 12 = .ok (.invokevirtual 182, 3) := by decide +kernel
theorem dX12_alike_15 : decode cX12_alike 15 = .ok (.ifCond .ne 6, 3) := by decide +kernel
theorem dX12_alike_18 : decode cX12_alike 18 = .ok (.bipush (-2), 2) := by decide +kernel
theorem dX12_alike_20 : decode cX12_alike 20 = .ok (.ireturn, 1) := by decide +kernel
theorem dX12_alike_21 : decode cX12_alike 21 = .ok (.iload_n 1, 1) := by decide +kernel
theorem dX12_alike_22 : decode cX12_alike 22 = .ok (.iconst (-1), 1) := by decide +kernel
theorem dX12_alike_23 : decode cX12_alike 23 = .ok (.if_icmp .eq 9, 3) := by decide +kernel
theorem dX12_alike_26 : decode cX12_alike 26 = .ok (.aload_n 0, 1) := by decide +kernel
theorem dX12_alike_27 : decode cX12_alike 27 = .ok (.iload_n 1, 1) := by decide +kernel
theorem dX12_alike_28 : decode cX12_alike 28 = .ok (.invokevirtual 304, 3) := by decide +kernel
theorem dX12_alike_31 : decode cX12_alike 31 = .ok (.ireturn, 1) := by decide +kernel
theorem dX12_alike_32 : decode cX12_alike 32 = .ok (.iconst 0, 1) := by decide +kernel
theorem dX12_alike_33 : decode cX12_alike 33 = .ok (.istore_n 2, 1) := by decide +kernel
theorem dX12_alike_34 : decode cX12_alike 34 = .ok (.iconst 0, 1) := by decide +kernel
theorem dX12_alike_35 : decode cX12_alike 35 = .ok (.istore_n 3, 1) := by decide +kernel
theorem dX12_alike_36 : decode cX12_alike 36 = .ok (.iload_n 3, 1) := by decide +kernel
theorem dX12_alike_37 : decode cX12_alike 37 = .ok (.aload_n 0, 1) := by decide +kernel
theorem dX12_alike_38 : decode cX12_alike 38 = .ok (.getfield 13, 3) := by decide +kernel
theorem dX12_alike_41 : decode cX12_alike 41 = .ok (.iconst 2, 1) := by decide +kernel
theorem dX12_alike_42 : decode cX12_alike 42 = .ok (.iaload, 1) := by decide +kernel
theorem dX12_alike_43 : decode cX12_alike 43 = .ok (.if_icmp .ge 26, 3) := by decide +kernel
theorem dX12_alike_46 : decode cX12_alike 46 = .ok (.iload_n 2, 1) := by decide +kernel
theorem dX12_alike_47 : decode cX12_alike 47 = .ok (.aload_n 0, 1) := by decide +kernel
theorem dX12_alike_48 : decode cX12_alike 48 = .ok (.iload_n 3, 1) := by decide +kernel
theorem dX12_alike_49 : decode cX12_alike 49 = .ok (.invokevirtual 304, 3) := by decide +kernel
theorem dX12_alike_52 : decode cX12_alike 52 = .ok (.iload_n 3, 1) := by decide +kernel
theorem dX12_alike_53 : decode cX12_alike 53 = .ok (.if_icmp .ne 7, 3) := by decide +kernel
theorem dX12_alike_56 : decode cX12_alike 56 = .ok (.iconst 1, 1) := by decide +kernel
theorem dX12_alike_57 : decode cX12_alike 57 = .ok (.goto 4, 3) := by decide +kernel
theorem dX12_alike_60 : decode cX12_alike 60 = .ok (.iconst 0, 1) := by decide +kernel
theorem dX12_alike_61 : decode cX12_alike 61 = .ok (.iadd, 1) := by decide +kernel
theorem dX12_alike_62 : decode cX12_alike 62 = .ok (.istore_n 2, 1) := by decide +kernel
theorem dX12_alike_63 : decode cX12_alike 63 = .ok (.iinc 3 1, 3) := by decide +kernel
theorem dX12_alike_66 : decode cX12_alike 66 = .ok (.goto (-30), 3) := by decide +kernel
theorem dX12_alike_69 : decode cX12_alike 69 = .ok (.iload_n 2, 1) := by decide +kernel
theorem dX12_alike_70 : decode cX12_alike 70 = .ok (.ireturn, 1) := by decide +kernel
theorem dX12_nearest_0 : decode cX12_nearest 0 = .ok (.aload_n 0, 1) := by decide +kernel
theorem dX12_nearest_1 : decode cX12_nearest 1 = .ok (.iconst 0, 1) := by decide +kernel
theorem dX12_nearest_2 : decode cX12_nearest 2 = .ok (.putfield 1, 3) := by decide +kernel
theorem dX12_nearest_5 : decode cX12_nearest 5 = .ok (.aload_n 0, 1) := by decide +kernel
theorem dX12_nearest_6 : decode cX12_nearest 6 = .ok (.iload_n 1, 1) := by decide +kernel
theorem dX12_nearest_7 : decode cX12_nearest 7 = .ok (.invokevirtual 182, 3) := by decide +kernel
theorem dX12_nearest_10 : decode cX12_nearest 10 = .ok (.ifCond .ne 6, 3) := by decide +kernel
theorem dX12_nearest_13 : decode cX12_nearest 13 = .ok (.bipush (-2), 2) := by decide +kernel
theorem dX12_nearest_15 : decode cX12_nearest 15 = .ok (.ireturn, 1) := by decide +kernel
theorem dX12_nearest_16 : decode cX12_nearest 16 = .ok (.aload_n 0, 1) := by decide +kernel
theorem dX12_nearest_17 : decode cX12_nearest 17 = .ok (.invokevirtual 185, 3) := by decide +kernel
theorem dX12_nearest_20 : decode cX12_nearest 20 = .ok (.iconst (-1), 1) := by decide +kernel
theorem dX12_nearest_21 : decode cX12_nearest 21 = .ok (.istore_n 2, 1) := by decide +kernel
theorem dX12_nearest_22 : decode cX12_nearest 22 = .ok (.iconst 0, 1) := by decide +kernel
theorem dX12_nearest_23 : decode cX12_nearest 23 = .ok (.istore_n 3, 1) := by decide +kernel
theorem dX12_nearest_24 : decode cX12_nearest 24 = .ok (.iload_n 3, 1) := by decide +kernel
theorem dX12_nearest_25 : decode cX12_nearest 25 = .ok (.aload_n 0, 1) := by decide +kernel
theorem dX12_nearest_26 : decode cX12_nearest 26 = .ok (.getfield 13, 3) := by decide +kernel
theorem dX12_nearest_29 : decode cX12_nearest 29 = .ok (.iconst 2, 1) := by decide +kernel
theorem dX12_nearest_30 : decode cX12_nearest 30 = .ok (.iaload, 1) := by decide +kernel
theorem dX12_nearest_31 : decode cX12_nearest 31 = .ok (.if_icmp .ge 42, 3) := by decide +kernel
theorem dX12_nearest_34 : decode cX12_nearest 34 = .ok (.iload_n 3, 1) := by decide +kernel
theorem dX12_nearest_35 : decode cX12_nearest 35 = .ok (.iload_n 1, 1) := by decide +kernel
theorem dX12_nearest_36 : decode cX12_nearest 36 = .ok (.if_icmp .eq 31, 3) := by decide +kernel
theorem dX12_nearest_39 : decode cX12_nearest 39 = .ok (.iload_n 2, 1) := by decide +kernel
theorem dX12_nearest_40 : decode cX12_nearest 40 = .ok (.iconst (-1), 1) := by decide +kernel
theorem dX12_nearest_41 : decode cX12_nearest 41 = .ok (.if_icmp .eq 24, 3) := by decide +kernel
theorem dX12_nearest_44 : decode cX12_nearest 44 = .ok (.aload_n 0, 1) := by decide +kernel
theorem dX12_nearest_45 : decode cX12_nearest 45 = .ok (.getfield 30, 3) := by decide +kernel
theorem dX12_nearest_48 : decode cX12_nearest 48 = .ok (.iload_n 3, 1) := by decide +kernel
theorem dX12_nearest_49 : decode cX12_nearest 49 = .ok (.iload_n 1, 1) := by decide +kernel
theorem dX12_nearest_50 : decode cX12_nearest 50 = .ok (.invokestatic 206, 3) := by decide +kernel
theorem dX12_nearest_53 : decode cX12_nearest 53 = .ok (.aload_n 0, 1) := by decide +kernel
theorem dX12_nearest_54 : decode cX12_nearest 54 = .ok (.getfield 30, 3) := by decide +kernel
theorem dX12_nearest_57 : decode cX12_nearest 57 = .ok (.iload_n 2, 1) := by decide +kernel
theorem dX12_nearest_58 : decode cX12_nearest 58 = .ok (.iload_n 1, 1) := by decide +kernel
theorem dX12_nearest_59 : decode cX12_nearest 59 = .ok (.invokestatic 206, 3) := by decide +kernel
theorem dX12_nearest_62 : decode cX12_nearest 62 = .ok (.if_icmp .ge 5, 3) := by decide +kernel
theorem dX12_nearest_65 : decode cX12_nearest 65 = .ok (.iload_n 3, 1) := by decide +kernel
theorem dX12_nearest_66 : decode cX12_nearest 66 = .ok (.istore_n 2, 1) := by decide +kernel
theorem dX12_nearest_67 : decode cX12_nearest 67 = .ok (.iinc 3 1, 3) := by decide +kernel
theorem dX12_nearest_70 : decode cX12_nearest 70 = .ok (.goto (-46), 3) := by decide +kernel
theorem dX12_nearest_73 : decode cX12_nearest 73 = .ok (.iload_n 2, 1) := by decide +kernel
theorem dX12_nearest_74 : decode cX12_nearest 74 = .ok (.ireturn, 1) := by decide +kernel
theorem dX12_kinds_0 : decode cX12_kinds 0 = .ok (.aload_n 0, 1) := by decide +kernel
theorem dX12_kinds_1 : decode cX12_kinds 1 = .ok (.iconst 0, 1) := by decide +kernel
theorem dX12_kinds_2 : decode cX12_kinds 2 = .ok (.putfield 1, 3) := by decide +kernel
theorem dX12_kinds_5 : decode cX12_kinds 5 = .ok (.aload_n 0, 1) := by decide +kernel
theorem dX12_kinds_6 : decode cX12_kinds 6 = .ok (.invokevirtual 259, 3) := by decide +kernel
theorem dX12_kinds_9 : decode cX12_kinds 9 = .ok (.iload_n 1, 1) := by decide +kernel
theorem dX12_kinds_10 : decode cX12_kinds 10 = .ok (.ifCond .eq 10, 3) := by decide +kernel
theorem dX12_kinds_13 : decode cX12_kinds 13 = .ok (.aload_n 0, 1) := by decide +kernel
theorem dX12_kinds_14 : decode cX12_kinds 14 = .ok (.getfield 49, 3) := by decide +kernel
theorem dX12_kinds_17 : decode cX12_kinds 17 = .ok (.goto 7, 3) := by decide +kernel
theorem dX12_kinds_20 : decode cX12_kinds 20 = .ok (.aload_n 0, 1) := by decide +kernel
theorem dX12_kinds_21 : decode cX12_kinds 21 = .ok (.getfield 30, 3) := by decide +kernel
theorem dX12_kinds_24 : decode cX12_kinds 24 = .ok (.astore_n 2, 1) := by decide +kernel
theorem dX12_kinds_25 : decode cX12_kinds 25 = .ok (.iconst 0, 1) := by decide +kernel
theorem dX12_kinds_26 : decode cX12_kinds 26 = .ok (.istore_n 3, 1) := by decide +kernel
theorem dX12_kinds_27 : decode cX12_kinds 27 = .ok (.iconst 0, 1) := by decide +kernel
theorem dX12_kinds_28 : decode cX12_kinds 28 = .ok (.istore 4, 2) := by decide +kernel
theorem dX12_kinds_30 : decode cX12_kinds 30 = .ok (.iload 4, 2) := by decide +kernel
theorem dX12_kinds_32 : decode cX12_kinds 32 = .ok (.aload_n 0, 1) := by decide +kernel
theorem dX12_kinds_33 : decode cX12_kinds 33 = .ok (.getfield 13, 3) := by decide +kernel
theorem dX12_kinds_36 : decode cX12_kinds 36 = .ok (.iconst 2, 1) := by decide +kernel
theorem dX12_kinds_37 : decode cX12_kinds 37 = .ok (.iaload, 1) := by decide +kernel
theorem dX12_kinds_38 : decode cX12_kinds 38 = .ok (.if_icmp .ge 64, 3) := by decide +kernel
theorem dX12_kinds_41 : decode cX12_kinds 41 = .ok (.iconst 1, 1) := by decide +kernel
theorem dX12_kinds_42 : decode cX12_kinds 42 = .ok (.istore 5, 2) := by decide +kernel
theorem dX12_kinds_44 : decode cX12_kinds 44 = .ok (.iconst 0, 1) := by decide +kernel
theorem dX12_kinds_45 : decode cX12_kinds 45 = .ok (.istore 6, 2) := by decide +kernel
theorem dX12_kinds_47 : decode cX12_kinds 47 = .ok (.iload 6, 2) := by decide +kernel
theorem dX12_kinds_49 : decode cX12_kinds 49 = .ok (.iload 4, 2) := by decide +kernel
theorem dX12_kinds_51 : decode cX12_kinds 51 = .ok (.if_icmp .ge 32, 3) := by decide +kernel
theorem dX12_kinds_54 : decode cX12_kinds 54 = .ok (.iload 5, 2) := by decide +kernel
theorem dX12_kinds_56 : decode cX12_kinds 56 = .ok (.ifCond .eq 18, 3) := by decide +kernel
theorem dX12_kinds_59 : decode cX12_kinds 59 = .ok (.aload_n 2, 1) := by decide +kernel
theorem dX12_kinds_60 : decode cX12_kinds 60 = .ok (.iload 4, 2) := by decide +kernel
theorem dX12_kinds_62 : decode cX12_kinds 62 = .ok (.iload 6, 2) := by decide +kernel
theorem dX12_kinds_64 : decode cX12_kinds 64 = .ok (.invokestatic 206, 3) := by decide +kernel
theorem dX12_kinds_67 : decode cX12_kinds 67 = .ok (.ifCond .le 7, 3) := by decide +kernel
theorem dX12_kinds_70 : decode cX12_kinds 70 = .ok (.iconst 1, 1) := by decide +kernel
theorem dX12_kinds_71 : decode cX12_kinds 71 = .ok (.goto 4, 3) := by decide +kernel
theorem dX12_kinds_74 : decode cX12_kinds 74 = .ok (.iconst 0, 1) := by decide +kernel
theorem dX12_kinds_75 : decode cX12_kinds 75 = .ok (.istore 5, 2) := by decide +kernel
theorem dX12_kinds_77 : decode cX12_kinds 77 = .ok (.iinc 6 1, 3) := by decide +kernel
theorem dX12_kinds_80 : decode cX12_kinds 80 = .ok (.goto (-33), 3) := by decide +kernel
theorem dX12_kinds_83 : decode cX12_kinds 83 = .ok (.iload_n 3, 1) := by decide +kernel
theorem dX12_kinds_84 : decode cX12_kinds 84 = .ok (.iload 5, 2) := by decide +kernel
theorem dX12_kinds_86 : decode cX12_kinds 86 = .ok (.ifCond .eq 7, 3) := by decide +kernel
theorem dX12_kinds_89 : decode cX12_kinds 89 = .ok (.iconst 1, 1) := by decide +kernel
theorem dX12_kinds_90 : decode cX12_kinds 90 = .ok (.goto 4, 3) := by decide +kernel
theorem dX12_kinds_93 : decode cX12_kinds 93 = .ok (.iconst 0, 1) := by decide +kernel
theorem dX12_kinds_94 : decode cX12_kinds 94 = .ok (.iadd, 1) := by decide +kernel
theorem dX12_kinds_95 : decode cX12_kinds 95 = .ok (.istore_n 3, 1) := by decide +kernel
theorem dX12_kinds_96 : decode cX12_kinds 96 = .ok (.iinc 4 1, 3) := by decide +kernel
theorem dX12_kinds_99 : decode cX12_kinds 99 = .ok (.goto (-69), 3) := by decide +kernel
theorem dX12_kinds_102 : decode cX12_kinds 102 = .ok (.iload_n 3, 1) := by decide +kernel
theorem dX12_kinds_103 : decode cX12_kinds 103 = .ok (.ireturn, 1) := by decide +kernel
theorem dX12_costOf_0 : decode cX12_costOf 0 = .ok (.iconst 0, 1) := by decide +kernel
theorem dX12_costOf_1 : decode cX12_costOf 1 = .ok (.istore 5, 2) := by decide +kernel
theorem dX12_costOf_3 : decode cX12_costOf 3 = .ok (.iconst 0, 1) := by decide +kernel
theorem dX12_costOf_4 : decode cX12_costOf 4 = .ok (.istore 6, 2) := by decide +kernel
theorem dX12_costOf_6 : decode cX12_costOf 6 = .ok (.iload 6, 2) := by decide +kernel
theorem dX12_costOf_8 : decode cX12_costOf 8 = .ok (.aload_n 0, 1) := by decide +kernel
theorem dX12_costOf_9 : decode cX12_costOf 9 = .ok (.invokevirtual 129, 3) := by decide +kernel
theorem dX12_costOf_12 : decode cX12_costOf 12 = .ok (.if_icmp .ge 41, 3) := by decide +kernel
theorem dX12_costOf_15 : decode cX12_costOf 15 = .ok (.iload 5, 2) := by decide +kernel
theorem dX12_costOf_17 : decode cX12_costOf 17 = .ok (.aload_n 0, 1) := by decide +kernel
theorem dX12_costOf_18 : decode cX12_costOf 18 = .ok (.iload_n 1, 1) := by decide +kernel
theorem dX12_costOf_19 : decode cX12_costOf 19 = .ok (.iload 6, 2) := by decide +kernel
theorem dX12_costOf_21 : decode cX12_costOf 21 = .ok (.invokevirtual 200, 3) := by decide +kernel
theorem dX12_costOf_24 : decode cX12_costOf 24 = .ok (.iload_n 3, 1) := by decide +kernel
theorem dX12_costOf_25 : decode cX12_costOf 25 = .ok (.if_icmp .ne 18, 3) := by decide +kernel
theorem dX12_costOf_28 : decode cX12_costOf 28 = .ok (.iload 4, 2) := by decide +kernel
theorem dX12_costOf_30 : decode cX12_costOf 30 = .ok (.aload_n 0, 1) := by decide +kernel
theorem dX12_costOf_31 : decode cX12_costOf 31 = .ok (.iload_n 2, 1) := by decide +kernel
theorem dX12_costOf_32 : decode cX12_costOf 32 = .ok (.iload 6, 2) := by decide +kernel
theorem dX12_costOf_34 : decode cX12_costOf 34 = .ok (.invokevirtual 200, 3) := by decide +kernel
theorem dX12_costOf_37 : decode cX12_costOf 37 = .ok (.invokestatic 203, 3) := by decide +kernel
theorem dX12_costOf_40 : decode cX12_costOf 40 = .ok (.goto 4, 3) := by decide +kernel
theorem dX12_costOf_43 : decode cX12_costOf 43 = .ok (.iconst 0, 1) := by decide +kernel
theorem dX12_costOf_44 : decode cX12_costOf 44 = .ok (.iadd, 1) := by decide +kernel
theorem dX12_costOf_45 : decode cX12_costOf 45 = .ok (.istore 5, 2) := by decide +kernel
theorem dX12_costOf_47 : decode cX12_costOf 47 = .ok (.iinc 6 1, 3) := by decide +kernel
theorem dX12_costOf_50 : decode cX12_costOf 50 = .ok (.goto (-44), 3) := by decide +kernel
theorem dX12_costOf_53 : decode cX12_costOf 53 = .ok (.iload 5, 2) := by decide +kernel
theorem dX12_costOf_55 : decode cX12_costOf 55 = .ok (.ireturn, 1) := by decide +kernel
theorem dX12_leastFrom_0 : decode cX12_leastFrom 0 = .ok (.aload_n 0, 1) := by decide +kernel
theorem dX12_leastFrom_1 : decode cX12_leastFrom 1 = .ok (.getfield 61, 3) := by decide +kernel
theorem dX12_leastFrom_4 : decode cX12_leastFrom 4 = .ok (.bipush 16, 2) := by decide +kernel
theorem dX12_leastFrom_6 : decode cX12_leastFrom 6 = .ok (.iload_n 1, 1) := by decide +kernel
theorem dX12_leastFrom_7 : decode cX12_leastFrom 7 = .ok (.imul, 1) := by decide +kernel
theorem dX12_leastFrom_8 : decode cX12_leastFrom 8 = .ok (.iload_n 2, 1) := by decide +kernel
theorem dX12_leastFrom_9 : decode cX12_leastFrom 9 = .ok (.iadd, 1) := by decide +kernel
theorem dX12_leastFrom_10 : decode cX12_leastFrom 10 = .ok (.iaload, 1) := by decide +kernel
theorem dX12_leastFrom_11 : decode cX12_leastFrom 11 = .ok (.istore_n 3, 1) := by decide +kernel
theorem dX12_leastFrom_12 : decode cX12_leastFrom 12 = .ok (.iload_n 2, 1) := by decide +kernel
theorem dX12_leastFrom_13 : decode cX12_leastFrom 13 = .ok (.iconst 1, 1) := by decide +kernel
theorem dX12_leastFrom_14 : decode cX12_leastFrom 14 = .ok (.iadd, 1) := by decide +kernel
theorem dX12_leastFrom_15 : decode cX12_leastFrom 15 = .ok (.istore 4, 2) := by decide +kernel
theorem dX12_leastFrom_17 : decode cX12_leastFrom 17 = .ok (.iload 4, 2) := by decide +kernel
theorem dX12_leastFrom_19 : decode cX12_leastFrom 19 = .ok (.bipush 16, 2) := by decide +kernel
theorem dX12_leastFrom_21 : decode cX12_leastFrom 21 = .ok (.if_icmp .ge 42, 3) := by decide +kernel
theorem dX12_leastFrom_24 : decode cX12_leastFrom 24 = .ok (.aload_n 0, 1) := by decide +kernel
theorem dX12_leastFrom_25 : decode cX12_leastFrom 25 = .ok (.getfield 61, 3) := by decide +kernel
theorem dX12_leastFrom_28 : decode cX12_leastFrom 28 = .ok (.bipush 16, 2) := by decide +kernel
theorem dX12_leastFrom_30 : decode cX12_leastFrom 30 = .ok (.iload_n 1, 1) := by decide +kernel
theorem dX12_leastFrom_31 : decode cX12_leastFrom 31 = .ok (.imul, 1) := by decide +kernel
theorem dX12_leastFrom_32 : decode cX12_leastFrom 32 = .ok (.iload 4, 2) := by decide +kernel
theorem dX12_leastFrom_34 : decode cX12_leastFrom 34 = .ok (.iadd, 1) := by decide +kernel
theorem dX12_leastFrom_35 : decode cX12_leastFrom 35 = .ok (.iaload, 1) := by decide +kernel
theorem dX12_leastFrom_36 : decode cX12_leastFrom 36 = .ok (.iload_n 3, 1) := by decide +kernel
theorem dX12_leastFrom_37 : decode cX12_leastFrom 37 = .ok (.if_icmp .ge 18, 3) := by decide +kernel
theorem dX12_leastFrom_40 : decode cX12_leastFrom 40 = .ok (.aload_n 0, 1) := by decide +kernel
theorem dX12_leastFrom_41 : decode cX12_leastFrom 41 = .ok (.getfield 61, 3) := by decide +kernel
theorem dX12_leastFrom_44 : decode cX12_leastFrom 44 = .ok (.bipush 16, 2) := by decide +kernel
theorem dX12_leastFrom_46 : decode cX12_leastFrom 46 = .ok (.iload_n 1, 1) := by decide +kernel
theorem dX12_leastFrom_47 : decode cX12_leastFrom 47 = .ok (.imul, 1) := by decide +kernel
theorem dX12_leastFrom_48 : decode cX12_leastFrom 48 = .ok (.iload 4, 2) := by decide +kernel
theorem dX12_leastFrom_50 : decode cX12_leastFrom 50 = .ok (.iadd, 1) := by decide +kernel
theorem dX12_leastFrom_51 : decode cX12_leastFrom 51 = .ok (.iaload, 1) := by decide +kernel
theorem dX12_leastFrom_52 : decode cX12_leastFrom 52 = .ok (.goto 4, 3) := by decide +kernel
theorem dX12_leastFrom_55 : decode cX12_leastFrom 55 = .ok (.iload_n 3, 1) := by decide +kernel
theorem dX12_leastFrom_56 : decode cX12_leastFrom 56 = .ok (.istore_n 3, 1) := by decide +kernel
theorem dX12_leastFrom_57 : decode cX12_leastFrom 57 = .ok (.iinc 4 1, 3) := by decide +kernel
theorem dX12_leastFrom_60 : decode cX12_leastFrom 60 = .ok (.goto (-43), 3) := by decide +kernel
theorem dX12_leastFrom_63 : decode cX12_leastFrom 63 = .ok (.iload_n 3, 1) := by decide +kernel
theorem dX12_leastFrom_64 : decode cX12_leastFrom 64 = .ok (.ireturn, 1) := by decide +kernel
theorem dX12_fitted_0 : decode cX12_fitted 0 = .ok (.aload_n 0, 1) := by decide +kernel
theorem dX12_fitted_1 : decode cX12_fitted 1 = .ok (.iconst 0, 1) := by decide +kernel
theorem dX12_fitted_2 : decode cX12_fitted 2 = .ok (.putfield 1, 3) := by decide +kernel
theorem dX12_fitted_5 : decode cX12_fitted 5 = .ok (.aload_n 0, 1) := by decide +kernel
theorem dX12_fitted_6 : decode cX12_fitted 6 = .ok (.iload_n 1, 1) := by decide +kernel
theorem dX12_fitted_7 : decode cX12_fitted 7 = .ok (.invokevirtual 182, 3) := by decide +kernel
theorem dX12_fitted_10 : decode cX12_fitted 10 = .ok (.ifCond .eq 11, 3) := by decide +kernel
theorem dX12_fitted_13 : decode cX12_fitted 13 = .ok (.aload_n 0, 1) := by decide +kernel
theorem dX12_fitted_14 : decode cX12_fitted 14 = .ok (.iload_n 2, 1) := by decide +kernel
theorem dX12_fitted_15 : decode cX12_fitted 15 = .ok (.invokevirtual 182, 3) := by decide +kernel
theorem dX12_fitted_18 : decode cX12_fitted 18 = .ok (.ifCond .ne 6, 3) := by decide +kernel
theorem dX12_fitted_21 : decode cX12_fitted 21 = .ok (.bipush (-2), 2) := by decide +kernel
theorem dX12_fitted_23 : decode cX12_fitted 23 = .ok (.ireturn, 1) := by decide +kernel
theorem dX12_fitted_24 : decode cX12_fitted 24 = .ok (.iload_n 3, 1) := by decide +kernel
theorem dX12_fitted_25 : decode cX12_fitted 25 = .ok (.iconst (-1), 1) := by decide +kernel
theorem dX12_fitted_26 : decode cX12_fitted 26 = .ok (.if_icmp .eq 13, 3) := by decide +kernel
theorem dX12_fitted_29 : decode cX12_fitted 29 = .ok (.iload_n 3, 1) := by decide +kernel
theorem dX12_fitted_30 : decode cX12_fitted 30 = .ok (.invokestatic 164, 3) := by decide +kernel
theorem dX12_fitted_33 : decode cX12_fitted 33 = .ok (.ifCond .ne 6, 3) := by decide +kernel
theorem dX12_fitted_36 : decode cX12_fitted 36 = .ok (.bipush (-3), 2) := by decide +kernel
theorem dX12_fitted_38 : decode cX12_fitted 38 = .ok (.ireturn, 1) := by decide +kernel
theorem dX12_fitted_39 : decode cX12_fitted 39 = .ok (.iconst 0, 1) := by decide +kernel
theorem dX12_fitted_40 : decode cX12_fitted 40 = .ok (.istore 4, 2) := by decide +kernel
theorem dX12_fitted_42 : decode cX12_fitted 42 = .ok (.iload 4, 2) := by decide +kernel
theorem dX12_fitted_44 : decode cX12_fitted 44 = .ok (.bipush 16, 2) := by decide +kernel
theorem dX12_fitted_46 : decode cX12_fitted 46 = .ok (.if_icmp .ge 21, 3) := by decide +kernel
theorem dX12_fitted_49 : decode cX12_fitted 49 = .ok (.aload_n 0, 1) := by decide +kernel
theorem dX12_fitted_50 : decode cX12_fitted 50 = .ok (.getfield 61, 3) := by decide +kernel
theorem dX12_fitted_53 : decode cX12_fitted 53 = .ok (.sipush 256, 3) := by decide +kernel
theorem dX12_fitted_56 : decode cX12_fitted 56 = .ok (.iload 4, 2) := by decide +kernel
theorem dX12_fitted_58 : decode cX12_fitted 58 = .ok (.iadd, 1) := by decide +kernel
theorem dX12_fitted_59 : decode cX12_fitted 59 = .ok (.iconst 0, 1) := by decide +kernel
theorem dX12_fitted_60 : decode cX12_fitted 60 = .ok (.iastore, 1) := by decide +kernel
theorem dX12_fitted_61 : decode cX12_fitted 61 = .ok (.iinc 4 1, 3) := by decide +kernel
theorem dX12_fitted_64 : decode cX12_fitted 64 = .ok (.goto (-22), 3) := by decide +kernel
theorem dX12_fitted_67 : decode cX12_fitted 67 = .ok (.bipush 15, 2) := by decide +kernel
theorem dX12_fitted_69 : decode cX12_fitted 69 = .ok (.istore 4, 2) := by decide +kernel
theorem dX12_fitted_71 : decode cX12_fitted 71 = .ok (.iload 4, 2) := by decide +kernel
theorem dX12_fitted_73 : decode cX12_fitted 73 = .ok (.ifCond .lt 59, 3) := by decide +kernel
theorem dX12_fitted_76 : decode cX12_fitted 76 = .ok (.iconst 0, 1) := by decide +kernel
theorem dX12_fitted_77 : decode cX12_fitted 77 = .ok (.istore 5, 2) := by decide +kernel
theorem dX12_fitted_79 : decode cX12_fitted 79 = .ok (.iload 5, 2) := by decide +kernel
theorem dX12_fitted_81 : decode cX12_fitted 81 = .ok (.bipush 16, 2) := by decide +kernel
theorem dX12_fitted_83 : decode cX12_fitted 83 = .ok (.if_icmp .ge 43, 3) := by decide +kernel
theorem dX12_fitted_86 : decode cX12_fitted 86 = .ok (.aload_n 0, 1) := by decide +kernel
theorem dX12_fitted_87 : decode cX12_fitted 87 = .ok (.getfield 61, 3) := by decide +kernel
theorem dX12_fitted_90 : decode cX12_fitted 90 = .ok (.bipush 16, 2) := by decide +kernel
theorem dX12_fitted_92 : decode cX12_fitted 92 = .ok (.iload 4, 2) := by decide +kernel
theorem dX12_fitted_94 : decode cX12_fitted 94 = .ok (.imul, 1) := by decide +kernel
theorem dX12_fitted_95 : decode cX12_fitted 95 = .ok (.iload 5, 2) := by decide +kernel
theorem dX12_fitted_97 : decode cX12_fitted 97 = .ok (.iadd, 1) := by decide +kernel
theorem dX12_fitted_98 : decode cX12_fitted 98 = .ok (.aload_n 0, 1) := by decide +kernel
theorem dX12_fitted_99 : decode cX12_fitted 99 = .ok (.iload_n 1, 1) := by decide +kernel
theorem dX12_fitted_100 : decode cX12_fitted 100 = .ok (.iload_n 2, 1) := by decide +kernel
theorem dX12_fitted_101 : decode cX12_fitted 101 = .ok (.iload 4, 2) := by decide +kernel
theorem dX12_fitted_103 : decode cX12_fitted 103 = .ok (.iload 5, 2) := by decide +kernel
theorem dX12_fitted_105 : decode cX12_fitted 105 = .ok (.invokevirtual 307, 3) := by decide +kernel
theorem dX12_fitted_108 : decode cX12_fitted 108 = .ok (.aload_n 0, 1) := by decide +kernel
theorem dX12_fitted_109 : decode cX12_fitted 109 = .ok (.iload 4, 2) := by decide +kernel
theorem dX12_fitted_111 : decode cX12_fitted 111 = .ok (.iconst 1, 1) := by decide +kernel
theorem dX12_fitted_112 : decode cX12_fitted 112 = .ok (.iadd, 1) := by decide +kernel
theorem dX12_fitted_113 : decode cX12_fitted 113 = .ok (.iload 5, 2) := by decide +kernel
theorem dX12_fitted_115 : decode cX12_fitted 115 = .ok (.invokevirtual 311, 3) := by decide +kernel
theorem dX12_fitted_118 : decode cX12_fitted 118 = .ok (.iadd, 1) := by decide +kernel
theorem dX12_fitted_119 : decode cX12_fitted 119 = .ok (.iastore, 1) := by decide +kernel
theorem dX12_fitted_120 : decode cX12_fitted 120 = .ok (.iinc 5 1, 3) := by decide +kernel
theorem dX12_fitted_123 : decode cX12_fitted 123 = .ok (.goto (-44), 3) := by decide +kernel
theorem dX12_fitted_126 : decode cX12_fitted 126 = .ok (.iinc 4 (-1), 3) := by decide +kernel
theorem dX12_fitted_129 : decode cX12_fitted 129 = .ok (.goto (-58), 3) := by decide +kernel
theorem dX12_fitted_132 : decode cX12_fitted 132 = .ok (.iload_n 3, 1) := by decide +kernel
theorem dX12_fitted_133 : decode cX12_fitted 133 = .ok (.iconst (-1), 1) := by decide +kernel
theorem dX12_fitted_134 : decode cX12_fitted 134 = .ok (.if_icmp .ne 10, 3) := by decide +kernel
theorem dX12_fitted_137 : decode cX12_fitted 137 = .ok (.aload_n 0, 1) := by decide +kernel
theorem dX12_fitted_138 : decode cX12_fitted 138 = .ok (.iconst 0, 1) := by decide +kernel
theorem dX12_fitted_139 : decode cX12_fitted 139 = .ok (.iconst 0, 1) := by decide +kernel
theorem dX12_fitted_140 : decode cX12_fitted 140 = .ok (.invokevirtual 311, 3) := by decide +kernel
theorem dX12_fitted_143 : decode cX12_fitted 143 = .ok (.ireturn, 1) := by decide +kernel
theorem dX12_fitted_144 : decode cX12_fitted 144 = .ok (.iconst 0, 1) := by decide +kernel
theorem dX12_fitted_145 : decode cX12_fitted 145 = .ok (.istore 4, 2) := by decide +kernel
theorem dX12_fitted_147 : decode cX12_fitted 147 = .ok (.iconst 0, 1) := by decide +kernel
theorem dX12_fitted_148 : decode cX12_fitted 148 = .ok (.istore 5, 2) := by decide +kernel
theorem dX12_fitted_150 : decode cX12_fitted 150 = .ok (.iload 5, 2) := by decide +kernel
theorem dX12_fitted_152 : decode cX12_fitted 152 = .ok (.iload_n 3, 1) := by decide +kernel
theorem dX12_fitted_153 : decode cX12_fitted 153 = .ok (.if_icmp .gt 43, 3) := by decide +kernel
theorem dX12_fitted_156 : decode cX12_fitted 156 = .ok (.aload_n 0, 1) := by decide +kernel
theorem dX12_fitted_157 : decode cX12_fitted 157 = .ok (.iload 5, 2) := by decide +kernel
theorem dX12_fitted_159 : decode cX12_fitted 159 = .ok (.iload 4, 2) := by decide +kernel
theorem dX12_fitted_161 : decode cX12_fitted 161 = .ok (.invokevirtual 311, 3) := by decide +kernel
theorem dX12_fitted_164 : decode cX12_fitted 164 = .ok (.istore 6, 2) := by decide +kernel
theorem dX12_fitted_166 : decode cX12_fitted 166 = .ok (.aload_n 0, 1) := by decide +kernel
theorem dX12_fitted_167 : decode cX12_fitted 167 = .ok (.getfield 61, 3) := by decide +kernel
theorem dX12_fitted_170 : decode cX12_fitted 170 = .ok (.bipush 16, 2) := by decide +kernel
theorem dX12_fitted_172 : decode cX12_fitted 172 = .ok (.iload 5, 2) := by decide +kernel
theorem dX12_fitted_174 : decode cX12_fitted 174 = .ok (.imul, 1) := by decide +kernel
theorem dX12_fitted_175 : decode cX12_fitted 175 = .ok (.iload 4, 2) := by decide +kernel
theorem dX12_fitted_177 : decode cX12_fitted 177 = .ok (.iadd, 1) := by decide +kernel
theorem dX12_fitted_178 : decode cX12_fitted 178 = .ok (.iaload, 1) := by decide +kernel
theorem dX12_fitted_179 : decode cX12_fitted 179 = .ok (.iload 6, 2) := by decide +kernel
theorem dX12_fitted_181 : decode cX12_fitted 181 = .ok (.if_icmp .le 9, 3) := by decide +kernel
theorem dX12_fitted_184 : decode cX12_fitted 184 = .ok (.iinc 4 1, 3) := by decide +kernel
theorem dX12_fitted_187 : decode cX12_fitted 187 = .ok (.goto (-21), 3) := by decide +kernel
theorem dX12_fitted_190 : decode cX12_fitted 190 = .ok (.iinc 5 1, 3) := by decide +kernel
theorem dX12_fitted_193 : decode cX12_fitted 193 = .ok (.goto (-43), 3) := by decide +kernel
theorem dX12_fitted_196 : decode cX12_fitted 196 = .ok (.iload 4, 2) := by decide +kernel
theorem dX12_fitted_198 : decode cX12_fitted 198 = .ok (.ireturn, 1) := by decide +kernel
theorem dX12_lost_0 : decode cX12_lost 0 = .ok (.aload_n 0, 1) := by decide +kernel
theorem dX12_lost_1 : decode cX12_lost 1 = .ok (.iconst 0, 1) := by decide +kernel
theorem dX12_lost_2 : decode cX12_lost 2 = .ok (.putfield 1, 3) := by decide +kernel
theorem dX12_lost_5 : decode cX12_lost 5 = .ok (.aload_n 0, 1) := by decide +kernel
theorem dX12_lost_6 : decode cX12_lost 6 = .ok (.iload_n 1, 1) := by decide +kernel
theorem dX12_lost_7 : decode cX12_lost 7 = .ok (.invokevirtual 182, 3) := by decide +kernel
theorem dX12_lost_10 : decode cX12_lost 10 = .ok (.ifCond .ne 6, 3) := by decide +kernel
theorem dX12_lost_13 : decode cX12_lost 13 = .ok (.bipush (-2), 2) := by decide +kernel
theorem dX12_lost_15 : decode cX12_lost 15 = .ok (.ireturn, 1) := by decide +kernel
theorem dX12_lost_16 : decode cX12_lost 16 = .ok (.aload_n 0, 1) := by decide +kernel
theorem dX12_lost_17 : decode cX12_lost 17 = .ok (.invokevirtual 185, 3) := by decide +kernel
theorem dX12_lost_20 : decode cX12_lost 20 = .ok (.aload_n 0, 1) := by decide +kernel
theorem dX12_lost_21 : decode cX12_lost 21 = .ok (.iload_n 1, 1) := by decide +kernel
theorem dX12_lost_22 : decode cX12_lost 22 = .ok (.invokevirtual 247, 3) := by decide +kernel
theorem dX12_lost_25 : decode cX12_lost 25 = .ok (.iconst 0, 1) := by decide +kernel
theorem dX12_lost_26 : decode cX12_lost 26 = .ok (.istore_n 2, 1) := by decide +kernel
theorem dX12_lost_27 : decode cX12_lost 27 = .ok (.iconst 0, 1) := by decide +kernel
theorem dX12_lost_28 : decode cX12_lost 28 = .ok (.istore_n 3, 1) := by decide +kernel
theorem dX12_lost_29 : decode cX12_lost 29 = .ok (.iload_n 3, 1) := by decide +kernel
theorem dX12_lost_30 : decode cX12_lost 30 = .ok (.bipush 16, 2) := by decide +kernel
theorem dX12_lost_32 : decode cX12_lost 32 = .ok (.if_icmp .ge 100, 3) := by decide +kernel
theorem dX12_lost_35 : decode cX12_lost 35 = .ok (.iconst 0, 1) := by decide +kernel
theorem dX12_lost_36 : decode cX12_lost 36 = .ok (.istore 4, 2) := by decide +kernel
theorem dX12_lost_38 : decode cX12_lost 38 = .ok (.iconst 0, 1) := by decide +kernel
theorem dX12_lost_39 : decode cX12_lost 39 = .ok (.istore 5, 2) := by decide +kernel
theorem dX12_lost_41 : decode cX12_lost 41 = .ok (.iload 5, 2) := by decide +kernel
theorem dX12_lost_43 : decode cX12_lost 43 = .ok (.bipush 16, 2) := by decide +kernel
theorem dX12_lost_45 : decode cX12_lost 45 = .ok (.if_icmp .ge 56, 3) := by decide +kernel
theorem dX12_lost_48 : decode cX12_lost 48 = .ok (.iload 4, 2) := by decide +kernel
theorem dX12_lost_50 : decode cX12_lost 50 = .ok (.ifCond .ne 38, 3) := by decide +kernel
theorem dX12_lost_53 : decode cX12_lost 53 = .ok (.iload 5, 2) := by decide +kernel
theorem dX12_lost_55 : decode cX12_lost 55 = .ok (.iload_n 3, 1) := by decide +kernel
theorem dX12_lost_56 : decode cX12_lost 56 = .ok (.if_icmp .eq 36, 3) := by decide +kernel
theorem dX12_lost_59 : decode cX12_lost 59 = .ok (.aload_n 0, 1) := by decide +kernel
theorem dX12_lost_60 : decode cX12_lost 60 = .ok (.getfield 43, 3) := by decide +kernel
theorem dX12_lost_63 : decode cX12_lost 63 = .ok (.iload 5, 2) := by decide +kernel
theorem dX12_lost_65 : decode cX12_lost 65 = .ok (.iaload, 1) := by decide +kernel
theorem dX12_lost_66 : decode cX12_lost 66 = .ok (.aload_n 0, 1) := by decide +kernel
theorem dX12_lost_67 : decode cX12_lost 67 = .ok (.getfield 43, 3) := by decide +kernel
theorem dX12_lost_70 : decode cX12_lost 70 = .ok (.iload_n 3, 1) := by decide +kernel
theorem dX12_lost_71 : decode cX12_lost 71 = .ok (.iaload, 1) := by decide +kernel
theorem dX12_lost_72 : decode cX12_lost 72 = .ok (.if_icmp .ne 20, 3) := by decide +kernel
theorem dX12_lost_75 : decode cX12_lost 75 = .ok (.aload_n 0, 1) := by decide +kernel
theorem dX12_lost_76 : decode cX12_lost 76 = .ok (.getfield 30, 3) := by decide +kernel
theorem dX12_lost_79 : decode cX12_lost 79 = .ok (.iload_n 1, 1) := by decide +kernel
theorem dX12_lost_80 : decode cX12_lost 80 = .ok (.iload 5, 2) := by decide +kernel
theorem dX12_lost_82 : decode cX12_lost 82 = .ok (.invokestatic 291, 3) := by decide +kernel
theorem dX12_lost_85 : decode cX12_lost 85 = .ok (.ifCond .le 7, 3) := by decide +kernel
theorem dX12_lost_88 : decode cX12_lost 88 = .ok (.iconst 1, 1) := by decide +kernel
theorem dX12_lost_89 : decode cX12_lost 89 = .ok (.goto 4, 3) := by decide +kernel
theorem dX12_lost_92 : decode cX12_lost 92 = .ok (.iconst 0, 1) := by decide +kernel
theorem dX12_lost_93 : decode cX12_lost 93 = .ok (.istore 4, 2) := by decide +kernel
theorem dX12_lost_95 : decode cX12_lost 95 = .ok (.iinc 5 1, 3) := by decide +kernel
theorem dX12_lost_98 : decode cX12_lost 98 = .ok (.goto (-57), 3) := by decide +kernel
theorem dX12_lost_101 : decode cX12_lost 101 = .ok (.iload_n 2, 1) := by decide +kernel
theorem dX12_lost_102 : decode cX12_lost 102 = .ok (.iload 4, 2) := by decide +kernel
theorem dX12_lost_104 : decode cX12_lost 104 = .ok (.ifCond .eq 19, 3) := by decide +kernel
theorem dX12_lost_107 : decode cX12_lost 107 = .ok (.aload_n 0, 1) := by decide +kernel
theorem dX12_lost_108 : decode cX12_lost 108 = .ok (.getfield 30, 3) := by decide +kernel
theorem dX12_lost_111 : decode cX12_lost 111 = .ok (.iload_n 1, 1) := by decide +kernel
theorem dX12_lost_112 : decode cX12_lost 112 = .ok (.iload_n 3, 1) := by decide +kernel
theorem dX12_lost_113 : decode cX12_lost 113 = .ok (.invokestatic 291, 3) := by decide +kernel
theorem dX12_lost_116 : decode cX12_lost 116 = .ok (.ifCond .le 7, 3) := by decide +kernel
theorem dX12_lost_119 : decode cX12_lost 119 = .ok (.iconst 1, 1) := by decide +kernel
theorem dX12_lost_120 : decode cX12_lost 120 = .ok (.goto 4, 3) := by decide +kernel
theorem dX12_lost_123 : decode cX12_lost 123 = .ok (.iconst 0, 1) := by decide +kernel
theorem dX12_lost_124 : decode cX12_lost 124 = .ok (.iadd, 1) := by decide +kernel
theorem dX12_lost_125 : decode cX12_lost 125 = .ok (.istore_n 2, 1) := by decide +kernel
theorem dX12_lost_126 : decode cX12_lost 126 = .ok (.iinc 3 1, 3) := by decide +kernel
theorem dX12_lost_129 : decode cX12_lost 129 = .ok (.goto (-100), 3) := by decide +kernel
theorem dX12_lost_132 : decode cX12_lost 132 = .ok (.iload_n 2, 1) := by decide +kernel
theorem dX12_lost_133 : decode cX12_lost 133 = .ok (.ireturn, 1) := by decide +kernel
theorem dX12_setting_0 : decode cX12_setting 0 = .ok (.aload_n 0, 1) := by decide +kernel
theorem dX12_setting_1 : decode cX12_setting 1 = .ok (.iconst 0, 1) := by decide +kernel
theorem dX12_setting_2 : decode cX12_setting 2 = .ok (.putfield 1, 3) := by decide +kernel
theorem dX12_setting_5 : decode cX12_setting 5 = .ok (.iload_n 1, 1) := by decide +kernel
theorem dX12_setting_6 : decode cX12_setting 6 = .ok (.i2l, 1) := by decide +kernel
theorem dX12_setting_7 : decode cX12_setting 7 = .ok (.lconst 0, 1) := by decide +kernel
theorem dX12_setting_8 : decode cX12_setting 8 = .ok (.ldc2_w 171, 3) := by decide +kernel
theorem dX12_setting_11 : decode cX12_setting 11 = .ok (.invokestatic 83, 3) := by decide +kernel
theorem dX12_setting_14 : decode cX12_setting 14 = .ok (.ifCond .eq 14, 3) := by decide +kernel
theorem dX12_setting_17 : decode cX12_setting 17 = .ok (.aload_n 0, 1) := by decide +kernel
theorem dX12_setting_18 : decode cX12_setting 18 = .ok (.getfield 13, 3) := by decide +kernel
theorem dX12_setting_21 : decode cX12_setting 21 = .ok (.iconst 3, 1) := by decide +kernel
theorem dX12_setting_22 : decode cX12_setting 22 = .ok (.iload_n 1, 1) := by decide +kernel
theorem dX12_setting_23 : decode cX12_setting 23 = .ok (.iadd, 1) := by decide +kernel
theorem dX12_setting_24 : decode cX12_setting 24 = .ok (.iaload, 1) := by decide +kernel
theorem dX12_setting_25 : decode cX12_setting 25 = .ok (.goto 5, 3) := by decide +kernel
theorem dX12_setting_28 : decode cX12_setting 28 = .ok (.bipush (-2), 2) := by decide +kernel
theorem dX12_setting_30 : decode cX12_setting 30 = .ok (.ireturn, 1) := by decide +kernel
theorem dX12_count_0 : decode cX12_count 0 = .ok (.aload_n 0, 1) := by decide +kernel
theorem dX12_count_1 : decode cX12_count 1 = .ok (.iconst 0, 1) := by decide +kernel
theorem dX12_count_2 : decode cX12_count 2 = .ok (.putfield 1, 3) := by decide +kernel
theorem dX12_count_5 : decode cX12_count 5 = .ok (.iload_n 1, 1) := by decide +kernel
theorem dX12_count_6 : decode cX12_count 6 = .ok (.tableswitch 81 0 6 #[42, 42, 42, 49, 60, 71, 76], 42) := by decide +kernel
theorem dX12_count_48 : decode cX12_count 48 = .ok (.aload_n 0, 1) := by decide +kernel
theorem dX12_count_49 : decode cX12_count 49 = .ok (.getfield 13, 3) := by decide +kernel
theorem dX12_count_52 : decode cX12_count 52 = .ok (.iload_n 1, 1) := by decide +kernel
theorem dX12_count_53 : decode cX12_count 53 = .ok (.iaload, 1) := by decide +kernel
theorem dX12_count_54 : decode cX12_count 54 = .ok (.ireturn, 1) := by decide +kernel
theorem dX12_count_55 : decode cX12_count 55 = .ok (.aload_n 0, 1) := by decide +kernel
theorem dX12_count_56 : decode cX12_count 56 = .ok (.getfield 13, 3) := by decide +kernel
theorem dX12_count_59 : decode cX12_count 59 = .ok (.bipush 14, 2) := by decide +kernel
theorem dX12_count_61 : decode cX12_count 61 = .ok (.iaload, 1) := by decide +kernel
theorem dX12_count_62 : decode cX12_count 62 = .ok (.invokestatic 191, 3) := by decide +kernel
theorem dX12_count_65 : decode cX12_count 65 = .ok (.ireturn, 1) := by decide +kernel
theorem dX12_count_66 : decode cX12_count 66 = .ok (.aload_n 0, 1) := by decide +kernel
theorem dX12_count_67 : decode cX12_count 67 = .ok (.getfield 13, 3) := by decide +kernel
theorem dX12_count_70 : decode cX12_count 70 = .ok (.bipush 13, 2) := by decide +kernel
theorem dX12_count_72 : decode cX12_count 72 = .ok (.iaload, 1) := by decide +kernel
theorem dX12_count_73 : decode cX12_count 73 = .ok (.invokestatic 191, 3) := by decide +kernel
theorem dX12_count_76 : decode cX12_count 76 = .ok (.ireturn, 1) := by decide +kernel
theorem dX12_count_77 : decode cX12_count 77 = .ok (.aload_n 0, 1) := by decide +kernel
theorem dX12_count_78 : decode cX12_count 78 = .ok (.getfield 157, 3) := by decide +kernel
theorem dX12_count_81 : decode cX12_count 81 = .ok (.ireturn, 1) := by decide +kernel
theorem dX12_count_82 : decode cX12_count 82 = .ok (.aload_n 0, 1) := by decide +kernel
theorem dX12_count_83 : decode cX12_count 83 = .ok (.getfield 67, 3) := by decide +kernel
theorem dX12_count_86 : decode cX12_count 86 = .ok (.ireturn, 1) := by decide +kernel
theorem dX12_count_87 : decode cX12_count 87 = .ok (.iload_n 1, 1) := by decide +kernel
theorem dX12_count_88 : decode cX12_count 88 = .ok (.i2l, 1) := by decide +kernel
theorem dX12_count_89 : decode cX12_count 89 = .ok (.ldc2_w 268, 3) := by decide +kernel
theorem dX12_count_92 : decode cX12_count 92 = .ok (.ldc2_w 314, 3) := by decide +kernel
theorem dX12_count_95 : decode cX12_count 95 = .ok (.invokestatic 83, 3) := by decide +kernel
theorem dX12_count_98 : decode cX12_count 98 = .ok (.ifCond .eq 18, 3) := by decide +kernel
theorem dX12_count_101 : decode cX12_count 101 = .ok (.aload_n 0, 1) := by decide +kernel
theorem dX12_count_102 : decode cX12_count 102 = .ok (.getfield 13, 3) := by decide +kernel
theorem dX12_count_105 : decode cX12_count 105 = .ok (.bipush 9, 2) := by decide +kernel
theorem dX12_count_107 : decode cX12_count 107 = .ok (.iload_n 1, 1) := by decide +kernel
theorem dX12_count_108 : decode cX12_count 108 = .ok (.iadd, 1) := by decide +kernel
theorem dX12_count_109 : decode cX12_count 109 = .ok (.bipush 10, 2) := by decide +kernel
theorem dX12_count_111 : decode cX12_count 111 = .ok (.isub, 1) := by decide +kernel
theorem dX12_count_112 : decode cX12_count 112 = .ok (.iaload, 1) := by decide +kernel
theorem dX12_count_113 : decode cX12_count 113 = .ok (.goto 4, 3) := by decide +kernel
theorem dX12_count_116 : decode cX12_count 116 = .ok (.iconst (-1), 1) := by decide +kernel
theorem dX12_count_117 : decode cX12_count 117 = .ok (.ireturn, 1) := by decide +kernel
theorem dJ6_bitCount_0f7a4_0 : decode cJ6_bitCount_0f7a4 0 = .ok (.iload_n 0, 1) := by decide +kernel
theorem dJ6_bitCount_0f7a4_1 : decode cJ6_bitCount_0f7a4 1 = .ok (.iload_n 0, 1) := by decide +kernel
theorem dJ6_bitCount_0f7a4_2 : decode cJ6_bitCount_0f7a4 2 = .ok (.iconst 1, 1) := by decide +kernel
theorem dJ6_bitCount_0f7a4_3 : decode cJ6_bitCount_0f7a4 3 = .ok (.iushr, 1) := by decide +kernel
theorem dJ6_bitCount_0f7a4_4 : decode cJ6_bitCount_0f7a4 4 = .ok (.ldc_w 265, 3) := by decide +kernel
theorem dJ6_bitCount_0f7a4_7 : decode cJ6_bitCount_0f7a4 7 = .ok (.iand, 1) := by decide +kernel
theorem dJ6_bitCount_0f7a4_8 : decode cJ6_bitCount_0f7a4 8 = .ok (.isub, 1) := by decide +kernel
theorem dJ6_bitCount_0f7a4_9 : decode cJ6_bitCount_0f7a4 9 = .ok (.istore_n 0, 1) := by decide +kernel
theorem dJ6_bitCount_0f7a4_10 : decode cJ6_bitCount_0f7a4 10 = .ok (.iload_n 0, 1) := by decide +kernel
theorem dJ6_bitCount_0f7a4_11 : decode cJ6_bitCount_0f7a4 11 = .ok (.ldc_w 266, 3) := by decide +kernel
theorem dJ6_bitCount_0f7a4_14 : decode cJ6_bitCount_0f7a4 14 = .ok (.iand, 1) := by decide +kernel
theorem dJ6_bitCount_0f7a4_15 : decode cJ6_bitCount_0f7a4 15 = .ok (.iload_n 0, 1) := by decide +kernel
theorem dJ6_bitCount_0f7a4_16 : decode cJ6_bitCount_0f7a4 16 = .ok (.iconst 2, 1) := by decide +kernel
theorem dJ6_bitCount_0f7a4_17 : decode cJ6_bitCount_0f7a4 17 = .ok (.iushr, 1) := by decide +kernel
theorem dJ6_bitCount_0f7a4_18 : decode cJ6_bitCount_0f7a4 18 = .ok (.ldc_w 266, 3) := by decide +kernel
theorem dJ6_bitCount_0f7a4_21 : decode cJ6_bitCount_0f7a4 21 = .ok (.iand, 1) := by decide +kernel
theorem dJ6_bitCount_0f7a4_22 : decode cJ6_bitCount_0f7a4 22 = .ok (.iadd, 1) := by decide +kernel
theorem dJ6_bitCount_0f7a4_23 : decode cJ6_bitCount_0f7a4 23 = .ok (.istore_n 0, 1) := by decide +kernel
theorem dJ6_bitCount_0f7a4_24 : decode cJ6_bitCount_0f7a4 24 = .ok (.iload_n 0, 1) := by decide +kernel
theorem dJ6_bitCount_0f7a4_25 : decode cJ6_bitCount_0f7a4 25 = .ok (.iload_n 0, 1) := by decide +kernel
theorem dJ6_bitCount_0f7a4_26 : decode cJ6_bitCount_0f7a4 26 = .ok (.iconst 4, 1) := by decide +kernel
theorem dJ6_bitCount_0f7a4_27 : decode cJ6_bitCount_0f7a4 27 = .ok (.iushr, 1) := by decide +kernel
theorem dJ6_bitCount_0f7a4_28 : decode cJ6_bitCount_0f7a4 28 = .ok (.iadd, 1) := by decide +kernel
theorem dJ6_bitCount_0f7a4_29 : decode cJ6_bitCount_0f7a4 29 = .ok (.ldc_w 267, 3) := by decide +kernel
theorem dJ6_bitCount_0f7a4_32 : decode cJ6_bitCount_0f7a4 32 = .ok (.iand, 1) := by decide +kernel
theorem dJ6_bitCount_0f7a4_33 : decode cJ6_bitCount_0f7a4 33 = .ok (.istore_n 0, 1) := by decide +kernel
theorem dJ6_bitCount_0f7a4_34 : decode cJ6_bitCount_0f7a4 34 = .ok (.iload_n 0, 1) := by decide +kernel
theorem dJ6_bitCount_0f7a4_35 : decode cJ6_bitCount_0f7a4 35 = .ok (.iload_n 0, 1) := by decide +kernel
theorem dJ6_bitCount_0f7a4_36 : decode cJ6_bitCount_0f7a4 36 = .ok (.bipush 8, 2) := by decide +kernel
theorem dJ6_bitCount_0f7a4_38 : decode cJ6_bitCount_0f7a4 38 = .ok (.iushr, 1) := by decide +kernel
theorem dJ6_bitCount_0f7a4_39 : decode cJ6_bitCount_0f7a4 39 = .ok (.iadd, 1) := by decide +kernel
theorem dJ6_bitCount_0f7a4_40 : decode cJ6_bitCount_0f7a4 40 = .ok (.istore_n 0, 1) := by decide +kernel
theorem dJ6_bitCount_0f7a4_41 : decode cJ6_bitCount_0f7a4 41 = .ok (.iload_n 0, 1) := by decide +kernel
theorem dJ6_bitCount_0f7a4_42 : decode cJ6_bitCount_0f7a4 42 = .ok (.iload_n 0, 1) := by decide +kernel
theorem dJ6_bitCount_0f7a4_43 : decode cJ6_bitCount_0f7a4 43 = .ok (.bipush 16, 2) := by decide +kernel
theorem dJ6_bitCount_0f7a4_45 : decode cJ6_bitCount_0f7a4 45 = .ok (.iushr, 1) := by decide +kernel
theorem dJ6_bitCount_0f7a4_46 : decode cJ6_bitCount_0f7a4 46 = .ok (.iadd, 1) := by decide +kernel
theorem dJ6_bitCount_0f7a4_47 : decode cJ6_bitCount_0f7a4 47 = .ok (.istore_n 0, 1) := by decide +kernel
theorem dJ6_bitCount_0f7a4_48 : decode cJ6_bitCount_0f7a4 48 = .ok (.iload_n 0, 1) := by decide +kernel
theorem dJ6_bitCount_0f7a4_49 : decode cJ6_bitCount_0f7a4 49 = .ok (.bipush 63, 2) := by decide +kernel
theorem dJ6_bitCount_0f7a4_51 : decode cJ6_bitCount_0f7a4 51 = .ok (.iand, 1) := by decide +kernel
theorem dJ6_bitCount_0f7a4_52 : decode cJ6_bitCount_0f7a4 52 = .ok (.ireturn, 1) := by decide +kernel
theorem dJ9_abs_0f7a4_0 : decode cJ9_abs_0f7a4 0 = .ok (.iload_n 0, 1) := by decide +kernel
theorem dJ9_abs_0f7a4_1 : decode cJ9_abs_0f7a4 1 = .ok (.ifCond .ge 8, 3) := by decide +kernel
theorem dJ9_abs_0f7a4_4 : decode cJ9_abs_0f7a4 4 = .ok (.iload_n 0, 1) := by decide +kernel
theorem dJ9_abs_0f7a4_5 : decode cJ9_abs_0f7a4 5 = .ok (.ineg, 1) := by decide +kernel
theorem dJ9_abs_0f7a4_6 : decode cJ9_abs_0f7a4 6 = .ok (.goto 4, 3) := by decide +kernel
theorem dJ9_abs_0f7a4_9 : decode cJ9_abs_0f7a4 9 = .ok (.iload_n 0, 1) := by decide +kernel
theorem dJ9_abs_0f7a4_10 : decode cJ9_abs_0f7a4 10 = .ok (.ireturn, 1) := by decide +kernel
theorem dJ9_max_7cf53_0 : decode cJ9_max_7cf53 0 = .ok (.iload_n 0, 1) := by decide +kernel
theorem dJ9_max_7cf53_1 : decode cJ9_max_7cf53 1 = .ok (.iload_n 1, 1) := by decide +kernel
theorem dJ9_max_7cf53_2 : decode cJ9_max_7cf53 2 = .ok (.if_icmp .lt 7, 3) := by decide +kernel
theorem dJ9_max_7cf53_5 : decode cJ9_max_7cf53 5 = .ok (.iload_n 0, 1) := by decide +kernel
theorem dJ9_max_7cf53_6 : decode cJ9_max_7cf53 6 = .ok (.goto 4, 3) := by decide +kernel
theorem dJ9_max_7cf53_9 : decode cJ9_max_7cf53 9 = .ok (.iload_n 1, 1) := by decide +kernel
theorem dJ9_max_7cf53_10 : decode cJ9_max_7cf53 10 = .ok (.ireturn, 1) := by decide +kernel
theorem dJ9_min_7cf53_0 : decode cJ9_min_7cf53 0 = .ok (.iload_n 0, 1) := by decide +kernel
theorem dJ9_min_7cf53_1 : decode cJ9_min_7cf53 1 = .ok (.iload_n 1, 1) := by decide +kernel
theorem dJ9_min_7cf53_2 : decode cJ9_min_7cf53 2 = .ok (.if_icmp .gt 7, 3) := by decide +kernel
theorem dJ9_min_7cf53_5 : decode cJ9_min_7cf53 5 = .ok (.iload_n 0, 1) := by decide +kernel
theorem dJ9_min_7cf53_6 : decode cJ9_min_7cf53 6 = .ok (.goto 4, 3) := by decide +kernel
theorem dJ9_min_7cf53_9 : decode cJ9_min_7cf53 9 = .ok (.iload_n 1, 1) := by decide +kernel
theorem dJ9_min_7cf53_10 : decode cJ9_min_7cf53 10 = .ok (.ireturn, 1) := by decide +kernel
theorem dJ0_length_8abf5_0 : decode cJ0_length_8abf5 0 = .ok (.aload_n 0, 1) := by decide +kernel
theorem dJ0_length_8abf5_1 : decode cJ0_length_8abf5 1 = .ok (.getfield 9, 3) := by decide +kernel
theorem dJ0_length_8abf5_4 : decode cJ0_length_8abf5 4 = .ok (.arraylength, 1) := by decide +kernel
theorem dJ0_length_8abf5_5 : decode cJ0_length_8abf5 5 = .ok (.aload_n 0, 1) := by decide +kernel
theorem dJ0_length_8abf5_6 : decode cJ0_length_8abf5 6 = .ok (.invokevirtual 335, 3) := by decide +kernel
theorem dJ0_length_8abf5_9 : decode cJ0_length_8abf5 9 = .ok (.ishr, 1) := by decide +kernel
theorem dJ0_length_8abf5_10 : decode cJ0_length_8abf5 10 = .ok (.ireturn, 1) := by decide +kernel
theorem dJ0_charAt_5068e_0 : decode cJ0_charAt_5068e 0 = .ok (.aload_n 0, 1) := by decide +kernel
theorem dJ0_charAt_5068e_1 : decode cJ0_charAt_5068e 1 = .ok (.invokevirtual 492, 3) := by decide +kernel
theorem dJ0_charAt_5068e_4 : decode cJ0_charAt_5068e 4 = .ok (.ifCond .eq 12, 3) := by decide +kernel
theorem dJ0_charAt_5068e_7 : decode cJ0_charAt_5068e 7 = .ok (.aload_n 0, 1) := by decide +kernel
theorem dJ0_charAt_5068e_8 : decode cJ0_charAt_5068e 8 = .ok (.getfield 9, 3) := by decide +kernel
theorem dJ0_charAt_5068e_11 : decode cJ0_charAt_5068e 11 = .ok (.iload_n 1, 1) := by decide +kernel
theorem dJ0_charAt_5068e_12 : decode cJ0_charAt_5068e 12 = .ok (.invokestatic 495, 3) := by decide +kernel
theorem dJ0_charAt_5068e_15 : decode cJ0_charAt_5068e 15 = .ok (.ireturn, 1) := by decide +kernel
theorem dJ0_charAt_5068e_16 : decode cJ0_charAt_5068e 16 = .ok (.aload_n 0, 1) := by decide +kernel
theorem dJ0_charAt_5068e_17 : decode cJ0_charAt_5068e 17 = .ok (.getfield 9, 3) := by decide +kernel
theorem dJ0_charAt_5068e_20 : decode cJ0_charAt_5068e 20 = .ok (.iload_n 1, 1) := by decide +kernel
theorem dJ0_charAt_5068e_21 : decode cJ0_charAt_5068e 21 = .ok (.invokestatic 498, 3) := by decide +kernel
theorem dJ0_charAt_5068e_24 : decode cJ0_charAt_5068e 24 = .ok (.ireturn, 1) := by decide +kernel
theorem dJ0_coder_7d493_0 : decode cJ0_coder_7d493 0 = .ok (.getstatic 38, 3) := by decide +kernel
theorem dJ0_coder_7d493_3 : decode cJ0_coder_7d493 3 = .ok (.ifCond .eq 10, 3) := by decide +kernel
theorem dJ0_coder_7d493_6 : decode cJ0_coder_7d493 6 = .ok (.aload_n 0, 1) := by decide +kernel
theorem dJ0_coder_7d493_7 : decode cJ0_coder_7d493 7 = .ok (.getfield 15, 3) := by decide +kernel
theorem dJ0_coder_7d493_10 : decode cJ0_coder_7d493 10 = .ok (.goto 4, 3) := by decide +kernel
theorem dJ0_coder_7d493_13 : decode cJ0_coder_7d493 13 = .ok (.iconst 1, 1) := by decide +kernel
theorem dJ0_coder_7d493_14 : decode cJ0_coder_7d493 14 = .ok (.ireturn, 1) := by decide +kernel
theorem dJ0_isLatin1_aae02_0 : decode cJ0_isLatin1_aae02 0 = .ok (.getstatic 38, 3) := by decide +kernel
theorem dJ0_isLatin1_aae02_3 : decode cJ0_isLatin1_aae02 3 = .ok (.ifCond .eq 14, 3) := by decide +kernel
theorem dJ0_isLatin1_aae02_6 : decode cJ0_isLatin1_aae02 6 = .ok (.aload_n 0, 1) := by decide +kernel
theorem dJ0_isLatin1_aae02_7 : decode cJ0_isLatin1_aae02 7 = .ok (.getfield 15, 3) := by decide +kernel
theorem dJ0_isLatin1_aae02_10 : decode cJ0_isLatin1_aae02 10 = .ok (.ifCond .ne 7, 3) := by decide +kernel
theorem dJ0_isLatin1_aae02_13 : decode cJ0_isLatin1_aae02 13 = .ok (.iconst 1, 1) := by decide +kernel
theorem dJ0_isLatin1_aae02_14 : decode cJ0_isLatin1_aae02 14 = .ok (.goto 4, 3) := by decide +kernel
theorem dJ0_isLatin1_aae02_17 : decode cJ0_isLatin1_aae02 17 = .ok (.iconst 0, 1) := by decide +kernel
theorem dJ0_isLatin1_aae02_18 : decode cJ0_isLatin1_aae02 18 = .ok (.ireturn, 1) := by decide +kernel
theorem dJ0_checkIndex_df160_0 : decode cJ0_checkIndex_df160 0 = .ok (.iload_n 0, 1) := by decide +kernel
theorem dJ0_checkIndex_df160_1 : decode cJ0_checkIndex_df160 1 = .ok (.iload_n 1, 1) := by decide +kernel
theorem dJ0_checkIndex_df160_2 : decode cJ0_checkIndex_df160 2 = .ok (.getstatic 1053, 3) := by decide +kernel
theorem dJ0_checkIndex_df160_5 : decode cJ0_checkIndex_df160 5 = .ok (.invokestatic 1059, 3) := by decide +kernel
theorem dJ0_checkIndex_df160_8 : decode cJ0_checkIndex_df160 8 = .ok (.pop, 1) := by decide +kernel
theorem dJ0_checkIndex_df160_9 : decode cJ0_checkIndex_df160 9 = .ok (.return_, 1) := by decide +kernel
theorem dJ1_charAt_3b067_0 : decode cJ1_charAt_3b067 0 = .ok (.iload_n 1, 1) := by decide +kernel
theorem dJ1_charAt_3b067_1 : decode cJ1_charAt_3b067 1 = .ok (.aload_n 0, 1) := by decide +kernel
theorem dJ1_charAt_3b067_2 : decode cJ1_charAt_3b067 2 = .ok (.arraylength, 1) := by decide +kernel
theorem dJ1_charAt_3b067_3 : decode cJ1_charAt_3b067 3 = .ok (.invokestatic 9, 3) := by decide +kernel
theorem dJ1_charAt_3b067_6 : decode cJ1_charAt_3b067 6 = .ok (.aload_n 0, 1) := by decide +kernel
theorem dJ1_charAt_3b067_7 : decode cJ1_charAt_3b067 7 = .ok (.iload_n 1, 1) := by decide +kernel
theorem dJ1_charAt_3b067_8 : decode cJ1_charAt_3b067 8 = .ok (.baload, 1) := by decide +kernel
theorem dJ1_charAt_3b067_9 : decode cJ1_charAt_3b067 9 = .ok (.sipush 255, 3) := by decide +kernel
theorem dJ1_charAt_3b067_12 : decode cJ1_charAt_3b067 12 = .ok (.iand, 1) := by decide +kernel
theorem dJ1_charAt_3b067_13 : decode cJ1_charAt_3b067 13 = .ok (.i2c, 1) := by decide +kernel
theorem dJ1_charAt_3b067_14 : decode cJ1_charAt_3b067 14 = .ok (.ireturn, 1) := by decide +kernel
theorem dJ2_getChar_3b067_0 : decode cJ2_getChar_3b067 0 = .ok (.getstatic 44, 3) := by decide +kernel
theorem dJ2_getChar_3b067_3 : decode cJ2_getChar_3b067 3 = .ok (.ifCond .ne 25, 3) := by decide +kernel
theorem dJ2_getChar_3b067_6 : decode cJ2_getChar_3b067 6 = .ok (.iload_n 1, 1) := by decide +kernel
theorem dJ2_getChar_3b067_7 : decode cJ2_getChar_3b067 7 = .ok (.ifCond .lt 11, 3) := by decide +kernel
theorem dJ2_getChar_3b067_10 : decode cJ2_getChar_3b067 10 = .ok (.iload_n 1, 1) := by decide +kernel
theorem dJ2_getChar_3b067_11 : decode cJ2_getChar_3b067 11 = .ok (.aload_n 0, 1) := by decide +kernel
theorem dJ2_getChar_3b067_12 : decode cJ2_getChar_3b067 12 = .ok (.invokestatic 48, 3) := by decide +kernel
theorem dJ2_getChar_3b067_15 : decode cJ2_getChar_3b067 15 = .ok (.if_icmp .lt 13, 3) := by decide +kernel
theorem dJ2_getChar_3b067_18 : decode cJ2_getChar_3b067 18 = .ok (.new 52, 3) := by decide +kernel
theorem dJ2_getChar_3b067_21 : decode cJ2_getChar_3b067 21 = .ok (.dup, 1) := by decide +kernel
theorem dJ2_getChar_3b067_22 : decode cJ2_getChar_3b067 22 = .ok (.ldc 54, 2) := by decide +kernel
theorem dJ2_getChar_3b067_24 : decode cJ2_getChar_3b067 24 = .ok (.invokespecial 56, 3) := by decide +kernel
theorem dJ2_getChar_3b067_27 : decode cJ2_getChar_3b067 27 = .ok (.athrow, 1) := by decide +kernel
theorem dJ2_getChar_3b067_28 : decode cJ2_getChar_3b067 28 = .ok (.iload_n 1, 1) := by decide +kernel
theorem dJ2_getChar_3b067_29 : decode cJ2_getChar_3b067 29 = .ok (.iconst 1, 1) := by decide +kernel
theorem dJ2_getChar_3b067_30 : decode cJ2_getChar_3b067 30 = .ok (.ishl, 1) := by decide +kernel
theorem dJ2_getChar_3b067_31 : decode cJ2_getChar_3b067 31 = .ok (.istore_n 1, 1) := by decide +kernel
theorem dJ2_getChar_3b067_32 : decode cJ2_getChar_3b067 32 = .ok (.aload_n 0, 1) := by decide +kernel
theorem dJ2_getChar_3b067_33 : decode cJ2_getChar_3b067 33 = .ok (.iload_n 1, 1) := by decide +kernel
theorem dJ2_getChar_3b067_34 : decode cJ2_getChar_3b067 34 = .ok (.iinc 1 1, 3) := by decide +kernel
theorem dJ2_getChar_3b067_37 : decode cJ2_getChar_3b067 37 = .ok (.baload, 1) := by decide +kernel
theorem dJ2_getChar_3b067_38 : decode cJ2_getChar_3b067 38 = .ok (.sipush 255, 3) := by decide +kernel
theorem dJ2_getChar_3b067_41 : decode cJ2_getChar_3b067 41 = .ok (.iand, 1) := by decide +kernel
theorem dJ2_getChar_3b067_42 : decode cJ2_getChar_3b067 42 = .ok (.getstatic 59, 3) := by decide +kernel
theorem dJ2_getChar_3b067_45 : decode cJ2_getChar_3b067 45 = .ok (.ishl, 1) := by decide +kernel
theorem dJ2_getChar_3b067_46 : decode cJ2_getChar_3b067 46 = .ok (.aload_n 0, 1) := by decide +kernel
theorem dJ2_getChar_3b067_47 : decode cJ2_getChar_3b067 47 = .ok (.iload_n 1, 1) := by decide +kernel
theorem dJ2_getChar_3b067_48 : decode cJ2_getChar_3b067 48 = .ok (.baload, 1) := by decide +kernel
theorem dJ2_getChar_3b067_49 : decode cJ2_getChar_3b067 49 = .ok (.sipush 255, 3) := by decide +kernel
theorem dJ2_getChar_3b067_52 : decode cJ2_getChar_3b067 52 = .ok (.iand, 1) := by decide +kernel
theorem dJ2_getChar_3b067_53 : decode cJ2_getChar_3b067 53 = .ok (.getstatic 63, 3) := by decide +kernel
theorem dJ2_getChar_3b067_56 : decode cJ2_getChar_3b067 56 = .ok (.ishl, 1) := by decide +kernel
theorem dJ2_getChar_3b067_57 : decode cJ2_getChar_3b067 57 = .ok (.ior, 1) := by decide +kernel
theorem dJ2_getChar_3b067_58 : decode cJ2_getChar_3b067 58 = .ok (.i2c, 1) := by decide +kernel
theorem dJ2_getChar_3b067_59 : decode cJ2_getChar_3b067 59 = .ok (.ireturn, 1) := by decide +kernel
theorem dJ2_length_9d52b_0 : decode cJ2_length_9d52b 0 = .ok (.aload_n 0, 1) := by decide +kernel
theorem dJ2_length_9d52b_1 : decode cJ2_length_9d52b 1 = .ok (.arraylength, 1) := by decide +kernel
theorem dJ2_length_9d52b_2 : decode cJ2_length_9d52b 2 = .ok (.iconst 1, 1) := by decide +kernel
theorem dJ2_length_9d52b_3 : decode cJ2_length_9d52b 3 = .ok (.ishr, 1) := by decide +kernel
theorem dJ2_length_9d52b_4 : decode cJ2_length_9d52b 4 = .ok (.ireturn, 1) := by decide +kernel
theorem dJ2_charAt_3b067_0 : decode cJ2_charAt_3b067 0 = .ok (.iload_n 1, 1) := by decide +kernel
theorem dJ2_charAt_3b067_1 : decode cJ2_charAt_3b067 1 = .ok (.aload_n 0, 1) := by decide +kernel
theorem dJ2_charAt_3b067_2 : decode cJ2_charAt_3b067 2 = .ok (.invokestatic 67, 3) := by decide +kernel
theorem dJ2_charAt_3b067_5 : decode cJ2_charAt_3b067 5 = .ok (.aload_n 0, 1) := by decide +kernel
theorem dJ2_charAt_3b067_6 : decode cJ2_charAt_3b067 6 = .ok (.iload_n 1, 1) := by decide +kernel
theorem dJ2_charAt_3b067_7 : decode cJ2_charAt_3b067 7 = .ok (.invokestatic 71, 3) := by decide +kernel
theorem dJ2_charAt_3b067_10 : decode cJ2_charAt_3b067 10 = .ok (.ireturn, 1) := by decide +kernel
theorem dJ2_checkIndex_2214a_0 : decode cJ2_checkIndex_2214a 0 = .ok (.iload_n 0, 1) := by decide +kernel
theorem dJ2_checkIndex_2214a_1 : decode cJ2_checkIndex_2214a 1 = .ok (.aload_n 1, 1) := by decide +kernel
theorem dJ2_checkIndex_2214a_2 : decode cJ2_checkIndex_2214a 2 = .ok (.invokestatic 48, 3) := by decide +kernel
theorem dJ2_checkIndex_2214a_5 : decode cJ2_checkIndex_2214a 5 = .ok (.invokestatic 414, 3) := by decide +kernel
theorem dJ2_checkIndex_2214a_8 : decode cJ2_checkIndex_2214a 8 = .ok (.return_, 1) := by decide +kernel
theorem dJ7_fill_53178_0 : decode cJ7_fill_53178 0 = .ok (.iconst 0, 1) := by decide +kernel
theorem dJ7_fill_53178_1 : decode cJ7_fill_53178 1 = .ok (.istore_n 2, 1) := by decide +kernel
theorem dJ7_fill_53178_2 : decode cJ7_fill_53178 2 = .ok (.aload_n 0, 1) := by decide +kernel
theorem dJ7_fill_53178_3 : decode cJ7_fill_53178 3 = .ok (.arraylength, 1) := by decide +kernel
theorem dJ7_fill_53178_4 : decode cJ7_fill_53178 4 = .ok (.istore_n 3, 1) := by decide +kernel
theorem dJ7_fill_53178_5 : decode cJ7_fill_53178 5 = .ok (.iload_n 2, 1) := by decide +kernel
theorem dJ7_fill_53178_6 : decode cJ7_fill_53178 6 = .ok (.iload_n 3, 1) := by decide +kernel
theorem dJ7_fill_53178_7 : decode cJ7_fill_53178 7 = .ok (.if_icmp .ge 13, 3) := by decide +kernel
theorem dJ7_fill_53178_10 : decode cJ7_fill_53178 10 = .ok (.aload_n 0, 1) := by decide +kernel
theorem dJ7_fill_53178_11 : decode cJ7_fill_53178 11 = .ok (.iload_n 2, 1) := by decide +kernel
theorem dJ7_fill_53178_12 : decode cJ7_fill_53178 12 = .ok (.iload_n 1, 1) := by decide +kernel
theorem dJ7_fill_53178_13 : decode cJ7_fill_53178 13 = .ok (.iastore, 1) := by decide +kernel
theorem dJ7_fill_53178_14 : decode cJ7_fill_53178 14 = .ok (.iinc 2 1, 3) := by decide +kernel
theorem dJ7_fill_53178_17 : decode cJ7_fill_53178 17 = .ok (.goto (-12), 3) := by decide +kernel
theorem dJ7_fill_53178_20 : decode cJ7_fill_53178 20 = .ok (.return_, 1) := by decide +kernel
theorem dJ3_checkIndex_8e157_0 : decode cJ3_checkIndex_8e157 0 = .ok (.iload_n 0, 1) := by decide +kernel
theorem dJ3_checkIndex_8e157_1 : decode cJ3_checkIndex_8e157 1 = .ok (.ifCond .lt 8, 3) := by decide +kernel
theorem dJ3_checkIndex_8e157_4 : decode cJ3_checkIndex_8e157 4 = .ok (.iload_n 0, 1) := by decide +kernel
theorem dJ3_checkIndex_8e157_5 : decode cJ3_checkIndex_8e157 5 = .ok (.iload_n 1, 1) := by decide +kernel
theorem dJ3_checkIndex_8e157_6 : decode cJ3_checkIndex_8e157 6 = .ok (.if_icmp .lt 10, 3) := by decide +kernel
theorem dJ3_checkIndex_8e157_9 : decode cJ3_checkIndex_8e157 9 = .ok (.aload_n 2, 1) := by decide +kernel
theorem dJ3_checkIndex_8e157_10 : decode cJ3_checkIndex_8e157 10 = .ok (.iload_n 0, 1) := by decide +kernel
theorem dJ3_checkIndex_8e157_11 : decode cJ3_checkIndex_8e157 11 = .ok (.iload_n 1, 1) := by decide +kernel
theorem dJ3_checkIndex_8e157_12 : decode cJ3_checkIndex_8e157 12 = .ok (.invokestatic 95, 3) := by decide +kernel
theorem dJ3_checkIndex_8e157_15 : decode cJ3_checkIndex_8e157 15 = .ok (.athrow, 1) := by decide +kernel
theorem dJ3_checkIndex_8e157_16 : decode cJ3_checkIndex_8e157 16 = .ok (.iload_n 0, 1) := by decide +kernel
theorem dJ3_checkIndex_8e157_17 : decode cJ3_checkIndex_8e157 17 = .ok (.ireturn, 1) := by decide +kernel
