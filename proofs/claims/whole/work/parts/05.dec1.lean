theorem dX0_init_0 : decode cX0_init 0 = .ok (.aload_n 0, 1) := by decide +kernel
theorem dX0_init_1 : decode cX0_init 1 = .ok (.invokespecial 3, 3) := by decide +kernel
theorem dX0_init_4 : decode cX0_init 4 = .ok (.aload_n 0, 1) := by decide +kernel
theorem dX0_init_5 : decode cX0_init 5 = .ok (.bipush 8, 2) := by decide +kernel
theorem dX0_init_7 : decode cX0_init 7 = .ok (.anewarray 9, 3) := by decide +kernel
theorem dX0_init_10 : decode cX0_init 10 = .ok (.putfield 11, 3) := by decide +kernel
theorem dX0_init_13 : decode cX0_init 13 = .ok (.iconst 0, 1) := by decide +kernel
theorem dX0_init_14 : decode cX0_init 14 = .ok (.istore_n 1, 1) := by decide +kernel
theorem dX0_init_15 : decode cX0_init 15 = .ok (.iload_n 1, 1) := by decide +kernel
theorem dX0_init_16 : decode cX0_init 16 = .ok (.bipush 8, 2) := by decide +kernel
theorem dX0_init_18 : decode cX0_init 18 = .ok (.if_icmp .ge 22, 3) := by decide +kernel
theorem dX0_init_21 : decode cX0_init 21 = .ok (.aload_n 0, 1) := by decide +kernel
theorem dX0_init_22 : decode cX0_init 22 = .ok (.getfield 11, 3) := by decide +kernel
theorem dX0_init_25 : decode cX0_init 25 = .ok (.iload_n 1, 1) := by decide +kernel
theorem dX0_init_26 : decode cX0_init 26 = .ok (.new 9, 3) := by decide +kernel
theorem dX0_init_29 : decode cX0_init 29 = .ok (.dup, 1) := by decide +kernel
theorem dX0_init_30 : decode cX0_init 30 = .ok (.invokespecial 17, 3) := by decide +kernel
theorem dX0_init_33 : decode cX0_init 33 = .ok (.aastore, 1) := by decide +kernel
theorem dX0_init_34 : decode cX0_init 34 = .ok (.iinc 1 1, 3) := by decide +kernel
theorem dX0_init_37 : decode cX0_init 37 = .ok (.goto (-22), 3) := by decide +kernel
theorem dX0_init_40 : decode cX0_init 40 = .ok (.return_, 1) := by decide +kernel
theorem dX0_keep_0 : decode cX0_keep 0 = .ok (.aload_n 0, 1) := by decide +kernel
theorem dX0_keep_1 : decode cX0_keep 1 = .ok (.getfield 18, 3) := by decide +kernel
theorem dX0_keep_4 : decode cX0_keep 4 = .ok (.bipush 8, 2) := by decide +kernel
theorem dX0_keep_6 : decode cX0_keep 6 = .ok (.if_icmp .ne 7, 3) := by decide +kernel
theorem dX0_keep_9 : decode cX0_keep 9 = .ok (.aload_n 0, 1) := by decide +kernel
theorem dX0_keep_10 : decode cX0_keep 10 = .ok (.invokevirtual 22, 3) := by decide +kernel
theorem dX0_keep_13 : decode cX0_keep 13 = .ok (.aload_n 0, 1) := by decide +kernel
theorem dX0_keep_14 : decode cX0_keep 14 = .ok (.getfield 11, 3) := by decide +kernel
theorem dX0_keep_17 : decode cX0_keep 17 = .ok (.aload_n 0, 1) := by decide +kernel
theorem dX0_keep_18 : decode cX0_keep 18 = .ok (.getfield 18, 3) := by decide +kernel
theorem dX0_keep_21 : decode cX0_keep 21 = .ok (.aaload, 1) := by decide +kernel
theorem dX0_keep_22 : decode cX0_keep 22 = .ok (.aload_n 1, 1) := by decide +kernel
theorem dX0_keep_23 : decode cX0_keep 23 = .ok (.invokevirtual 25, 3) := by decide +kernel
theorem dX0_keep_26 : decode cX0_keep 26 = .ok (.aload_n 0, 1) := by decide +kernel
theorem dX0_keep_27 : decode cX0_keep 27 = .ok (.dup, 1) := by decide +kernel
theorem dX0_keep_28 : decode cX0_keep 28 = .ok (.getfield 18, 3) := by decide +kernel
theorem dX0_keep_31 : decode cX0_keep 31 = .ok (.iconst 1, 1) := by decide +kernel
theorem dX0_keep_32 : decode cX0_keep 32 = .ok (.iadd, 1) := by decide +kernel
theorem dX0_keep_33 : decode cX0_keep 33 = .ok (.putfield 18, 3) := by decide +kernel
theorem dX0_keep_36 : decode cX0_keep 36 = .ok (.return_, 1) := by decide +kernel
theorem dX0_dropOldest_0 : decode cX0_dropOldest 0 = .ok (.aload_n 0, 1) := by decide +kernel
theorem dX0_dropOldest_1 : decode cX0_dropOldest 1 = .ok (.getfield 11, 3) := by decide +kernel
theorem dX0_dropOldest_4 : decode cX0_dropOldest 4 = .ok (.iconst 0, 1) := by decide +kernel
theorem dX0_dropOldest_5 : decode cX0_dropOldest 5 = .ok (.aaload, 1) := by decide +kernel
theorem dX0_dropOldest_6 : decode cX0_dropOldest 6 = .ok (.astore_n 1, 1) := by decide +kernel
theorem dX0_dropOldest_7 : decode cX0_dropOldest 7 = .ok (.iconst 1, 1) := by decide +kernel
theorem dX0_dropOldest_8 : decode cX0_dropOldest 8 = .ok (.istore_n 2, 1) := by decide +kernel
theorem dX0_dropOldest_9 : decode cX0_dropOldest 9 = .ok (.iload_n 2, 1) := by decide +kernel
theorem dX0_dropOldest_10 : decode cX0_dropOldest 10 = .ok (.bipush 8, 2) := by decide +kernel
theorem dX0_dropOldest_12 : decode cX0_dropOldest 12 = .ok (.if_icmp .ge 23, 3) := by decide +kernel
theorem dX0_dropOldest_15 : decode cX0_dropOldest 15 = .ok (.aload_n 0, 1) := by decide +kernel
theorem dX0_dropOldest_16 : decode cX0_dropOldest 16 = .ok (.getfield 11, 3) := by decide +kernel
theorem dX0_dropOldest_19 : decode cX0_dropOldest 19 = .ok (.iload_n 2, 1) := by decide +kernel
theorem dX0_dropOldest_20 : decode cX0_dropOldest 20 = .ok (.iconst 1, 1) := by decide +kernel
theorem dX0_dropOldest_21 : decode cX0_dropOldest 21 = .ok (.isub, 1) := by decide +kernel
theorem dX0_dropOldest_22 : decode cX0_dropOldest 22 = .ok (.aload_n 0, 1) := by decide +kernel
theorem dX0_dropOldest_23 : decode cX0_dropOldest 23 = .ok (.getfield 11, 3) := by decide +kernel
theorem dX0_dropOldest_26 : decode cX0_dropOldest 26 = .ok (.iload_n 2, 1) := by decide +kernel
theorem dX0_dropOldest_27 : decode cX0_dropOldest 27 = .ok (.aaload, 1) := by decide +kernel
theorem dX0_dropOldest_28 : decode cX0_dropOldest 28 = .ok (.aastore, 1) := by decide +kernel
theorem dX0_dropOldest_29 : decode cX0_dropOldest 29 = .ok (.iinc 2 1, 3) := by decide +kernel
theorem dX0_dropOldest_32 : decode cX0_dropOldest 32 = .ok (.goto (-23), 3) := by decide +kernel
theorem dX0_dropOldest_35 : decode cX0_dropOldest 35 = .ok (.aload_n 0, 1) := by decide +kernel
theorem dX0_dropOldest_36 : decode cX0_dropOldest 36 = .ok (.getfield 11, 3) := by decide +kernel
theorem dX0_dropOldest_39 : decode cX0_dropOldest 39 = .ok (.bipush 7, 2) := by decide +kernel
theorem dX0_dropOldest_41 : decode cX0_dropOldest 41 = .ok (.aload_n 1, 1) := by decide +kernel
theorem dX0_dropOldest_42 : decode cX0_dropOldest 42 = .ok (.aastore, 1) := by decide +kernel
theorem dX0_dropOldest_43 : decode cX0_dropOldest 43 = .ok (.aload_n 0, 1) := by decide +kernel
theorem dX0_dropOldest_44 : decode cX0_dropOldest 44 = .ok (.dup, 1) := by decide +kernel
theorem dX0_dropOldest_45 : decode cX0_dropOldest 45 = .ok (.getfield 18, 3) := by decide +kernel
theorem dX0_dropOldest_48 : decode cX0_dropOldest 48 = .ok (.iconst 1, 1) := by decide +kernel
theorem dX0_dropOldest_49 : decode cX0_dropOldest 49 = .ok (.isub, 1) := by decide +kernel
theorem dX0_dropOldest_50 : decode cX0_dropOldest 50 = .ok (.putfield 18, 3) := by decide +kernel
theorem dX0_dropOldest_53 : decode cX0_dropOldest 53 = .ok (.return_, 1) := by decide +kernel
theorem dX0_bringBack_0 : decode cX0_bringBack 0 = .ok (.aload_n 0, 1) := by decide +kernel
theorem dX0_bringBack_1 : decode cX0_bringBack 1 = .ok (.getfield 18, 3) := by decide +kernel
theorem dX0_bringBack_4 : decode cX0_bringBack 4 = .ok (.ifCond .le 26, 3) := by decide +kernel
theorem dX0_bringBack_7 : decode cX0_bringBack 7 = .ok (.aload_n 0, 1) := by decide +kernel
theorem dX0_bringBack_8 : decode cX0_bringBack 8 = .ok (.dup, 1) := by decide +kernel
theorem dX0_bringBack_9 : decode cX0_bringBack 9 = .ok (.getfield 18, 3) := by decide +kernel
theorem dX0_bringBack_12 : decode cX0_bringBack 12 = .ok (.iconst 1, 1) := by decide +kernel
theorem dX0_bringBack_13 : decode cX0_bringBack 13 = .ok (.isub, 1) := by decide +kernel
theorem dX0_bringBack_14 : decode cX0_bringBack 14 = .ok (.putfield 18, 3) := by decide +kernel
theorem dX0_bringBack_17 : decode cX0_bringBack 17 = .ok (.aload_n 1, 1) := by decide +kernel
theorem dX0_bringBack_18 : decode cX0_bringBack 18 = .ok (.aload_n 0, 1) := by decide +kernel
theorem dX0_bringBack_19 : decode cX0_bringBack 19 = .ok (.getfield 11, 3) := by decide +kernel
theorem dX0_bringBack_22 : decode cX0_bringBack 22 = .ok (.aload_n 0, 1) := by decide +kernel
theorem dX0_bringBack_23 : decode cX0_bringBack 23 = .ok (.getfield 18, 3) := by decide +kernel
theorem dX0_bringBack_26 : decode cX0_bringBack 26 = .ok (.aaload, 1) := by decide +kernel
theorem dX0_bringBack_27 : decode cX0_bringBack 27 = .ok (.invokevirtual 25, 3) := by decide +kernel
theorem dX0_bringBack_30 : decode cX0_bringBack 30 = .ok (.return_, 1) := by decide +kernel
theorem dX1_init_0 : decode cX1_init 0 = .ok (.aload_n 0, 1) := by decide +kernel
theorem dX1_init_1 : decode cX1_init 1 = .ok (.invokespecial 3, 3) := by decide +kernel
theorem dX1_init_4 : decode cX1_init 4 = .ok (.aload_n 0, 1) := by decide +kernel
theorem dX1_init_5 : decode cX1_init 5 = .ok (.new 9, 3) := by decide +kernel
theorem dX1_init_8 : decode cX1_init 8 = .ok (.dup, 1) := by decide +kernel
theorem dX1_init_9 : decode cX1_init 9 = .ok (.invokespecial 11, 3) := by decide +kernel
theorem dX1_init_12 : decode cX1_init 12 = .ok (.putfield 12, 3) := by decide +kernel
theorem dX1_init_15 : decode cX1_init 15 = .ok (.aload_n 0, 1) := by decide +kernel
theorem dX1_init_16 : decode cX1_init 16 = .ok (.new 9, 3) := by decide +kernel
theorem dX1_init_19 : decode cX1_init 19 = .ok (.dup, 1) := by decide +kernel
theorem dX1_init_20 : decode cX1_init 20 = .ok (.invokespecial 11, 3) := by decide +kernel
theorem dX1_init_23 : decode cX1_init 23 = .ok (.putfield 18, 3) := by decide +kernel
theorem dX1_init_26 : decode cX1_init 26 = .ok (.aload_n 0, 1) := by decide +kernel
theorem dX1_init_27 : decode cX1_init 27 = .ok (.new 21, 3) := by decide +kernel
theorem dX1_init_30 : decode cX1_init 30 = .ok (.dup, 1) := by decide +kernel
theorem dX1_init_31 : decode cX1_init 31 = .ok (.invokespecial 23, 3) := by decide +kernel
theorem dX1_init_34 : decode cX1_init 34 = .ok (.putfield 24, 3) := by decide +kernel
theorem dX1_init_37 : decode cX1_init 37 = .ok (.aload_n 0, 1) := by decide +kernel
theorem dX1_init_38 : decode cX1_init 38 = .ok (.new 28, 3) := by decide +kernel
theorem dX1_init_41 : decode cX1_init 41 = .ok (.dup, 1) := by decide +kernel
theorem dX1_init_42 : decode cX1_init 42 = .ok (.invokespecial 30, 3) := by decide +kernel
theorem dX1_init_45 : decode cX1_init 45 = .ok (.putfield 31, 3) := by decide +kernel
theorem dX1_init_48 : decode cX1_init 48 = .ok (.aload_n 0, 1) := by decide +kernel
theorem dX1_init_49 : decode cX1_init 49 = .ok (.sipush 384, 3) := by decide +kernel
theorem dX1_init_52 : decode cX1_init 52 = .ok (.newarray .int, 2) := by decide +kernel
theorem dX1_init_54 : decode cX1_init 54 = .ok (.putfield 35, 3) := by decide +kernel
theorem dX1_init_57 : decode cX1_init 57 = .ok (.aload_n 0, 1) := by decide +kernel
theorem dX1_init_58 : decode cX1_init 58 = .ok (.sipush 384, 3) := by decide +kernel
theorem dX1_init_61 : decode cX1_init 61 = .ok (.newarray .int, 2) := by decide +kernel
theorem dX1_init_63 : decode cX1_init 63 = .ok (.putfield 39, 3) := by decide +kernel
theorem dX1_init_66 : decode cX1_init 66 = .ok (.aload_n 0, 1) := by decide +kernel
theorem dX1_init_67 : decode cX1_init 67 = .ok (.sipush 1536, 3) := by decide +kernel
theorem dX1_init_70 : decode cX1_init 70 = .ok (.newarray .int, 2) := by decide +kernel
theorem dX1_init_72 : decode cX1_init 72 = .ok (.putfield 42, 3) := by decide +kernel
theorem dX1_init_75 : decode cX1_init 75 = .ok (.return_, 1) := by decide +kernel
theorem dX1_forget_0 : decode cX1_forget 0 = .ok (.aload_n 0, 1) := by decide +kernel
theorem dX1_forget_1 : decode cX1_forget 1 = .ok (.iconst 0, 1) := by decide +kernel
theorem dX1_forget_2 : decode cX1_forget 2 = .ok (.putfield 45, 3) := by decide +kernel
theorem dX1_forget_5 : decode cX1_forget 5 = .ok (.aload_n 0, 1) := by decide +kernel
theorem dX1_forget_6 : decode cX1_forget 6 = .ok (.iconst 0, 1) := by decide +kernel
theorem dX1_forget_7 : decode cX1_forget 7 = .ok (.putfield 49, 3) := by decide +kernel
theorem dX1_forget_10 : decode cX1_forget 10 = .ok (.return_, 1) := by decide +kernel
theorem dX1_forgetEvened_0 : decode cX1_forgetEvened 0 = .ok (.aload_n 0, 1) := by decide +kernel
theorem dX1_forgetEvened_1 : decode cX1_forgetEvened 1 = .ok (.iconst 0, 1) := by decide +kernel
theorem dX1_forgetEvened_2 : decode cX1_forgetEvened 2 = .ok (.putfield 49, 3) := by decide +kernel
theorem dX1_forgetEvened_5 : decode cX1_forgetEvened 5 = .ok (.return_, 1) := by decide +kernel
theorem dX1_look_0 : decode cX1_look 0 = .ok (.aload_n 0, 1) := by decide +kernel
theorem dX1_look_1 : decode cX1_look 1 = .ok (.getfield 45, 3) := by decide +kernel
theorem dX1_look_4 : decode cX1_look 4 = .ok (.ifCond .eq 4, 3) := by decide +kernel
theorem dX1_look_7 : decode cX1_look 7 = .ok (.return_, 1) := by decide +kernel
theorem dX1_look_8 : decode cX1_look 8 = .ok (.aload_n 0, 1) := by decide +kernel
theorem dX1_look_9 : decode cX1_look 9 = .ok (.getfield 12, 3) := by decide +kernel
theorem dX1_look_12 : decode cX1_look 12 = .ok (.aload_n 1, 1) := by decide +kernel
theorem dX1_look_13 : decode cX1_look 13 = .ok (.getfield 52, 3) := by decide +kernel
theorem dX1_look_16 : decode cX1_look 16 = .ok (.aload_n 1, 1) := by decide +kernel
theorem dX1_look_17 : decode cX1_look 17 = .ok (.getfield 55, 3) := by decide +kernel
theorem dX1_look_20 : decode cX1_look 20 = .ok (.aload_n 1, 1) := by decide +kernel
theorem dX1_look_21 : decode cX1_look 21 = .ok (.invokevirtual 59, 3) := by decide +kernel
theorem dX1_look_24 : decode cX1_look 24 = .ok (.invokevirtual 63, 3) := by decide +kernel
theorem dX1_look_27 : decode cX1_look 27 = .ok (.aload_n 0, 1) := by decide +kernel
theorem dX1_look_28 : decode cX1_look 28 = .ok (.getfield 24, 3) := by decide +kernel
theorem dX1_look_31 : decode cX1_look 31 = .ok (.aload_n 1, 1) := by decide +kernel
theorem dX1_look_32 : decode cX1_look 32 = .ok (.aload_n 0, 1) := by decide +kernel
theorem dX1_look_33 : decode cX1_look 33 = .ok (.getfield 12, 3) := by decide +kernel
theorem dX1_look_36 : decode cX1_look 36 = .ok (.invokevirtual 67, 3) := by decide +kernel
theorem dX1_look_39 : decode cX1_look 39 = .ok (.aload_n 0, 1) := by decide +kernel
theorem dX1_look_40 : decode cX1_look 40 = .ok (.iconst 1, 1) := by decide +kernel
theorem dX1_look_41 : decode cX1_look 41 = .ok (.putfield 45, 3) := by decide +kernel
theorem dX1_look_44 : decode cX1_look 44 = .ok (.return_, 1) := by decide +kernel
theorem dX1_even_0 : decode cX1_even 0 = .ok (.aload_n 0, 1) := by decide +kernel
theorem dX1_even_1 : decode cX1_even 1 = .ok (.aload_n 1, 1) := by decide +kernel
theorem dX1_even_2 : decode cX1_even 2 = .ok (.invokevirtual 71, 3) := by decide +kernel
theorem dX1_even_5 : decode cX1_even 5 = .ok (.aload_n 0, 1) := by decide +kernel
theorem dX1_even_6 : decode cX1_even 6 = .ok (.getfield 49, 3) := by decide +kernel
theorem dX1_even_9 : decode cX1_even 9 = .ok (.ifCond .eq 4, 3) := by decide +kernel
theorem dX1_even_12 : decode cX1_even 12 = .ok (.return_, 1) := by decide +kernel
theorem dX1_even_13 : decode cX1_even 13 = .ok (.aload_n 0, 1) := by decide +kernel
theorem dX1_even_14 : decode cX1_even 14 = .ok (.aload_n 1, 1) := by decide +kernel
theorem dX1_even_15 : decode cX1_even 15 = .ok (.invokevirtual 75, 3) := by decide +kernel
theorem dX1_even_18 : decode cX1_even 18 = .ok (.iconst 0, 1) := by decide +kernel
theorem dX1_even_19 : decode cX1_even 19 = .ok (.istore_n 2, 1) := by decide +kernel
theorem dX1_even_20 : decode cX1_even 20 = .ok (.iload_n 2, 1) := by decide +kernel
theorem dX1_even_21 : decode cX1_even 21 = .ok (.aload_n 1, 1) := by decide +kernel
theorem dX1_even_22 : decode cX1_even 22 = .ok (.getfield 55, 3) := by decide +kernel
theorem dX1_even_25 : decode cX1_even 25 = .ok (.if_icmp .ge 40, 3) := by decide +kernel
theorem dX1_even_28 : decode cX1_even 28 = .ok (.aload_n 0, 1) := by decide +kernel
theorem dX1_even_29 : decode cX1_even 29 = .ok (.aload_n 1, 1) := by decide +kernel
theorem dX1_even_30 : decode cX1_even 30 = .ok (.iload_n 2, 1) := by decide +kernel
theorem dX1_even_31 : decode cX1_even 31 = .ok (.invokevirtual 78, 3) := by decide +kernel
theorem dX1_even_34 : decode cX1_even 34 = .ok (.aload_n 1, 1) := by decide +kernel
theorem dX1_even_35 : decode cX1_even 35 = .ok (.getfield 82, 3) := by decide +kernel
theorem dX1_even_38 : decode cX1_even 38 = .ok (.iconst 5, 1) := by decide +kernel
theorem dX1_even_39 : decode cX1_even 39 = .ok (.iaload, 1) := by decide +kernel
theorem dX1_even_40 : decode cX1_even 40 = .ok (.iconst 1, 1) := by decide +kernel
theorem dX1_even_41 : decode cX1_even 41 = .ok (.if_icmp .ne 12, 3) := by decide +kernel
theorem dX1_even_44 : decode cX1_even 44 = .ok (.aload_n 0, 1) := by decide +kernel
theorem dX1_even_45 : decode cX1_even 45 = .ok (.aload_n 1, 1) := by decide +kernel
theorem dX1_even_46 : decode cX1_even 46 = .ok (.iload_n 2, 1) := by decide +kernel
theorem dX1_even_47 : decode cX1_even 47 = .ok (.invokevirtual 85, 3) := by decide +kernel
theorem dX1_even_50 : decode cX1_even 50 = .ok (.goto 9, 3) := by decide +kernel
theorem dX1_even_53 : decode cX1_even 53 = .ok (.aload_n 0, 1) := by decide +kernel
theorem dX1_even_54 : decode cX1_even 54 = .ok (.aload_n 1, 1) := by decide +kernel
theorem dX1_even_55 : decode cX1_even 55 = .ok (.iload_n 2, 1) := by decide +kernel
theorem dX1_even_56 : decode cX1_even 56 = .ok (.invokevirtual 88, 3) := by decide +kernel
theorem dX1_even_59 : decode cX1_even 59 = .ok (.iinc 2 1, 3) := by decide +kernel
theorem dX1_even_62 : decode cX1_even 62 = .ok (.goto (-42), 3) := by decide +kernel
theorem dX1_even_65 : decode cX1_even 65 = .ok (.aload_n 0, 1) := by decide +kernel
theorem dX1_even_66 : decode cX1_even 66 = .ok (.getfield 18, 3) := by decide +kernel
theorem dX1_even_69 : decode cX1_even 69 = .ok (.aload_n 0, 1) := by decide +kernel
theorem dX1_even_70 : decode cX1_even 70 = .ok (.getfield 42, 3) := by decide +kernel
theorem dX1_even_73 : decode cX1_even 73 = .ok (.aload_n 1, 1) := by decide +kernel
theorem dX1_even_74 : decode cX1_even 74 = .ok (.getfield 55, 3) := by decide +kernel
theorem dX1_even_77 : decode cX1_even 77 = .ok (.aload_n 1, 1) := by decide +kernel
theorem dX1_even_78 : decode cX1_even 78 = .ok (.invokevirtual 59, 3) := by decide +kernel
theorem dX1_even_81 : decode cX1_even 81 = .ok (.invokevirtual 63, 3) := by decide +kernel
theorem dX1_even_84 : decode cX1_even 84 = .ok (.aload_n 0, 1) := by decide +kernel
theorem dX1_even_85 : decode cX1_even 85 = .ok (.iconst 1, 1) := by decide +kernel
theorem dX1_even_86 : decode cX1_even 86 = .ok (.putfield 49, 3) := by decide +kernel
theorem dX1_even_89 : decode cX1_even 89 = .ok (.return_, 1) := by decide +kernel
theorem dX1_aim_0 : decode cX1_aim 0 = .ok (.aload_n 1, 1) := by decide +kernel
theorem dX1_aim_1 : decode cX1_aim 1 = .ok (.getfield 82, 3) := by decide +kernel
theorem dX1_aim_4 : decode cX1_aim 4 = .ok (.iconst 5, 1) := by decide +kernel
theorem dX1_aim_5 : decode cX1_aim 5 = .ok (.iaload, 1) := by decide +kernel
theorem dX1_aim_6 : decode cX1_aim 6 = .ok (.iconst 2, 1) := by decide +kernel
theorem dX1_aim_7 : decode cX1_aim 7 = .ok (.if_icmp .ne 28, 3) := by decide +kernel
theorem dX1_aim_10 : decode cX1_aim 10 = .ok (.iconst 0, 1) := by decide +kernel
theorem dX1_aim_11 : decode cX1_aim 11 = .ok (.istore_n 2, 1) := by decide +kernel
theorem dX1_aim_12 : decode cX1_aim 12 = .ok (.iload_n 2, 1) := by decide +kernel
theorem dX1_aim_13 : decode cX1_aim 13 = .ok (.aload_n 0, 1) := by decide +kernel
theorem dX1_aim_14 : decode cX1_aim 14 = .ok (.getfield 24, 3) := by decide +kernel
theorem dX1_aim_17 : decode cX1_aim 17 = .ok (.getfield 91, 3) := by decide +kernel
theorem dX1_aim_20 : decode cX1_aim 20 = .ok (.if_icmp .ge 14, 3) := by decide +kernel
theorem dX1_aim_23 : decode cX1_aim 23 = .ok (.aload_n 0, 1) := by decide +kernel
theorem dX1_aim_24 : decode cX1_aim 24 = .ok (.iload_n 2, 1) := by decide +kernel
theorem dX1_aim_25 : decode cX1_aim 25 = .ok (.invokevirtual 94, 3) := by decide +kernel
theorem dX1_aim_28 : decode cX1_aim 28 = .ok (.iinc 2 1, 3) := by decide +kernel
theorem dX1_aim_31 : decode cX1_aim 31 = .ok (.goto (-19), 3) := by decide +kernel
theorem dX1_aim_34 : decode cX1_aim 34 = .ok (.return_, 1) := by decide +kernel
theorem dX1_aim_35 : decode cX1_aim 35 = .ok (.iconst 0, 1) := by decide +kernel
theorem dX1_aim_36 : decode cX1_aim 36 = .ok (.istore_n 2, 1) := by decide +kernel
theorem dX1_aim_37 : decode cX1_aim 37 = .ok (.iload_n 2, 1) := by decide +kernel
theorem dX1_aim_38 : decode cX1_aim 38 = .ok (.aload_n 1, 1) := by decide +kernel
theorem dX1_aim_39 : decode cX1_aim 39 = .ok (.getfield 55, 3) := by decide +kernel
theorem dX1_aim_42 : decode cX1_aim 42 = .ok (.if_icmp .ge 15, 3) := by decide +kernel
theorem dX1_aim_45 : decode cX1_aim 45 = .ok (.aload_n 0, 1) := by decide +kernel
theorem dX1_aim_46 : decode cX1_aim 46 = .ok (.aload_n 1, 1) := by decide +kernel
theorem dX1_aim_47 : decode cX1_aim 47 = .ok (.iload_n 2, 1) := by decide +kernel
theorem dX1_aim_48 : decode cX1_aim 48 = .ok (.invokevirtual 98, 3) := by decide +kernel
theorem dX1_aim_51 : decode cX1_aim 51 = .ok (.iinc 2 1, 3) := by decide +kernel
theorem dX1_aim_54 : decode cX1_aim 54 = .ok (.goto (-17), 3) := by decide +kernel
theorem dX1_aim_57 : decode cX1_aim 57 = .ok (.return_, 1) := by decide +kernel
theorem dX1_aimByKey_0 : decode cX1_aimByKey 0 = .ok (.aload_n 0, 1) := by decide +kernel
theorem dX1_aimByKey_1 : decode cX1_aimByKey 1 = .ok (.getfield 24, 3) := by decide +kernel
theorem dX1_aimByKey_4 : decode cX1_aimByKey 4 = .ok (.iload_n 1, 1) := by decide +kernel
theorem dX1_aimByKey_5 : decode cX1_aimByKey 5 = .ok (.aload_n 0, 1) := by decide +kernel
theorem dX1_aimByKey_6 : decode cX1_aimByKey 6 = .ok (.getfield 12, 3) := by decide +kernel
theorem dX1_aimByKey_9 : decode cX1_aimByKey 9 = .ok (.invokevirtual 101, 3) := by decide +kernel
theorem dX1_aimByKey_12 : decode cX1_aimByKey 12 = .ok (.istore_n 2, 1) := by decide +kernel
theorem dX1_aimByKey_13 : decode cX1_aimByKey 13 = .ok (.aload_n 0, 1) := by decide +kernel
theorem dX1_aimByKey_14 : decode cX1_aimByKey 14 = .ok (.getfield 24, 3) := by decide +kernel
theorem dX1_aimByKey_17 : decode cX1_aimByKey 17 = .ok (.getfield 105, 3) := by decide +kernel
theorem dX1_aimByKey_20 : decode cX1_aimByKey 20 = .ok (.iload_n 1, 1) := by decide +kernel
theorem dX1_aimByKey_21 : decode cX1_aimByKey 21 = .ok (.iaload, 1) := by decide +kernel
theorem dX1_aimByKey_22 : decode cX1_aimByKey 22 = .ok (.istore_n 3, 1) := by decide +kernel
theorem dX1_aimByKey_23 : decode cX1_aimByKey 23 = .ok (.iload_n 3, 1) := by decide +kernel
theorem dX1_aimByKey_24 : decode cX1_aimByKey 24 = .ok (.aload_n 0, 1) := by decide +kernel
theorem dX1_aimByKey_25 : decode cX1_aimByKey 25 = .ok (.getfield 24, 3) := by decide +kernel
theorem dX1_aimByKey_28 : decode cX1_aimByKey 28 = .ok (.getfield 105, 3) := by decide +kernel
theorem dX1_aimByKey_31 : decode cX1_aimByKey 31 = .ok (.iload_n 1, 1) := by decide +kernel
theorem dX1_aimByKey_32 : decode cX1_aimByKey 32 = .ok (.iconst 1, 1) := by decide +kernel
theorem dX1_aimByKey_33 : decode cX1_aimByKey 33 = .ok (.iadd, 1) := by decide +kernel
theorem dX1_aimByKey_34 : decode cX1_aimByKey 34 = .ok (.iaload, 1) := by decide +kernel
theorem dX1_aimByKey_35 : decode cX1_aimByKey 35 = .ok (.if_icmp .ge 15, 3) := by decide +kernel
theorem dX1_aimByKey_38 : decode cX1_aimByKey 38 = .ok (.aload_n 0, 1) := by decide +kernel
theorem dX1_aimByKey_39 : decode cX1_aimByKey 39 = .ok (.iload_n 3, 1) := by decide +kernel
theorem dX1_aimByKey_40 : decode cX1_aimByKey 40 = .ok (.iload_n 2, 1) := by decide +kernel
theorem dX1_aimByKey_41 : decode cX1_aimByKey 41 = .ok (.invokevirtual 108, 3) := by decide +kernel
theorem dX1_aimByKey_44 : decode cX1_aimByKey 44 = .ok (.iinc 3 1, 3) := by decide +kernel
theorem dX1_aimByKey_47 : decode cX1_aimByKey 47 = .ok (.goto (-24), 3) := by decide +kernel
theorem dX1_aimByKey_50 : decode cX1_aimByKey 50 = .ok (.return_, 1) := by decide +kernel
theorem dX1_aimAt_0 : decode cX1_aimAt 0 = .ok (.aload_n 0, 1) := by decide +kernel
theorem dX1_aimAt_1 : decode cX1_aimAt 1 = .ok (.getfield 12, 3) := by decide +kernel
theorem dX1_aimAt_4 : decode cX1_aimAt 4 = .ok (.getfield 112, 3) := by decide +kernel
theorem dX1_aimAt_7 : decode cX1_aimAt 7 = .ok (.iload_n 2, 1) := by decide +kernel
theorem dX1_aimAt_8 : decode cX1_aimAt 8 = .ok (.bipush 16, 2) := by decide +kernel
theorem dX1_aimAt_10 : decode cX1_aimAt 10 = .ok (.imul, 1) := by decide +kernel
theorem dX1_aimAt_11 : decode cX1_aimAt 11 = .ok (.aload_n 0, 1) := by decide +kernel
theorem dX1_aimAt_12 : decode cX1_aimAt 12 = .ok (.getfield 35, 3) := by decide +kernel
theorem dX1_aimAt_15 : decode cX1_aimAt 15 = .ok (.iload_n 1, 1) := by decide +kernel
theorem dX1_aimAt_16 : decode cX1_aimAt 16 = .ok (.bipush 16, 2) := by decide +kernel
theorem dX1_aimAt_18 : decode cX1_aimAt 18 = .ok (.imul, 1) := by decide +kernel
theorem dX1_aimAt_19 : decode cX1_aimAt 19 = .ok (.bipush 16, 2) := by decide +kernel
theorem dX1_aimAt_21 : decode cX1_aimAt 21 = .ok (.invokestatic 115, 3) := by decide +kernel
theorem dX1_aimAt_24 : decode cX1_aimAt 24 = .ok (.return_, 1) := by decide +kernel
theorem dX1_aimByWindow_0 : decode cX1_aimByWindow 0 = .ok (.iload_n 2, 1) := by decide +kernel
theorem dX1_aimByWindow_1 : decode cX1_aimByWindow 1 = .ok (.bipush 16, 2) := by decide +kernel
theorem dX1_aimByWindow_3 : decode cX1_aimByWindow 3 = .ok (.imul, 1) := by decide +kernel
theorem dX1_aimByWindow_4 : decode cX1_aimByWindow 4 = .ok (.istore_n 3, 1) := by decide +kernel
theorem dX1_aimByWindow_5 : decode cX1_aimByWindow 5 = .ok (.iconst 0, 1) := by decide +kernel
theorem dX1_aimByWindow_6 : decode cX1_aimByWindow 6 = .ok (.istore 4, 2) := by decide +kernel
theorem dX1_aimByWindow_8 : decode cX1_aimByWindow 8 = .ok (.iconst 0, 1) := by decide +kernel
theorem dX1_aimByWindow_9 : decode cX1_aimByWindow 9 = .ok (.istore 5, 2) := by decide +kernel
theorem dX1_aimByWindow_11 : decode cX1_aimByWindow 11 = .ok (.iload 5, 2) := by decide +kernel
theorem dX1_aimByWindow_13 : decode cX1_aimByWindow 13 = .ok (.bipush 16, 2) := by decide +kernel
theorem dX1_aimByWindow_15 : decode cX1_aimByWindow 15 = .ok (.if_icmp .ge 19, 3) := by decide +kernel
theorem dX1_aimByWindow_18 : decode cX1_aimByWindow 18 = .ok (.aload_n 0, 1) := by decide +kernel
theorem dX1_aimByWindow_19 : decode cX1_aimByWindow 19 = .ok (.getfield 35, 3) := by decide +kernel
theorem dX1_aimByWindow_22 : decode cX1_aimByWindow 22 = .ok (.iload_n 3, 1) := by decide +kernel
theorem dX1_aimByWindow_23 : decode cX1_aimByWindow 23 = .ok (.iload 5, 2) := by decide +kernel
theorem dX1_aimByWindow_25 : decode cX1_aimByWindow 25 = .ok (.iadd, 1) := by decide +kernel
theorem dX1_aimByWindow_26 : decode cX1_aimByWindow 26 = .ok (.iconst 0, 1) := by decide +kernel
theorem dX1_aimByWindow_27 : decode cX1_aimByWindow 27 = .ok (.iastore, 1) := by decide +kernel
theorem dX1_aimByWindow_28 : decode cX1_aimByWindow 28 = .ok (.iinc 5 1, 3) := by decide +kernel
theorem dX1_aimByWindow_31 : decode cX1_aimByWindow 31 = .ok (.goto (-20), 3) := by decide +kernel
theorem dX1_aimByWindow_34 : decode cX1_aimByWindow 34 = .ok (.aload_n 0, 1) := by decide +kernel
theorem dX1_aimByWindow_35 : decode cX1_aimByWindow 35 = .ok (.aload_n 1, 1) := by decide +kernel
theorem dX1_aimByWindow_36 : decode cX1_aimByWindow 36 = .ok (.iload_n 2, 1) := by decide +kernel
theorem dX1_aimByWindow_37 : decode cX1_aimByWindow 37 = .ok (.invokevirtual 121, 3) := by decide +kernel
theorem dX1_aimByWindow_40 : decode cX1_aimByWindow 40 = .ok (.istore 5, 2) := by decide +kernel
theorem dX1_aimByWindow_42 : decode cX1_aimByWindow 42 = .ok (.iload 5, 2) := by decide +kernel
theorem dX1_aimByWindow_44 : decode cX1_aimByWindow 44 = .ok (.aload_n 0, 1) := by decide +kernel
theorem dX1_aimByWindow_45 : decode cX1_aimByWindow 45 = .ok (.aload_n 1, 1) := by decide +kernel
theorem dX1_aimByWindow_46 : decode cX1_aimByWindow 46 = .ok (.iload_n 2, 1) := by decide +kernel
theorem dX1_aimByWindow_47 : decode cX1_aimByWindow 47 = .ok (.invokevirtual 125, 3) := by decide +kernel
theorem dX1_aimByWindow_50 : decode cX1_aimByWindow 50 = .ok (.if_icmp .gt 52, 3) := by decide +kernel
theorem dX1_aimByWindow_53 : decode cX1_aimByWindow 53 = .ok (.aload_n 1, 1) := by decide +kernel
theorem dX1_aimByWindow_54 : decode cX1_aimByWindow 54 = .ok (.getfield 128, 3) := by decide +kernel
theorem dX1_aimByWindow_57 : decode cX1_aimByWindow 57 = .ok (.iload 5, 2) := by decide +kernel
theorem dX1_aimByWindow_59 : decode cX1_aimByWindow 59 = .ok (.iaload, 1) := by decide +kernel
theorem dX1_aimByWindow_60 : decode cX1_aimByWindow 60 = .ok (.ifCond .ne 36, 3) := by decide +kernel
theorem dX1_aimByWindow_63 : decode cX1_aimByWindow 63 = .ok (.aload_n 1, 1) := by decide +kernel
theorem dX1_aimByWindow_64 : decode cX1_aimByWindow 64 = .ok (.getfield 131, 3) := by decide +kernel
theorem dX1_aimByWindow_67 : decode cX1_aimByWindow 67 = .ok (.iload 5, 2) := by decide +kernel
theorem dX1_aimByWindow_69 : decode cX1_aimByWindow 69 = .ok (.iload_n 2, 1) := by decide +kernel
theorem dX1_aimByWindow_70 : decode cX1_aimByWindow 70 = .ok (.isub, 1) := by decide +kernel
theorem dX1_aimByWindow_71 : decode cX1_aimByWindow 71 = .ok (.invokestatic 134, 3) := by decide +kernel
theorem dX1_aimByWindow_74 : decode cX1_aimByWindow 74 = .ok (.iaload, 1) := by decide +kernel
theorem dX1_aimByWindow_75 : decode cX1_aimByWindow 75 = .ok (.istore 6, 2) := by decide +kernel
theorem dX1_aimByWindow_77 : decode cX1_aimByWindow 77 = .ok (.iload 4, 2) := by decide +kernel
theorem dX1_aimByWindow_79 : decode cX1_aimByWindow 79 = .ok (.iload 6, 2) := by decide +kernel
theorem dX1_aimByWindow_81 : decode cX1_aimByWindow 81 = .ok (.iadd, 1) := by decide +kernel
theorem dX1_aimByWindow_82 : decode cX1_aimByWindow 82 = .ok (.istore 4, 2) := by decide +kernel
theorem dX1_aimByWindow_84 : decode cX1_aimByWindow 84 = .ok (.aload_n 0, 1) := by decide +kernel
theorem dX1_aimByWindow_85 : decode cX1_aimByWindow 85 = .ok (.iload_n 3, 1) := by decide +kernel
theorem dX1_aimByWindow_86 : decode cX1_aimByWindow 86 = .ok (.iload 5, 2) := by decide +kernel
theorem dX1_aimByWindow_88 : decode cX1_aimByWindow 88 = .ok (.bipush 16, 2) := by decide +kernel
theorem dX1_aimByWindow_90 : decode cX1_aimByWindow 90 = .ok (.imul, 1) := by decide +kernel
theorem dX1_aimByWindow_91 : decode cX1_aimByWindow 91 = .ok (.iload 6, 2) := by decide +kernel
theorem dX1_aimByWindow_93 : decode cX1_aimByWindow 93 = .ok (.invokevirtual 140, 3) := by decide +kernel
theorem dX1_aimByWindow_96 : decode cX1_aimByWindow 96 = .ok (.iinc 5 1, 3) := by decide +kernel
theorem dX1_aimByWindow_99 : decode cX1_aimByWindow 99 = .ok (.goto (-57), 3) := by decide +kernel
theorem dX1_aimByWindow_102 : decode cX1_aimByWindow 102 = .ok (.iload 4, 2) := by decide +kernel
theorem dX1_aimByWindow_104 : decode cX1_aimByWindow 104 = .ok (.ifCond .ne 10, 3) := by decide +kernel
theorem dX1_aimByWindow_107 : decode cX1_aimByWindow 107 = .ok (.aload_n 0, 1) := by decide +kernel
theorem dX1_aimByWindow_108 : decode cX1_aimByWindow 108 = .ok (.iload_n 2, 1) := by decide +kernel
theorem dX1_aimByWindow_109 : decode cX1_aimByWindow 109 = .ok (.iload_n 2, 1) := by decide +kernel
theorem dX1_aimByWindow_110 : decode cX1_aimByWindow 110 = .ok (.invokevirtual 108, 3) := by decide +kernel
theorem dX1_aimByWindow_113 : decode cX1_aimByWindow 113 = .ok (.return_, 1) := by decide +kernel
theorem dX1_aimByWindow_114 : decode cX1_aimByWindow 114 = .ok (.iconst 0, 1) := by decide +kernel
theorem dX1_aimByWindow_115 : decode cX1_aimByWindow 115 = .ok (.istore 5, 2) := by decide +kernel
theorem dX1_aimByWindow_117 : decode cX1_aimByWindow 117 = .ok (.iload 5, 2) := by decide +kernel
theorem dX1_aimByWindow_119 : decode cX1_aimByWindow 119 = .ok (.bipush 16, 2) := by decide +kernel
theorem dX1_aimByWindow_121 : decode cX1_aimByWindow 121 = .ok (.if_icmp .ge 23, 3) := by decide +kernel
theorem dX1_aimByWindow_124 : decode cX1_aimByWindow 124 = .ok (.aload_n 0, 1) := by decide +kernel
theorem dX1_aimByWindow_125 : decode cX1_aimByWindow 125 = .ok (.getfield 35, 3) := by decide +kernel
theorem dX1_aimByWindow_128 : decode cX1_aimByWindow 128 = .ok (.iload_n 3, 1) := by decide +kernel
theorem dX1_aimByWindow_129 : decode cX1_aimByWindow 129 = .ok (.iload 5, 2) := by decide +kernel
theorem dX1_aimByWindow_131 : decode cX1_aimByWindow 131 = .ok (.iadd, 1) := by decide +kernel
theorem dX1_aimByWindow_132 : decode cX1_aimByWindow 132 = .ok (.dup2, 1) := by decide +kernel
theorem dX1_aimByWindow_133 : decode cX1_aimByWindow 133 = .ok (.iaload, 1) := by decide +kernel
theorem dX1_aimByWindow_134 : decode cX1_aimByWindow 134 = .ok (.iload 4, 2) := by decide +kernel
theorem dX1_aimByWindow_136 : decode cX1_aimByWindow 136 = .ok (.idiv, 1) := by decide +kernel
theorem dX1_aimByWindow_137 : decode cX1_aimByWindow 137 = .ok (.iastore, 1) := by decide +kernel
theorem dX1_aimByWindow_138 : decode cX1_aimByWindow 138 = .ok (.iinc 5 1, 3) := by decide +kernel
theorem dX1_aimByWindow_141 : decode cX1_aimByWindow 141 = .ok (.goto (-24), 3) := by decide +kernel
theorem dX1_aimByWindow_144 : decode cX1_aimByWindow 144 = .ok (.return_, 1) := by decide +kernel
theorem dX1_addWeighted_0 : decode cX1_addWeighted 0 = .ok (.iconst 0, 1) := by decide +kernel
theorem dX1_addWeighted_1 : decode cX1_addWeighted 1 = .ok (.istore 4, 2) := by decide +kernel
theorem dX1_addWeighted_3 : decode cX1_addWeighted 3 = .ok (.iload 4, 2) := by decide +kernel
theorem dX1_addWeighted_5 : decode cX1_addWeighted 5 = .ok (.bipush 16, 2) := by decide +kernel
theorem dX1_addWeighted_7 : decode cX1_addWeighted 7 = .ok (.if_icmp .ge 35, 3) := by decide +kernel
theorem dX1_addWeighted_10 : decode cX1_addWeighted 10 = .ok (.aload_n 0, 1) := by decide +kernel
theorem dX1_addWeighted_11 : decode cX1_addWeighted 11 = .ok (.getfield 35, 3) := by decide +kernel
theorem dX1_addWeighted_14 : decode cX1_addWeighted 14 = .ok (.iload_n 1, 1) := by decide +kernel
theorem dX1_addWeighted_15 : decode cX1_addWeighted 15 = .ok (.iload 4, 2) := by decide +kernel
theorem dX1_addWeighted_17 : decode cX1_addWeighted 17 = .ok (.iadd, 1) := by decide +kernel
theorem dX1_addWeighted_18 : decode cX1_addWeighted 18 = .ok (.dup2, 1) := by decide +kernel
theorem dX1_addWeighted_19 : decode cX1_addWeighted 19 = .ok (.iaload, 1) := by decide +kernel
theorem dX1_addWeighted_20 : decode cX1_addWeighted 20 = .ok (.iload_n 3, 1) := by decide +kernel
theorem dX1_addWeighted_21 : decode cX1_addWeighted 21 = .ok (.aload_n 0, 1) := by decide +kernel
theorem dX1_addWeighted_22 : decode cX1_addWeighted 22 = .ok (.getfield 12, 3) := by decide +kernel
theorem dX1_addWeighted_25 : decode cX1_addWeighted 25 = .ok (.getfield 112, 3) := by decide +kernel
theorem dX1_addWeighted_28 : decode cX1_addWeighted 28 = .ok (.iload_n 2, 1) := by decide +kernel
theorem dX1_addWeighted_29 : decode cX1_addWeighted 29 = .ok (.iload 4, 2) := by decide +kernel
theorem dX1_addWeighted_31 : decode cX1_addWeighted 31 = .ok (.iadd, 1) := by decide +kernel
theorem dX1_addWeighted_32 : decode cX1_addWeighted 32 = .ok (.iaload, 1) := by decide +kernel
theorem dX1_addWeighted_33 : decode cX1_addWeighted 33 = .ok (.imul, 1) := by decide +kernel
theorem dX1_addWeighted_34 : decode cX1_addWeighted 34 = .ok (.iadd, 1) := by decide +kernel
theorem dX1_addWeighted_35 : decode cX1_addWeighted 35 = .ok (.iastore, 1) := by decide +kernel
theorem dX1_addWeighted_36 : decode cX1_addWeighted 36 = .ok (.iinc 4 1, 3) := by decide +kernel
theorem dX1_addWeighted_39 : decode cX1_addWeighted 39 = .ok (.goto (-36), 3) := by decide +kernel
theorem dX1_addWeighted_42 : decode cX1_addWeighted 42 = .ok (.return_, 1) := by decide +kernel
theorem dX1_windowStart_0 : decode cX1_windowStart 0 = .ok (.aload_n 0, 1) := by decide +kernel
theorem dX1_windowStart_1 : decode cX1_windowStart 1 = .ok (.getfield 24, 3) := by decide +kernel
theorem dX1_windowStart_4 : decode cX1_windowStart 4 = .ok (.iload_n 2, 1) := by decide +kernel
theorem dX1_windowStart_5 : decode cX1_windowStart 5 = .ok (.invokevirtual 144, 3) := by decide +kernel
theorem dX1_windowStart_8 : decode cX1_windowStart 8 = .ok (.iload_n 2, 1) := by decide +kernel
theorem dX1_windowStart_9 : decode cX1_windowStart 9 = .ok (.aload_n 1, 1) := by decide +kernel
theorem dX1_windowStart_10 : decode cX1_windowStart 10 = .ok (.getfield 82, 3) := by decide +kernel
theorem dX1_windowStart_13 : decode cX1_windowStart 13 = .ok (.iconst 0, 1) := by decide +kernel
theorem dX1_windowStart_14 : decode cX1_windowStart 14 = .ok (.iaload, 1) := by decide +kernel
theorem dX1_windowStart_15 : decode cX1_windowStart 15 = .ok (.isub, 1) := by decide +kernel
theorem dX1_windowStart_16 : decode cX1_windowStart 16 = .ok (.invokestatic 147, 3) := by decide +kernel
theorem dX1_windowStart_19 : decode cX1_windowStart 19 = .ok (.ireturn, 1) := by decide +kernel
theorem dX1_windowLast_0 : decode cX1_windowLast 0 = .ok (.aload_n 0, 1) := by decide +kernel
theorem dX1_windowLast_1 : decode cX1_windowLast 1 = .ok (.getfield 24, 3) := by decide +kernel
theorem dX1_windowLast_4 : decode cX1_windowLast 4 = .ok (.iload_n 2, 1) := by decide +kernel
theorem dX1_windowLast_5 : decode cX1_windowLast 5 = .ok (.invokevirtual 151, 3) := by decide +kernel
theorem dX1_windowLast_8 : decode cX1_windowLast 8 = .ok (.iload_n 2, 1) := by decide +kernel
theorem dX1_windowLast_9 : decode cX1_windowLast 9 = .ok (.aload_n 1, 1) := by decide +kernel
theorem dX1_windowLast_10 : decode cX1_windowLast 10 = .ok (.getfield 82, 3) := by decide +kernel
theorem dX1_windowLast_13 : decode cX1_windowLast 13 = .ok (.iconst 0, 1) := by decide +kernel
theorem dX1_windowLast_14 : decode cX1_windowLast 14 = .ok (.iaload, 1) := by decide +kernel
theorem dX1_windowLast_15 : decode cX1_windowLast 15 = .ok (.iadd, 1) := by decide +kernel
theorem dX1_windowLast_16 : decode cX1_windowLast 16 = .ok (.invokestatic 154, 3) := by decide +kernel
theorem dX1_windowLast_19 : decode cX1_windowLast 19 = .ok (.ireturn, 1) := by decide +kernel
theorem dX1_windowSize_0 : decode cX1_windowSize 0 = .ok (.iconst 0, 1) := by decide +kernel
theorem dX1_windowSize_1 : decode cX1_windowSize 1 = .ok (.istore_n 3, 1) := by decide +kernel
theorem dX1_windowSize_2 : decode cX1_windowSize 2 = .ok (.aload_n 0, 1) := by decide +kernel
theorem dX1_windowSize_3 : decode cX1_windowSize 3 = .ok (.aload_n 1, 1) := by decide +kernel
theorem dX1_windowSize_4 : decode cX1_windowSize 4 = .ok (.iload_n 2, 1) := by decide +kernel
theorem dX1_windowSize_5 : decode cX1_windowSize 5 = .ok (.invokevirtual 121, 3) := by decide +kernel
theorem dX1_windowSize_8 : decode cX1_windowSize 8 = .ok (.istore 4, 2) := by decide +kernel
theorem dX1_windowSize_10 : decode cX1_windowSize 10 = .ok (.iload 4, 2) := by decide +kernel
theorem dX1_windowSize_12 : decode cX1_windowSize 12 = .ok (.aload_n 0, 1) := by decide +kernel
theorem dX1_windowSize_13 : decode cX1_windowSize 13 = .ok (.aload_n 1, 1) := by decide +kernel
theorem dX1_windowSize_14 : decode cX1_windowSize 14 = .ok (.iload_n 2, 1) := by decide +kernel
theorem dX1_windowSize_15 : decode cX1_windowSize 15 = .ok (.invokevirtual 125, 3) := by decide +kernel
theorem dX1_windowSize_18 : decode cX1_windowSize 18 = .ok (.if_icmp .gt 21, 3) := by decide +kernel
theorem dX1_windowSize_21 : decode cX1_windowSize 21 = .ok (.iload_n 3, 1) := by decide +kernel
theorem dX1_windowSize_22 : decode cX1_windowSize 22 = .ok (.iconst 1, 1) := by decide +kernel
theorem dX1_windowSize_23 : decode cX1_windowSize 23 = .ok (.aload_n 1, 1) := by decide +kernel
theorem dX1_windowSize_24 : decode cX1_windowSize 24 = .ok (.getfield 128, 3) := by decide +kernel
theorem dX1_windowSize_27 : decode cX1_windowSize 27 = .ok (.iload 4, 2) := by decide +kernel
theorem dX1_windowSize_29 : decode cX1_windowSize 29 = .ok (.iaload, 1) := by decide +kernel
theorem dX1_windowSize_30 : decode cX1_windowSize 30 = .ok (.isub, 1) := by decide +kernel
theorem dX1_windowSize_31 : decode cX1_windowSize 31 = .ok (.iadd, 1) := by decide +kernel
theorem dX1_windowSize_32 : decode cX1_windowSize 32 = .ok (.istore_n 3, 1) := by decide +kernel
theorem dX1_windowSize_33 : decode cX1_windowSize 33 = .ok (.iinc 4 1, 3) := by decide +kernel
theorem dX1_windowSize_36 : decode cX1_windowSize 36 = .ok (.goto (-26), 3) := by decide +kernel
theorem dX1_windowSize_39 : decode cX1_windowSize 39 = .ok (.iload_n 3, 1) := by decide +kernel
theorem dX1_windowSize_40 : decode cX1_windowSize 40 = .ok (.iconst 1, 1) := by decide +kernel
theorem dX1_windowSize_41 : decode cX1_windowSize 41 = .ok (.invokestatic 147, 3) := by decide +kernel
theorem dX1_windowSize_44 : decode cX1_windowSize 44 = .ok (.ireturn, 1) := by decide +kernel
theorem dX1_makeTable_0 : decode cX1_makeTable 0 = .ok (.iload_n 2, 1) := by decide +kernel
theorem dX1_makeTable_1 : decode cX1_makeTable 1 = .ok (.bipush 16, 2) := by decide +kernel
theorem dX1_makeTable_3 : decode cX1_makeTable 3 = .ok (.imul, 1) := by decide +kernel
theorem dX1_makeTable_4 : decode cX1_makeTable 4 = .ok (.istore_n 3, 1) := by decide +kernel
theorem dX1_makeTable_5 : decode cX1_makeTable 5 = .ok (.iconst 0, 1) := by decide +kernel
theorem dX1_makeTable_6 : decode cX1_makeTable 6 = .ok (.istore 4, 2) := by decide +kernel
theorem dX1_makeTable_8 : decode cX1_makeTable 8 = .ok (.iconst 0, 1) := by decide +kernel
theorem dX1_makeTable_9 : decode cX1_makeTable 9 = .ok (.istore 5, 2) := by decide +kernel
theorem dX1_makeTable_11 : decode cX1_makeTable 11 = .ok (.iload 5, 2) := by decide +kernel
theorem dX1_makeTable_13 : decode cX1_makeTable 13 = .ok (.bipush 16, 2) := by decide +kernel
theorem dX1_makeTable_15 : decode cX1_makeTable 15 = .ok (.if_icmp .ge 77, 3) := by decide +kernel
theorem dX1_makeTable_18 : decode cX1_makeTable 18 = .ok (.iload 4, 2) := by decide +kernel
theorem dX1_makeTable_20 : decode cX1_makeTable 20 = .ok (.bipush 15, 2) := by decide +kernel
theorem dX1_makeTable_22 : decode cX1_makeTable 22 = .ok (.if_icmp .ge 33, 3) := by decide +kernel
theorem dX1_makeTable_25 : decode cX1_makeTable 25 = .ok (.aload_n 0, 1) := by decide +kernel
theorem dX1_makeTable_26 : decode cX1_makeTable 26 = .ok (.getfield 35, 3) := by decide +kernel
theorem dX1_makeTable_29 : decode cX1_makeTable 29 = .ok (.iload_n 3, 1) := by decide +kernel
theorem dX1_makeTable_30 : decode cX1_makeTable 30 = .ok (.iload 4, 2) := by decide +kernel
theorem dX1_makeTable_32 : decode cX1_makeTable 32 = .ok (.iadd, 1) := by decide +kernel
theorem dX1_makeTable_33 : decode cX1_makeTable 33 = .ok (.iaload, 1) := by decide +kernel
theorem dX1_makeTable_34 : decode cX1_makeTable 34 = .ok (.aload_n 0, 1) := by decide +kernel
theorem dX1_makeTable_35 : decode cX1_makeTable 35 = .ok (.getfield 12, 3) := by decide +kernel
theorem dX1_makeTable_38 : decode cX1_makeTable 38 = .ok (.getfield 112, 3) := by decide +kernel
theorem dX1_makeTable_41 : decode cX1_makeTable 41 = .ok (.iload_n 3, 1) := by decide +kernel
theorem dX1_makeTable_42 : decode cX1_makeTable 42 = .ok (.iload 5, 2) := by decide +kernel
theorem dX1_makeTable_44 : decode cX1_makeTable 44 = .ok (.iadd, 1) := by decide +kernel
theorem dX1_makeTable_45 : decode cX1_makeTable 45 = .ok (.iaload, 1) := by decide +kernel
theorem dX1_makeTable_46 : decode cX1_makeTable 46 = .ok (.if_icmp .ge 9, 3) := by decide +kernel
theorem dX1_makeTable_49 : decode cX1_makeTable 49 = .ok (.iinc 4 1, 3) := by decide +kernel
theorem dX1_makeTable_52 : decode cX1_makeTable 52 = .ok (.goto (-34), 3) := by decide +kernel
theorem dX1_makeTable_55 : decode cX1_makeTable 55 = .ok (.aload_n 0, 1) := by decide +kernel
theorem dX1_makeTable_56 : decode cX1_makeTable 56 = .ok (.getfield 39, 3) := by decide +kernel
theorem dX1_makeTable_59 : decode cX1_makeTable 59 = .ok (.iload_n 3, 1) := by decide +kernel
theorem dX1_makeTable_60 : decode cX1_makeTable 60 = .ok (.iload 5, 2) := by decide +kernel
theorem dX1_makeTable_62 : decode cX1_makeTable 62 = .ok (.iadd, 1) := by decide +kernel
theorem dX1_makeTable_63 : decode cX1_makeTable 63 = .ok (.aload_n 1, 1) := by decide +kernel
theorem dX1_makeTable_64 : decode cX1_makeTable 64 = .ok (.iload 5, 2) := by decide +kernel
theorem dX1_makeTable_66 : decode cX1_makeTable 66 = .ok (.invokevirtual 157, 3) := by decide +kernel
theorem dX1_makeTable_69 : decode cX1_makeTable 69 = .ok (.ifCond .eq 8, 3) := by decide +kernel
theorem dX1_makeTable_72 : decode cX1_makeTable 72 = .ok (.iload 5, 2) := by decide +kernel
theorem dX1_makeTable_74 : decode cX1_makeTable 74 = .ok (.goto 11, 3) := by decide +kernel
theorem dX1_makeTable_77 : decode cX1_makeTable 77 = .ok (.aload_n 1, 1) := by decide +kernel
theorem dX1_makeTable_78 : decode cX1_makeTable 78 = .ok (.iload 5, 2) := by decide +kernel
theorem dX1_makeTable_80 : decode cX1_makeTable 80 = .ok (.iload 4, 2) := by decide +kernel
theorem dX1_makeTable_82 : decode cX1_makeTable 82 = .ok (.invokevirtual 161, 3) := by decide +kernel
theorem dX1_makeTable_85 : decode cX1_makeTable 85 = .ok (.iastore, 1) := by decide +kernel
theorem dX1_makeTable_86 : decode cX1_makeTable 86 = .ok (.iinc 5 1, 3) := by decide +kernel
theorem dX1_makeTable_89 : decode cX1_makeTable 89 = .ok (.goto (-78), 3) := by decide +kernel
theorem dX1_makeTable_92 : decode cX1_makeTable 92 = .ok (.return_, 1) := by decide +kernel
theorem dX1_passByTable_0 : decode cX1_passByTable 0 = .ok (.iconst 0, 1) := by decide +kernel
theorem dX1_passByTable_1 : decode cX1_passByTable 1 = .ok (.istore_n 3, 1) := by decide +kernel
theorem dX1_passByTable_2 : decode cX1_passByTable 2 = .ok (.iload_n 3, 1) := by decide +kernel
theorem dX1_passByTable_3 : decode cX1_passByTable 3 = .ok (.aload_n 1, 1) := by decide +kernel
theorem dX1_passByTable_4 : decode cX1_passByTable 4 = .ok (.invokevirtual 59, 3) := by decide +kernel
theorem dX1_passByTable_7 : decode cX1_passByTable 7 = .ok (.if_icmp .ge 41, 3) := by decide +kernel
theorem dX1_passByTable_10 : decode cX1_passByTable 10 = .ok (.iload_n 2, 1) := by decide +kernel
theorem dX1_passByTable_11 : decode cX1_passByTable 11 = .ok (.bipush 64, 2) := by decide +kernel
theorem dX1_passByTable_13 : decode cX1_passByTable 13 = .ok (.imul, 1) := by decide +kernel
theorem dX1_passByTable_14 : decode cX1_passByTable 14 = .ok (.iload_n 3, 1) := by decide +kernel
theorem dX1_passByTable_15 : decode cX1_passByTable 15 = .ok (.iadd, 1) := by decide +kernel
theorem dX1_passByTable_16 : decode cX1_passByTable 16 = .ok (.istore 4, 2) := by decide +kernel
theorem dX1_passByTable_18 : decode cX1_passByTable 18 = .ok (.aload_n 0, 1) := by decide +kernel
theorem dX1_passByTable_19 : decode cX1_passByTable 19 = .ok (.getfield 42, 3) := by decide +kernel
theorem dX1_passByTable_22 : decode cX1_passByTable 22 = .ok (.iload 4, 2) := by decide +kernel
theorem dX1_passByTable_24 : decode cX1_passByTable 24 = .ok (.aload_n 0, 1) := by decide +kernel
theorem dX1_passByTable_25 : decode cX1_passByTable 25 = .ok (.getfield 39, 3) := by decide +kernel
theorem dX1_passByTable_28 : decode cX1_passByTable 28 = .ok (.iload_n 2, 1) := by decide +kernel
theorem dX1_passByTable_29 : decode cX1_passByTable 29 = .ok (.bipush 16, 2) := by decide +kernel
theorem dX1_passByTable_31 : decode cX1_passByTable 31 = .ok (.imul, 1) := by decide +kernel
theorem dX1_passByTable_32 : decode cX1_passByTable 32 = .ok (.aload_n 1, 1) := by decide +kernel
theorem dX1_passByTable_33 : decode cX1_passByTable 33 = .ok (.getfield 52, 3) := by decide +kernel
theorem dX1_passByTable_36 : decode cX1_passByTable 36 = .ok (.iload 4, 2) := by decide +kernel
theorem dX1_passByTable_38 : decode cX1_passByTable 38 = .ok (.iaload, 1) := by decide +kernel
theorem dX1_passByTable_39 : decode cX1_passByTable 39 = .ok (.iadd, 1) := by decide +kernel
theorem dX1_passByTable_40 : decode cX1_passByTable 40 = .ok (.iaload, 1) := by decide +kernel
theorem dX1_passByTable_41 : decode cX1_passByTable 41 = .ok (.iastore, 1) := by decide +kernel
theorem dX1_passByTable_42 : decode cX1_passByTable 42 = .ok (.iinc 3 1, 3) := by decide +kernel
theorem dX1_passByTable_45 : decode cX1_passByTable 45 = .ok (.goto (-43), 3) := by decide +kernel
theorem dX1_passByTable_48 : decode cX1_passByTable 48 = .ok (.return_, 1) := by decide +kernel
theorem dX1_spreadDots_0 : decode cX1_spreadDots 0 = .ok (.aload_n 0, 1) := by decide +kernel
theorem dX1_spreadDots_1 : decode cX1_spreadDots 1 = .ok (.getfield 31, 3) := by decide +kernel
theorem dX1_spreadDots_4 : decode cX1_spreadDots 4 = .ok (.aload_n 1, 1) := by decide +kernel
theorem dX1_spreadDots_5 : decode cX1_spreadDots 5 = .ok (.iload_n 2, 1) := by decide +kernel
theorem dX1_spreadDots_6 : decode cX1_spreadDots 6 = .ok (.aload_n 0, 1) := by decide +kernel
theorem dX1_spreadDots_7 : decode cX1_spreadDots 7 = .ok (.getfield 12, 3) := by decide +kernel
theorem dX1_spreadDots_10 : decode cX1_spreadDots 10 = .ok (.invokevirtual 164, 3) := by decide +kernel
theorem dX1_spreadDots_13 : decode cX1_spreadDots 13 = .ok (.iconst 0, 1) := by decide +kernel
theorem dX1_spreadDots_14 : decode cX1_spreadDots 14 = .ok (.istore_n 3, 1) := by decide +kernel
theorem dX1_spreadDots_15 : decode cX1_spreadDots 15 = .ok (.iconst 0, 1) := by decide +kernel
theorem dX1_spreadDots_16 : decode cX1_spreadDots 16 = .ok (.istore 4, 2) := by decide +kernel
theorem dX1_spreadDots_18 : decode cX1_spreadDots 18 = .ok (.iload 4, 2) := by decide +kernel
theorem dX1_spreadDots_20 : decode cX1_spreadDots 20 = .ok (.aload_n 1, 1) := by decide +kernel
theorem dX1_spreadDots_21 : decode cX1_spreadDots 21 = .ok (.invokevirtual 59, 3) := by decide +kernel
theorem dX1_spreadDots_24 : decode cX1_spreadDots 24 = .ok (.if_icmp .ge 91, 3) := by decide +kernel
theorem dX1_spreadDots_27 : decode cX1_spreadDots 27 = .ok (.iload_n 3, 1) := by decide +kernel
theorem dX1_spreadDots_28 : decode cX1_spreadDots 28 = .ok (.bipush 15, 2) := by decide +kernel
theorem dX1_spreadDots_30 : decode cX1_spreadDots 30 = .ok (.if_icmp .ge 25, 3) := by decide +kernel
theorem dX1_spreadDots_33 : decode cX1_spreadDots 33 = .ok (.aload_n 0, 1) := by decide +kernel
theorem dX1_spreadDots_34 : decode cX1_spreadDots 34 = .ok (.getfield 35, 3) := by decide +kernel
theorem dX1_spreadDots_37 : decode cX1_spreadDots 37 = .ok (.iload_n 2, 1) := by decide +kernel
theorem dX1_spreadDots_38 : decode cX1_spreadDots 38 = .ok (.bipush 16, 2) := by decide +kernel
theorem dX1_spreadDots_40 : decode cX1_spreadDots 40 = .ok (.imul, 1) := by decide +kernel
theorem dX1_spreadDots_41 : decode cX1_spreadDots 41 = .ok (.iload_n 3, 1) := by decide +kernel
theorem dX1_spreadDots_42 : decode cX1_spreadDots 42 = .ok (.iadd, 1) := by decide +kernel
theorem dX1_spreadDots_43 : decode cX1_spreadDots 43 = .ok (.iaload, 1) := by decide +kernel
theorem dX1_spreadDots_44 : decode cX1_spreadDots 44 = .ok (.iload 4, 2) := by decide +kernel
theorem dX1_spreadDots_46 : decode cX1_spreadDots 46 = .ok (.if_icmp .gt 9, 3) := by decide +kernel
theorem dX1_spreadDots_49 : decode cX1_spreadDots 49 = .ok (.iinc 3 1, 3) := by decide +kernel
theorem dX1_spreadDots_52 : decode cX1_spreadDots 52 = .ok (.goto (-25), 3) := by decide +kernel
theorem dX1_spreadDots_55 : decode cX1_spreadDots 55 = .ok (.iload_n 2, 1) := by decide +kernel
theorem dX1_spreadDots_56 : decode cX1_spreadDots 56 = .ok (.bipush 64, 2) := by decide +kernel
theorem dX1_spreadDots_58 : decode cX1_spreadDots 58 = .ok (.imul, 1) := by decide +kernel
theorem dX1_spreadDots_59 : decode cX1_spreadDots 59 = .ok (.aload_n 0, 1) := by decide +kernel
theorem dX1_spreadDots_60 : decode cX1_spreadDots 60 = .ok (.getfield 31, 3) := by decide +kernel
theorem dX1_spreadDots_63 : decode cX1_spreadDots 63 = .ok (.getfield 167, 3) := by decide +kernel
theorem dX1_spreadDots_66 : decode cX1_spreadDots 66 = .ok (.iload 4, 2) := by decide +kernel
theorem dX1_spreadDots_68 : decode cX1_spreadDots 68 = .ok (.iaload, 1) := by decide +kernel
theorem dX1_spreadDots_69 : decode cX1_spreadDots 69 = .ok (.iadd, 1) := by decide +kernel
theorem dX1_spreadDots_70 : decode cX1_spreadDots 70 = .ok (.istore 5, 2) := by decide +kernel
theorem dX1_spreadDots_72 : decode cX1_spreadDots 72 = .ok (.aload_n 1, 1) := by decide +kernel
theorem dX1_spreadDots_73 : decode cX1_spreadDots 73 = .ok (.getfield 52, 3) := by decide +kernel
theorem dX1_spreadDots_76 : decode cX1_spreadDots 76 = .ok (.iload 5, 2) := by decide +kernel
theorem dX1_spreadDots_78 : decode cX1_spreadDots 78 = .ok (.iaload, 1) := by decide +kernel
theorem dX1_spreadDots_79 : decode cX1_spreadDots 79 = .ok (.istore 6, 2) := by decide +kernel
theorem dX1_spreadDots_81 : decode cX1_spreadDots 81 = .ok (.aload_n 0, 1) := by decide +kernel
theorem dX1_spreadDots_82 : decode cX1_spreadDots 82 = .ok (.getfield 42, 3) := by decide +kernel
theorem dX1_spreadDots_85 : decode cX1_spreadDots 85 = .ok (.iload 5, 2) := by decide +kernel
theorem dX1_spreadDots_87 : decode cX1_spreadDots 87 = .ok (.aload_n 1, 1) := by decide +kernel
theorem dX1_spreadDots_88 : decode cX1_spreadDots 88 = .ok (.iload 6, 2) := by decide +kernel
theorem dX1_spreadDots_90 : decode cX1_spreadDots 90 = .ok (.invokevirtual 157, 3) := by decide +kernel
theorem dX1_spreadDots_93 : decode cX1_spreadDots 93 = .ok (.ifCond .eq 8, 3) := by decide +kernel
theorem dX1_spreadDots_96 : decode cX1_spreadDots 96 = .ok (.iload 6, 2) := by decide +kernel
theorem dX1_spreadDots_98 : decode cX1_spreadDots 98 = .ok (.goto 10, 3) := by decide +kernel
theorem dX1_spreadDots_101 : decode cX1_spreadDots 101 = .ok (.aload_n 1, 1) := by decide +kernel
theorem dX1_spreadDots_102 : decode cX1_spreadDots 102 = .ok (.iload 6, 2) := by decide +kernel
theorem dX1_spreadDots_104 : decode cX1_spreadDots 104 = .ok (.iload_n 3, 1) := by decide +kernel
theorem dX1_spreadDots_105 : decode cX1_spreadDots 105 = .ok (.invokevirtual 161, 3) := by decide +kernel
theorem dX1_spreadDots_108 : decode cX1_spreadDots 108 = .ok (.iastore, 1) := by decide +kernel
theorem dX1_spreadDots_109 : decode cX1_spreadDots 109 = .ok (.iinc 4 1, 3) := by decide +kernel
theorem dX1_spreadDots_112 : decode cX1_spreadDots 112 = .ok (.goto (-94), 3) := by decide +kernel
theorem dX1_spreadDots_115 : decode cX1_spreadDots 115 = .ok (.return_, 1) := by decide +kernel
theorem dX1_changedIn_0 : decode cX1_changedIn 0 = .ok (.iconst 0, 1) := by decide +kernel
theorem dX1_changedIn_1 : decode cX1_changedIn 1 = .ok (.istore_n 3, 1) := by decide +kernel
theorem dX1_changedIn_2 : decode cX1_changedIn 2 = .ok (.iconst 0, 1) := by decide +kernel
theorem dX1_changedIn_3 : decode cX1_changedIn 3 = .ok (.istore 4, 2) := by decide +kernel
theorem dX1_changedIn_5 : decode cX1_changedIn 5 = .ok (.iload 4, 2) := by decide +kernel
theorem dX1_changedIn_7 : decode cX1_changedIn 7 = .ok (.aload_n 1, 1) := by decide +kernel
theorem dX1_changedIn_8 : decode cX1_changedIn 8 = .ok (.invokevirtual 59, 3) := by decide +kernel
theorem dX1_changedIn_11 : decode cX1_changedIn 11 = .ok (.if_icmp .ge 43, 3) := by decide +kernel
theorem dX1_changedIn_14 : decode cX1_changedIn 14 = .ok (.iload_n 2, 1) := by decide +kernel
theorem dX1_changedIn_15 : decode cX1_changedIn 15 = .ok (.bipush 64, 2) := by decide +kernel
theorem dX1_changedIn_17 : decode cX1_changedIn 17 = .ok (.imul, 1) := by decide +kernel
theorem dX1_changedIn_18 : decode cX1_changedIn 18 = .ok (.iload 4, 2) := by decide +kernel
theorem dX1_changedIn_20 : decode cX1_changedIn 20 = .ok (.iadd, 1) := by decide +kernel
theorem dX1_changedIn_21 : decode cX1_changedIn 21 = .ok (.istore 5, 2) := by decide +kernel
theorem dX1_changedIn_23 : decode cX1_changedIn 23 = .ok (.iload_n 3, 1) := by decide +kernel
theorem dX1_changedIn_24 : decode cX1_changedIn 24 = .ok (.aload_n 0, 1) := by decide +kernel
theorem dX1_changedIn_25 : decode cX1_changedIn 25 = .ok (.getfield 42, 3) := by decide +kernel
theorem dX1_changedIn_28 : decode cX1_changedIn 28 = .ok (.iload 5, 2) := by decide +kernel
theorem dX1_changedIn_30 : decode cX1_changedIn 30 = .ok (.iaload, 1) := by decide +kernel
theorem dX1_changedIn_31 : decode cX1_changedIn 31 = .ok (.aload_n 1, 1) := by decide +kernel
theorem dX1_changedIn_32 : decode cX1_changedIn 32 = .ok (.getfield 52, 3) := by decide +kernel
theorem dX1_changedIn_35 : decode cX1_changedIn 35 = .ok (.iload 5, 2) := by decide +kernel
theorem dX1_changedIn_37 : decode cX1_changedIn 37 = .ok (.iaload, 1) := by decide +kernel
theorem dX1_changedIn_38 : decode cX1_changedIn 38 = .ok (.if_icmp .eq 7, 3) := by decide +kernel
theorem dX1_changedIn_41 : decode cX1_changedIn 41 = .ok (.iconst 1, 1) := by decide +kernel
theorem dX1_changedIn_42 : decode cX1_changedIn 42 = .ok (.goto 4, 3) := by decide +kernel
theorem dX1_changedIn_45 : decode cX1_changedIn 45 = .ok (.iconst 0, 1) := by decide +kernel
theorem dX1_changedIn_46 : decode cX1_changedIn 46 = .ok (.iadd, 1) := by decide +kernel
theorem dX1_changedIn_47 : decode cX1_changedIn 47 = .ok (.istore_n 3, 1) := by decide +kernel
theorem dX1_changedIn_48 : decode cX1_changedIn 48 = .ok (.iinc 4 1, 3) := by decide +kernel
theorem dX1_changedIn_51 : decode cX1_changedIn 51 = .ok (.goto (-46), 3) := by decide +kernel
theorem dX1_changedIn_54 : decode cX1_changedIn 54 = .ok (.iload_n 3, 1) := by decide +kernel
theorem dX1_changedIn_55 : decode cX1_changedIn 55 = .ok (.ireturn, 1) := by decide +kernel
theorem dX1_changedDots_0 : decode cX1_changedDots 0 = .ok (.iconst 0, 1) := by decide +kernel
theorem dX1_changedDots_1 : decode cX1_changedDots 1 = .ok (.istore_n 2, 1) := by decide +kernel
theorem dX1_changedDots_2 : decode cX1_changedDots 2 = .ok (.iconst 0, 1) := by decide +kernel
theorem dX1_changedDots_3 : decode cX1_changedDots 3 = .ok (.istore_n 3, 1) := by decide +kernel
theorem dX1_changedDots_4 : decode cX1_changedDots 4 = .ok (.iload_n 3, 1) := by decide +kernel
theorem dX1_changedDots_5 : decode cX1_changedDots 5 = .ok (.aload_n 1, 1) := by decide +kernel
theorem dX1_changedDots_6 : decode cX1_changedDots 6 = .ok (.getfield 55, 3) := by decide +kernel
theorem dX1_changedDots_9 : decode cX1_changedDots 9 = .ok (.if_icmp .ge 18, 3) := by decide +kernel
theorem dX1_changedDots_12 : decode cX1_changedDots 12 = .ok (.iload_n 2, 1) := by decide +kernel
theorem dX1_changedDots_13 : decode cX1_changedDots 13 = .ok (.aload_n 0, 1) := by decide +kernel
theorem dX1_changedDots_14 : decode cX1_changedDots 14 = .ok (.aload_n 1, 1) := by decide +kernel
theorem dX1_changedDots_15 : decode cX1_changedDots 15 = .ok (.iload_n 3, 1) := by decide +kernel
theorem dX1_changedDots_16 : decode cX1_changedDots 16 = .ok (.invokevirtual 170, 3) := by decide +kernel
theorem dX1_changedDots_19 : decode cX1_changedDots 19 = .ok (.iadd, 1) := by decide +kernel
theorem dX1_changedDots_20 : decode cX1_changedDots 20 = .ok (.istore_n 2, 1) := by decide +kernel
theorem dX1_changedDots_21 : decode cX1_changedDots 21 = .ok (.iinc 3 1, 3) := by decide +kernel
theorem dX1_changedDots_24 : decode cX1_changedDots 24 = .ok (.goto (-20), 3) := by decide +kernel
theorem dX1_changedDots_27 : decode cX1_changedDots 27 = .ok (.iload_n 2, 1) := by decide +kernel
theorem dX1_changedDots_28 : decode cX1_changedDots 28 = .ok (.ireturn, 1) := by decide +kernel
theorem dX1_flickerOf_0 : decode cX1_flickerOf 0 = .ok (.iconst 0, 1) := by decide +kernel
theorem dX1_flickerOf_1 : decode cX1_flickerOf 1 = .ok (.istore_n 3, 1) := by decide +kernel
theorem dX1_flickerOf_2 : decode cX1_flickerOf 2 = .ok (.iconst 1, 1) := by decide +kernel
theorem dX1_flickerOf_3 : decode cX1_flickerOf 3 = .ok (.istore 4, 2) := by decide +kernel
theorem dX1_flickerOf_5 : decode cX1_flickerOf 5 = .ok (.iload 4, 2) := by decide +kernel
theorem dX1_flickerOf_7 : decode cX1_flickerOf 7 = .ok (.iload_n 2, 1) := by decide +kernel
theorem dX1_flickerOf_8 : decode cX1_flickerOf 8 = .ok (.if_icmp .ge 34, 3) := by decide +kernel
theorem dX1_flickerOf_11 : decode cX1_flickerOf 11 = .ok (.aload_n 0, 1) := by decide +kernel
theorem dX1_flickerOf_12 : decode cX1_flickerOf 12 = .ok (.getfield 24, 3) := by decide +kernel
theorem dX1_flickerOf_15 : decode cX1_flickerOf 15 = .ok (.iload 4, 2) := by decide +kernel
theorem dX1_flickerOf_17 : decode cX1_flickerOf 17 = .ok (.invokevirtual 173, 3) := by decide +kernel
theorem dX1_flickerOf_20 : decode cX1_flickerOf 20 = .ok (.ifCond .ne 16, 3) := by decide +kernel
theorem dX1_flickerOf_23 : decode cX1_flickerOf 23 = .ok (.iload_n 3, 1) := by decide +kernel
theorem dX1_flickerOf_24 : decode cX1_flickerOf 24 = .ok (.aload_n 1, 1) := by decide +kernel
theorem dX1_flickerOf_25 : decode cX1_flickerOf 25 = .ok (.iload 4, 2) := by decide +kernel
theorem dX1_flickerOf_27 : decode cX1_flickerOf 27 = .ok (.iconst 1, 1) := by decide +kernel
theorem dX1_flickerOf_28 : decode cX1_flickerOf 28 = .ok (.isub, 1) := by decide +kernel
theorem dX1_flickerOf_29 : decode cX1_flickerOf 29 = .ok (.iload 4, 2) := by decide +kernel
theorem dX1_flickerOf_31 : decode cX1_flickerOf 31 = .ok (.invokevirtual 176, 3) := by decide +kernel
theorem dX1_flickerOf_34 : decode cX1_flickerOf 34 = .ok (.iadd, 1) := by decide +kernel
theorem dX1_flickerOf_35 : decode cX1_flickerOf 35 = .ok (.istore_n 3, 1) := by decide +kernel
theorem dX1_flickerOf_36 : decode cX1_flickerOf 36 = .ok (.iinc 4 1, 3) := by decide +kernel
theorem dX1_flickerOf_39 : decode cX1_flickerOf 39 = .ok (.goto (-34), 3) := by decide +kernel
theorem dX1_flickerOf_42 : decode cX1_flickerOf 42 = .ok (.iload_n 3, 1) := by decide +kernel
theorem dX1_flickerOf_43 : decode cX1_flickerOf 43 = .ok (.ireturn, 1) := by decide +kernel
theorem dX1_flashes_0 : decode cX1_flashes 0 = .ok (.aload_n 0, 1) := by decide +kernel
theorem dX1_flashes_1 : decode cX1_flashes 1 = .ok (.getfield 24, 3) := by decide +kernel
theorem dX1_flashes_4 : decode cX1_flashes 4 = .ok (.iload_n 1, 1) := by decide +kernel
theorem dX1_flashes_5 : decode cX1_flashes 5 = .ok (.invokevirtual 173, 3) := by decide +kernel
theorem dX1_flashes_8 : decode cX1_flashes 8 = .ok (.ifCond .ne 16, 3) := by decide +kernel
theorem dX1_flashes_11 : decode cX1_flashes 11 = .ok (.aload_n 0, 1) := by decide +kernel
theorem dX1_flashes_12 : decode cX1_flashes 12 = .ok (.getfield 24, 3) := by decide +kernel
theorem dX1_flashes_15 : decode cX1_flashes 15 = .ok (.iload_n 1, 1) := by decide +kernel
theorem dX1_flashes_16 : decode cX1_flashes 16 = .ok (.iconst 1, 1) := by decide +kernel
theorem dX1_flashes_17 : decode cX1_flashes 17 = .ok (.iadd, 1) := by decide +kernel
theorem dX1_flashes_18 : decode cX1_flashes 18 = .ok (.invokevirtual 173, 3) := by decide +kernel
theorem dX1_flashes_21 : decode cX1_flashes 21 = .ok (.ifCond .eq 5, 3) := by decide +kernel
theorem dX1_flashes_24 : decode cX1_flashes 24 = .ok (.iconst 0, 1) := by decide +kernel
theorem dX1_flashes_25 : decode cX1_flashes 25 = .ok (.ireturn, 1) := by decide +kernel
theorem dX1_flashes_26 : decode cX1_flashes 26 = .ok (.aload_n 0, 1) := by decide +kernel
theorem dX1_flashes_27 : decode cX1_flashes 27 = .ok (.getfield 12, 3) := by decide +kernel
theorem dX1_flashes_30 : decode cX1_flashes 30 = .ok (.iload_n 1, 1) := by decide +kernel
theorem dX1_flashes_31 : decode cX1_flashes 31 = .ok (.iconst 1, 1) := by decide +kernel
theorem dX1_flashes_32 : decode cX1_flashes 32 = .ok (.isub, 1) := by decide +kernel
theorem dX1_flashes_33 : decode cX1_flashes 33 = .ok (.invokevirtual 179, 3) := by decide +kernel
theorem dX1_flashes_36 : decode cX1_flashes 36 = .ok (.istore_n 3, 1) := by decide +kernel
theorem dX1_flashes_37 : decode cX1_flashes 37 = .ok (.aload_n 0, 1) := by decide +kernel
theorem dX1_flashes_38 : decode cX1_flashes 38 = .ok (.getfield 12, 3) := by decide +kernel
theorem dX1_flashes_41 : decode cX1_flashes 41 = .ok (.iload_n 1, 1) := by decide +kernel
theorem dX1_flashes_42 : decode cX1_flashes 42 = .ok (.invokevirtual 179, 3) := by decide +kernel
theorem dX1_flashes_45 : decode cX1_flashes 45 = .ok (.istore 4, 2) := by decide +kernel
theorem dX1_flashes_47 : decode cX1_flashes 47 = .ok (.aload_n 0, 1) := by decide +kernel
theorem dX1_flashes_48 : decode cX1_flashes 48 = .ok (.getfield 12, 3) := by decide +kernel
theorem dX1_flashes_51 : decode cX1_flashes 51 = .ok (.iload_n 1, 1) := by decide +kernel
theorem dX1_flashes_52 : decode cX1_flashes 52 = .ok (.iconst 1, 1) := by decide +kernel
theorem dX1_flashes_53 : decode cX1_flashes 53 = .ok (.iadd, 1) := by decide +kernel
theorem dX1_flashes_54 : decode cX1_flashes 54 = .ok (.invokevirtual 179, 3) := by decide +kernel
theorem dX1_flashes_57 : decode cX1_flashes 57 = .ok (.istore 5, 2) := by decide +kernel
theorem dX1_flashes_59 : decode cX1_flashes 59 = .ok (.iload 4, 2) := by decide +kernel
theorem dX1_flashes_61 : decode cX1_flashes 61 = .ok (.iload_n 3, 1) := by decide +kernel
theorem dX1_flashes_62 : decode cX1_flashes 62 = .ok (.isub, 1) := by decide +kernel
theorem dX1_flashes_63 : decode cX1_flashes 63 = .ok (.invokestatic 134, 3) := by decide +kernel
theorem dX1_flashes_66 : decode cX1_flashes 66 = .ok (.iload_n 2, 1) := by decide +kernel
theorem dX1_flashes_67 : decode cX1_flashes 67 = .ok (.if_icmp .le 30, 3) := by decide +kernel
theorem dX1_flashes_70 : decode cX1_flashes 70 = .ok (.iload 4, 2) := by decide +kernel
theorem dX1_flashes_72 : decode cX1_flashes 72 = .ok (.iload 5, 2) := by decide +kernel
theorem dX1_flashes_74 : decode cX1_flashes 74 = .ok (.isub, 1) := by decide +kernel
theorem dX1_flashes_75 : decode cX1_flashes 75 = .ok (.invokestatic 134, 3) := by decide +kernel
theorem dX1_flashes_78 : decode cX1_flashes 78 = .ok (.iload_n 2, 1) := by decide +kernel
theorem dX1_flashes_79 : decode cX1_flashes 79 = .ok (.if_icmp .le 18, 3) := by decide +kernel
theorem dX1_flashes_82 : decode cX1_flashes 82 = .ok (.iload_n 3, 1) := by decide +kernel
theorem dX1_flashes_83 : decode cX1_flashes 83 = .ok (.iload 5, 2) := by decide +kernel
theorem dX1_flashes_85 : decode cX1_flashes 85 = .ok (.isub, 1) := by decide +kernel
theorem dX1_flashes_86 : decode cX1_flashes 86 = .ok (.invokestatic 134, 3) := by decide +kernel
theorem dX1_flashes_89 : decode cX1_flashes 89 = .ok (.iload_n 2, 1) := by decide +kernel
theorem dX1_flashes_90 : decode cX1_flashes 90 = .ok (.if_icmp .gt 7, 3) := by decide +kernel
theorem dX1_flashes_93 : decode cX1_flashes 93 = .ok (.iconst 1, 1) := by decide +kernel
theorem dX1_flashes_94 : decode cX1_flashes 94 = .ok (.goto 4, 3) := by decide +kernel
theorem dX1_flashes_97 : decode cX1_flashes 97 = .ok (.iconst 0, 1) := by decide +kernel
theorem dX1_flashes_98 : decode cX1_flashes 98 = .ok (.ireturn, 1) := by decide +kernel
theorem dX1_meetsAnother_0 : decode cX1_meetsAnother 0 = .ok (.aload_n 0, 1) := by decide +kernel
theorem dX1_meetsAnother_1 : decode cX1_meetsAnother 1 = .ok (.getfield 12, 3) := by decide +kernel
theorem dX1_meetsAnother_4 : decode cX1_meetsAnother 4 = .ok (.iload_n 1, 1) := by decide +kernel
theorem dX1_meetsAnother_5 : decode cX1_meetsAnother 5 = .ok (.iload_n 2, 1) := by decide +kernel
theorem dX1_meetsAnother_6 : decode cX1_meetsAnother 6 = .ok (.invokevirtual 182, 3) := by decide +kernel
theorem dX1_meetsAnother_9 : decode cX1_meetsAnother 9 = .ok (.ifCond .ne 5, 3) := by decide +kernel
theorem dX1_meetsAnother_12 : decode cX1_meetsAnother 12 = .ok (.iconst 0, 1) := by decide +kernel
theorem dX1_meetsAnother_13 : decode cX1_meetsAnother 13 = .ok (.ireturn, 1) := by decide +kernel
theorem dX1_meetsAnother_14 : decode cX1_meetsAnother 14 = .ok (.iconst 0, 1) := by decide +kernel
theorem dX1_meetsAnother_15 : decode cX1_meetsAnother 15 = .ok (.istore_n 3, 1) := by decide +kernel
theorem dX1_meetsAnother_16 : decode cX1_meetsAnother 16 = .ok (.iload_n 3, 1) := by decide +kernel
theorem dX1_meetsAnother_17 : decode cX1_meetsAnother 17 = .ok (.bipush 16, 2) := by decide +kernel
theorem dX1_meetsAnother_19 : decode cX1_meetsAnother 19 = .ok (.if_icmp .ge 53, 3) := by decide +kernel
theorem dX1_meetsAnother_22 : decode cX1_meetsAnother 22 = .ok (.iload_n 3, 1) := by decide +kernel
theorem dX1_meetsAnother_23 : decode cX1_meetsAnother 23 = .ok (.iload_n 2, 1) := by decide +kernel
theorem dX1_meetsAnother_24 : decode cX1_meetsAnother 24 = .ok (.if_icmp .eq 42, 3) := by decide +kernel
theorem dX1_meetsAnother_27 : decode cX1_meetsAnother 27 = .ok (.aload_n 0, 1) := by decide +kernel
theorem dX1_meetsAnother_28 : decode cX1_meetsAnother 28 = .ok (.getfield 12, 3) := by decide +kernel
theorem dX1_meetsAnother_31 : decode cX1_meetsAnother 31 = .ok (.iload_n 1, 1) := by decide +kernel
theorem dX1_meetsAnother_32 : decode cX1_meetsAnother 32 = .ok (.iload_n 3, 1) := by decide +kernel
theorem dX1_meetsAnother_33 : decode cX1_meetsAnother 33 = .ok (.invokevirtual 182, 3) := by decide +kernel
theorem dX1_meetsAnother_36 : decode cX1_meetsAnother 36 = .ok (.ifCond .le 30, 3) := by decide +kernel
theorem dX1_meetsAnother_39 : decode cX1_meetsAnother 39 = .ok (.aload_n 0, 1) := by decide +kernel
theorem dX1_meetsAnother_40 : decode cX1_meetsAnother 40 = .ok (.getfield 39, 3) := by decide +kernel
theorem dX1_meetsAnother_43 : decode cX1_meetsAnother 43 = .ok (.iload_n 1, 1) := by decide +kernel
theorem dX1_meetsAnother_44 : decode cX1_meetsAnother 44 = .ok (.bipush 16, 2) := by decide +kernel
theorem dX1_meetsAnother_46 : decode cX1_meetsAnother 46 = .ok (.imul, 1) := by decide +kernel
theorem dX1_meetsAnother_47 : decode cX1_meetsAnother 47 = .ok (.iload_n 3, 1) := by decide +kernel
theorem dX1_meetsAnother_48 : decode cX1_meetsAnother 48 = .ok (.iadd, 1) := by decide +kernel
theorem dX1_meetsAnother_49 : decode cX1_meetsAnother 49 = .ok (.iaload, 1) := by decide +kernel
theorem dX1_meetsAnother_50 : decode cX1_meetsAnother 50 = .ok (.aload_n 0, 1) := by decide +kernel
theorem dX1_meetsAnother_51 : decode cX1_meetsAnother 51 = .ok (.getfield 39, 3) := by decide +kernel
theorem dX1_meetsAnother_54 : decode cX1_meetsAnother 54 = .ok (.iload_n 1, 1) := by decide +kernel
theorem dX1_meetsAnother_55 : decode cX1_meetsAnother 55 = .ok (.bipush 16, 2) := by decide +kernel
theorem dX1_meetsAnother_57 : decode cX1_meetsAnother 57 = .ok (.imul, 1) := by decide +kernel
theorem dX1_meetsAnother_58 : decode cX1_meetsAnother 58 = .ok (.iload_n 2, 1) := by decide +kernel
theorem dX1_meetsAnother_59 : decode cX1_meetsAnother 59 = .ok (.iadd, 1) := by decide +kernel
theorem dX1_meetsAnother_60 : decode cX1_meetsAnother 60 = .ok (.iaload, 1) := by decide +kernel
theorem dX1_meetsAnother_61 : decode cX1_meetsAnother 61 = .ok (.if_icmp .ne 5, 3) := by decide +kernel
theorem dX1_meetsAnother_64 : decode cX1_meetsAnother 64 = .ok (.iconst 1, 1) := by decide +kernel
theorem dX1_meetsAnother_65 : decode cX1_meetsAnother 65 = .ok (.ireturn, 1) := by decide +kernel
theorem dX1_meetsAnother_66 : decode cX1_meetsAnother 66 = .ok (.iinc 3 1, 3) := by decide +kernel
theorem dX1_meetsAnother_69 : decode cX1_meetsAnother 69 = .ok (.goto (-53), 3) := by decide +kernel
theorem dX1_meetsAnother_72 : decode cX1_meetsAnother 72 = .ok (.iconst 0, 1) := by decide +kernel
theorem dX1_meetsAnother_73 : decode cX1_meetsAnother 73 = .ok (.ireturn, 1) := by decide +kernel
theorem dX2_init_0 : decode cX2_init 0 = .ok (.aload_n 0, 1) := by decide +kernel
theorem dX2_init_1 : decode cX2_init 1 = .ok (.invokespecial 3, 3) := by decide +kernel
theorem dX2_init_4 : decode cX2_init 4 = .ok (.aload_n 0, 1) := by decide +kernel
theorem dX2_init_5 : decode cX2_init 5 = .ok (.sipush 1536, 3) := by decide +kernel
theorem dX2_init_8 : decode cX2_init 8 = .ok (.newarray .int, 2) := by decide +kernel
theorem dX2_init_10 : decode cX2_init 10 = .ok (.putfield 9, 3) := by decide +kernel
theorem dX2_init_13 : decode cX2_init 13 = .ok (.aload_n 0, 1) := by decide +kernel
theorem dX2_init_14 : decode cX2_init 14 = .ok (.bipush 24, 2) := by decide +kernel
theorem dX2_init_16 : decode cX2_init 16 = .ok (.newarray .int, 2) := by decide +kernel
theorem dX2_init_18 : decode cX2_init 18 = .ok (.putfield 15, 3) := by decide +kernel
theorem dX2_init_21 : decode cX2_init 21 = .ok (.aload_n 0, 1) := by decide +kernel
theorem dX2_init_22 : decode cX2_init 22 = .ok (.bipush 24, 2) := by decide +kernel
theorem dX2_init_24 : decode cX2_init 24 = .ok (.newarray .int, 2) := by decide +kernel
theorem dX2_init_26 : decode cX2_init 26 = .ok (.putfield 18, 3) := by decide +kernel
theorem dX2_init_29 : decode cX2_init 29 = .ok (.aload_n 0, 1) := by decide +kernel
theorem dX2_init_30 : decode cX2_init 30 = .ok (.bipush 6, 2) := by decide +kernel
theorem dX2_init_32 : decode cX2_init 32 = .ok (.newarray .int, 2) := by decide +kernel
theorem dX2_init_34 : decode cX2_init 34 = .ok (.putfield 21, 3) := by decide +kernel
theorem dX2_init_37 : decode cX2_init 37 = .ok (.aload_n 0, 1) := by decide +kernel
theorem dX2_init_38 : decode cX2_init 38 = .ok (.iconst 4, 1) := by decide +kernel
theorem dX2_init_39 : decode cX2_init 39 = .ok (.newarray .int, 2) := by decide +kernel
theorem dX2_init_41 : decode cX2_init 41 = .ok (.putfield 24, 3) := by decide +kernel
theorem dX2_init_44 : decode cX2_init 44 = .ok (.aload_n 0, 1) := by decide +kernel
theorem dX2_init_45 : decode cX2_init 45 = .ok (.invokevirtual 27, 3) := by decide +kernel
theorem dX2_init_48 : decode cX2_init 48 = .ok (.return_, 1) := by decide +kernel
theorem dX2_clear_0 : decode cX2_clear 0 = .ok (.aload_n 0, 1) := by decide +kernel
theorem dX2_clear_1 : decode cX2_clear 1 = .ok (.iconst 4, 1) := by decide +kernel
theorem dX2_clear_2 : decode cX2_clear 2 = .ok (.putfield 30, 3) := by decide +kernel
theorem dX2_clear_5 : decode cX2_clear 5 = .ok (.aload_n 0, 1) := by decide +kernel
theorem dX2_clear_6 : decode cX2_clear 6 = .ok (.iconst 4, 1) := by decide +kernel
theorem dX2_clear_7 : decode cX2_clear 7 = .ok (.putfield 34, 3) := by decide +kernel
theorem dX2_clear_10 : decode cX2_clear 10 = .ok (.aload_n 0, 1) := by decide +kernel
theorem dX2_clear_11 : decode cX2_clear 11 = .ok (.iconst 0, 1) := by decide +kernel
theorem dX2_clear_12 : decode cX2_clear 12 = .ok (.putfield 37, 3) := by decide +kernel
theorem dX2_clear_15 : decode cX2_clear 15 = .ok (.aload_n 0, 1) := by decide +kernel
theorem dX2_clear_16 : decode cX2_clear 16 = .ok (.getfield 15, 3) := by decide +kernel
theorem dX2_clear_19 : decode cX2_clear 19 = .ok (.iconst 0, 1) := by decide +kernel
theorem dX2_clear_20 : decode cX2_clear 20 = .ok (.invokestatic 40, 3) := by decide +kernel
theorem dX2_clear_23 : decode cX2_clear 23 = .ok (.aload_n 0, 1) := by decide +kernel
theorem dX2_clear_24 : decode cX2_clear 24 = .ok (.getfield 18, 3) := by decide +kernel
theorem dX2_clear_27 : decode cX2_clear 27 = .ok (.iconst 0, 1) := by decide +kernel
theorem dX2_clear_28 : decode cX2_clear 28 = .ok (.invokestatic 40, 3) := by decide +kernel
theorem dX2_clear_31 : decode cX2_clear 31 = .ok (.aload_n 0, 1) := by decide +kernel
theorem dX2_clear_32 : decode cX2_clear 32 = .ok (.getfield 24, 3) := by decide +kernel
theorem dX2_clear_35 : decode cX2_clear 35 = .ok (.iconst 1, 1) := by decide +kernel
theorem dX2_clear_36 : decode cX2_clear 36 = .ok (.invokestatic 40, 3) := by decide +kernel
theorem dX2_clear_39 : decode cX2_clear 39 = .ok (.getstatic 46, 3) := by decide +kernel
theorem dX2_clear_42 : decode cX2_clear 42 = .ok (.iconst 0, 1) := by decide +kernel
theorem dX2_clear_43 : decode cX2_clear 43 = .ok (.aload_n 0, 1) := by decide +kernel
theorem dX2_clear_44 : decode cX2_clear 44 = .ok (.getfield 21, 3) := by decide +kernel
theorem dX2_clear_47 : decode cX2_clear 47 = .ok (.iconst 0, 1) := by decide +kernel
theorem dX2_clear_48 : decode cX2_clear 48 = .ok (.bipush 6, 2) := by decide +kernel
theorem dX2_clear_50 : decode cX2_clear 50 = .ok (.invokestatic 49, 3) := by decide +kernel
theorem dX2_clear_53 : decode cX2_clear 53 = .ok (.return_, 1) := by decide +kernel
theorem dX2_copyFrom_0 : decode cX2_copyFrom 0 = .ok (.aload_n 0, 1) := by decide +kernel
theorem dX2_copyFrom_1 : decode cX2_copyFrom 1 = .ok (.aload_n 1, 1) := by decide +kernel
theorem dX2_copyFrom_2 : decode cX2_copyFrom 2 = .ok (.getfield 30, 3) := by decide +kernel
theorem dX2_copyFrom_5 : decode cX2_copyFrom 5 = .ok (.putfield 30, 3) := by decide +kernel
theorem dX2_copyFrom_8 : decode cX2_copyFrom 8 = .ok (.aload_n 0, 1) := by decide +kernel
theorem dX2_copyFrom_9 : decode cX2_copyFrom 9 = .ok (.aload_n 1, 1) := by decide +kernel
theorem dX2_copyFrom_10 : decode cX2_copyFrom 10 = .ok (.getfield 34, 3) := by decide +kernel
theorem dX2_copyFrom_13 : decode cX2_copyFrom 13 = .ok (.putfield 34, 3) := by decide +kernel
theorem dX2_copyFrom_16 : decode cX2_copyFrom 16 = .ok (.aload_n 0, 1) := by decide +kernel
theorem dX2_copyFrom_17 : decode cX2_copyFrom 17 = .ok (.aload_n 1, 1) := by decide +kernel
theorem dX2_copyFrom_18 : decode cX2_copyFrom 18 = .ok (.getfield 37, 3) := by decide +kernel
theorem dX2_copyFrom_21 : decode cX2_copyFrom 21 = .ok (.putfield 37, 3) := by decide +kernel
theorem dX2_copyFrom_24 : decode cX2_copyFrom 24 = .ok (.aload_n 0, 1) := by decide +kernel
theorem dX2_copyFrom_25 : decode cX2_copyFrom 25 = .ok (.aload_n 1, 1) := by decide +kernel
theorem dX2_copyFrom_26 : decode cX2_copyFrom 26 = .ok (.getfield 9, 3) := by decide +kernel
theorem dX2_copyFrom_29 : decode cX2_copyFrom 29 = .ok (.invokevirtual 55, 3) := by decide +kernel
theorem dX2_copyFrom_32 : decode cX2_copyFrom 32 = .ok (.aload_n 1, 1) := by decide +kernel
theorem dX2_copyFrom_33 : decode cX2_copyFrom 33 = .ok (.getfield 15, 3) := by decide +kernel
theorem dX2_copyFrom_36 : decode cX2_copyFrom 36 = .ok (.iconst 0, 1) := by decide +kernel
theorem dX2_copyFrom_37 : decode cX2_copyFrom 37 = .ok (.aload_n 0, 1) := by decide +kernel
theorem dX2_copyFrom_38 : decode cX2_copyFrom 38 = .ok (.getfield 15, 3) := by decide +kernel
theorem dX2_copyFrom_41 : decode cX2_copyFrom 41 = .ok (.iconst 0, 1) := by decide +kernel
theorem dX2_copyFrom_42 : decode cX2_copyFrom 42 = .ok (.bipush 24, 2) := by decide +kernel
theorem dX2_copyFrom_44 : decode cX2_copyFrom 44 = .ok (.invokestatic 49, 3) := by decide +kernel
theorem dX2_copyFrom_47 : decode cX2_copyFrom 47 = .ok (.aload_n 1, 1) := by decide +kernel
theorem dX2_copyFrom_48 : decode cX2_copyFrom 48 = .ok (.getfield 18, 3) := by decide +kernel
theorem dX2_copyFrom_51 : decode cX2_copyFrom 51 = .ok (.iconst 0, 1) := by decide +kernel
theorem dX2_copyFrom_52 : decode cX2_copyFrom 52 = .ok (.aload_n 0, 1) := by decide +kernel
theorem dX2_copyFrom_53 : decode cX2_copyFrom 53 = .ok (.getfield 18, 3) := by decide +kernel
theorem dX2_copyFrom_56 : decode cX2_copyFrom 56 = .ok (.iconst 0, 1) := by decide +kernel
theorem dX2_copyFrom_57 : decode cX2_copyFrom 57 = .ok (.bipush 24, 2) := by decide +kernel
theorem dX2_copyFrom_59 : decode cX2_copyFrom 59 = .ok (.invokestatic 49, 3) := by decide +kernel
theorem dX2_copyFrom_62 : decode cX2_copyFrom 62 = .ok (.aload_n 1, 1) := by decide +kernel
theorem dX2_copyFrom_63 : decode cX2_copyFrom 63 = .ok (.getfield 21, 3) := by decide +kernel
theorem dX2_copyFrom_66 : decode cX2_copyFrom 66 = .ok (.iconst 0, 1) := by decide +kernel
theorem dX2_copyFrom_67 : decode cX2_copyFrom 67 = .ok (.aload_n 0, 1) := by decide +kernel
theorem dX2_copyFrom_68 : decode cX2_copyFrom 68 = .ok (.getfield 21, 3) := by decide +kernel
theorem dX2_copyFrom_71 : decode cX2_copyFrom 71 = .ok (.iconst 0, 1) := by decide +kernel
theorem dX2_copyFrom_72 : decode cX2_copyFrom 72 = .ok (.bipush 6, 2) := by decide +kernel
theorem dX2_copyFrom_74 : decode cX2_copyFrom 74 = .ok (.invokestatic 49, 3) := by decide +kernel
theorem dX2_copyFrom_77 : decode cX2_copyFrom 77 = .ok (.aload_n 1, 1) := by decide +kernel
theorem dX2_copyFrom_78 : decode cX2_copyFrom 78 = .ok (.getfield 24, 3) := by decide +kernel
theorem dX2_copyFrom_81 : decode cX2_copyFrom 81 = .ok (.iconst 0, 1) := by decide +kernel
theorem dX2_copyFrom_82 : decode cX2_copyFrom 82 = .ok (.aload_n 0, 1) := by decide +kernel
theorem dX2_copyFrom_83 : decode cX2_copyFrom 83 = .ok (.getfield 24, 3) := by decide +kernel
theorem dX2_copyFrom_86 : decode cX2_copyFrom 86 = .ok (.iconst 0, 1) := by decide +kernel
theorem dX2_copyFrom_87 : decode cX2_copyFrom 87 = .ok (.iconst 4, 1) := by decide +kernel
theorem dX2_copyFrom_88 : decode cX2_copyFrom 88 = .ok (.invokestatic 49, 3) := by decide +kernel
theorem dX2_copyFrom_91 : decode cX2_copyFrom 91 = .ok (.return_, 1) := by decide +kernel
theorem dX2_copyDots_0 : decode cX2_copyDots 0 = .ok (.aload_n 1, 1) := by decide +kernel
theorem dX2_copyDots_1 : decode cX2_copyDots 1 = .ok (.iconst 0, 1) := by decide +kernel
theorem dX2_copyDots_2 : decode cX2_copyDots 2 = .ok (.aload_n 0, 1) := by decide +kernel
theorem dX2_copyDots_3 : decode cX2_copyDots 3 = .ok (.getfield 9, 3) := by decide +kernel
theorem dX2_copyDots_6 : decode cX2_copyDots 6 = .ok (.iconst 0, 1) := by decide +kernel
theorem dX2_copyDots_7 : decode cX2_copyDots 7 = .ok (.aload_n 0, 1) := by decide +kernel
theorem dX2_copyDots_8 : decode cX2_copyDots 8 = .ok (.getfield 37, 3) := by decide +kernel
theorem dX2_copyDots_11 : decode cX2_copyDots 11 = .ok (.bipush 64, 2) := by decide +kernel
theorem dX2_copyDots_13 : decode cX2_copyDots 13 = .ok (.imul, 1) := by decide +kernel
theorem dX2_copyDots_14 : decode cX2_copyDots 14 = .ok (.invokestatic 49, 3) := by decide +kernel
theorem dX2_copyDots_17 : decode cX2_copyDots 17 = .ok (.return_, 1) := by decide +kernel
theorem dX2_size_0 : decode cX2_size 0 = .ok (.aload_n 0, 1) := by decide +kernel
theorem dX2_size_1 : decode cX2_size 1 = .ok (.getfield 30, 3) := by decide +kernel
theorem dX2_size_4 : decode cX2_size 4 = .ok (.aload_n 0, 1) := by decide +kernel
theorem dX2_size_5 : decode cX2_size 5 = .ok (.getfield 34, 3) := by decide +kernel
theorem dX2_size_8 : decode cX2_size 8 = .ok (.imul, 1) := by decide +kernel
theorem dX2_size_9 : decode cX2_size 9 = .ok (.ireturn, 1) := by decide +kernel
theorem dX2_hasFrame_0 : decode cX2_hasFrame 0 = .ok (.iload_n 1, 1) := by decide +kernel
theorem dX2_hasFrame_1 : decode cX2_hasFrame 1 = .ok (.ifCond .lt 15, 3) := by decide +kernel
theorem dX2_hasFrame_4 : decode cX2_hasFrame 4 = .ok (.iload_n 1, 1) := by decide +kernel
theorem dX2_hasFrame_5 : decode cX2_hasFrame 5 = .ok (.aload_n 0, 1) := by decide +kernel
theorem dX2_hasFrame_6 : decode cX2_hasFrame 6 = .ok (.getfield 37, 3) := by decide +kernel
theorem dX2_hasFrame_9 : decode cX2_hasFrame 9 = .ok (.if_icmp .ge 7, 3) := by decide +kernel
theorem dX2_hasFrame_12 : decode cX2_hasFrame 12 = .ok (.iconst 1, 1) := by decide +kernel
theorem dX2_hasFrame_13 : decode cX2_hasFrame 13 = .ok (.goto 4, 3) := by decide +kernel
theorem dX2_hasFrame_16 : decode cX2_hasFrame 16 = .ok (.iconst 0, 1) := by decide +kernel
theorem dX2_hasFrame_17 : decode cX2_hasFrame 17 = .ok (.ireturn, 1) := by decide +kernel
theorem dX2_hasPlace_0 : decode cX2_hasPlace 0 = .ok (.iload_n 1, 1) := by decide +kernel
theorem dX2_hasPlace_1 : decode cX2_hasPlace 1 = .ok (.ifCond .lt 15, 3) := by decide +kernel
theorem dX2_hasPlace_4 : decode cX2_hasPlace 4 = .ok (.iload_n 1, 1) := by decide +kernel
theorem dX2_hasPlace_5 : decode cX2_hasPlace 5 = .ok (.aload_n 0, 1) := by decide +kernel
theorem dX2_hasPlace_6 : decode cX2_hasPlace 6 = .ok (.invokevirtual 59, 3) := by decide +kernel
theorem dX2_hasPlace_9 : decode cX2_hasPlace 9 = .ok (.if_icmp .ge 7, 3) := by decide +kernel
theorem dX2_hasPlace_12 : decode cX2_hasPlace 12 = .ok (.iconst 1, 1) := by decide +kernel
theorem dX2_hasPlace_13 : decode cX2_hasPlace 13 = .ok (.goto 4, 3) := by decide +kernel
theorem dX2_hasPlace_16 : decode cX2_hasPlace 16 = .ok (.iconst 0, 1) := by decide +kernel
theorem dX2_hasPlace_17 : decode cX2_hasPlace 17 = .ok (.ireturn, 1) := by decide +kernel
theorem dX2_allows_0 : decode cX2_allows 0 = .ok (.iload_n 2, 1) := by decide +kernel
theorem dX2_allows_1 : decode cX2_allows 1 = .ok (.ifCond .lt 12, 3) := by decide +kernel
theorem dX2_allows_4 : decode cX2_allows 4 = .ok (.iload_n 2, 1) := by decide +kernel
theorem dX2_allows_5 : decode cX2_allows 5 = .ok (.getstatic 63, 3) := by decide +kernel
theorem dX2_allows_8 : decode cX2_allows 8 = .ok (.iload_n 1, 1) := by decide +kernel
theorem dX2_allows_9 : decode cX2_allows 9 = .ok (.iaload, 1) := by decide +kernel
theorem dX2_allows_10 : decode cX2_allows 10 = .ok (.if_icmp .le 5, 3) := by decide +kernel
theorem dX2_allows_13 : decode cX2_allows 13 = .ok (.iconst 0, 1) := by decide +kernel
theorem dX2_allows_14 : decode cX2_allows 14 = .ok (.ireturn, 1) := by decide +kernel
theorem dX2_allows_15 : decode cX2_allows 15 = .ok (.iload_n 1, 1) := by decide +kernel
theorem dX2_allows_16 : decode cX2_allows 16 = .ok (.iconst 1, 1) := by decide +kernel
theorem dX2_allows_17 : decode cX2_allows 17 = .ok (.if_icmp .ne 19, 3) := by decide +kernel
theorem dX2_allows_20 : decode cX2_allows 20 = .ok (.iload_n 2, 1) := by decide +kernel
theorem dX2_allows_21 : decode cX2_allows 21 = .ok (.aload_n 0, 1) := by decide +kernel
theorem dX2_allows_22 : decode cX2_allows 22 = .ok (.getfield 21, 3) := by decide +kernel
theorem dX2_allows_25 : decode cX2_allows 25 = .ok (.iconst 2, 1) := by decide +kernel
theorem dX2_allows_26 : decode cX2_allows 26 = .ok (.iaload, 1) := by decide +kernel
theorem dX2_allows_27 : decode cX2_allows 27 = .ok (.if_icmp .gt 7, 3) := by decide +kernel
theorem dX2_allows_30 : decode cX2_allows 30 = .ok (.iconst 1, 1) := by decide +kernel
theorem dX2_allows_31 : decode cX2_allows 31 = .ok (.goto 4, 3) := by decide +kernel
theorem dX2_allows_34 : decode cX2_allows 34 = .ok (.iconst 0, 1) := by decide +kernel
theorem dX2_allows_35 : decode cX2_allows 35 = .ok (.ireturn, 1) := by decide +kernel
theorem dX2_allows_36 : decode cX2_allows 36 = .ok (.iload_n 1, 1) := by decide +kernel
theorem dX2_allows_37 : decode cX2_allows 37 = .ok (.iconst 2, 1) := by decide +kernel
theorem dX2_allows_38 : decode cX2_allows 38 = .ok (.if_icmp .ne 13, 3) := by decide +kernel
theorem dX2_allows_41 : decode cX2_allows 41 = .ok (.iload_n 2, 1) := by decide +kernel
theorem dX2_allows_42 : decode cX2_allows 42 = .ok (.aload_n 0, 1) := by decide +kernel
theorem dX2_allows_43 : decode cX2_allows 43 = .ok (.getfield 21, 3) := by decide +kernel
theorem dX2_allows_46 : decode cX2_allows 46 = .ok (.iconst 1, 1) := by decide +kernel
theorem dX2_allows_47 : decode cX2_allows 47 = .ok (.iaload, 1) := by decide +kernel
theorem dX2_allows_48 : decode cX2_allows 48 = .ok (.if_icmp .lt 7, 3) := by decide +kernel
theorem dX2_allows_51 : decode cX2_allows 51 = .ok (.iconst 1, 1) := by decide +kernel
theorem dX2_allows_52 : decode cX2_allows 52 = .ok (.goto 4, 3) := by decide +kernel
theorem dX2_allows_55 : decode cX2_allows 55 = .ok (.iconst 0, 1) := by decide +kernel
theorem dX2_allows_56 : decode cX2_allows 56 = .ok (.ireturn, 1) := by decide +kernel
theorem dX2_marked_0 : decode cX2_marked 0 = .ok (.iconst 0, 1) := by decide +kernel
theorem dX2_marked_1 : decode cX2_marked 1 = .ok (.istore_n 2, 1) := by decide +kernel
theorem dX2_marked_2 : decode cX2_marked 2 = .ok (.iconst 0, 1) := by decide +kernel
theorem dX2_marked_3 : decode cX2_marked 3 = .ok (.istore_n 3, 1) := by decide +kernel
theorem dX2_marked_4 : decode cX2_marked 4 = .ok (.iload_n 3, 1) := by decide +kernel
theorem dX2_marked_5 : decode cX2_marked 5 = .ok (.aload_n 0, 1) := by decide +kernel
theorem dX2_marked_6 : decode cX2_marked 6 = .ok (.getfield 37, 3) := by decide +kernel
theorem dX2_marked_9 : decode cX2_marked 9 = .ok (.if_icmp .ge 15, 3) := by decide +kernel
theorem dX2_marked_12 : decode cX2_marked 12 = .ok (.iload_n 2, 1) := by decide +kernel
theorem dX2_marked_13 : decode cX2_marked 13 = .ok (.aload_n 1, 1) := by decide +kernel
theorem dX2_marked_14 : decode cX2_marked 14 = .ok (.iload_n 3, 1) := by decide +kernel
theorem dX2_marked_15 : decode cX2_marked 15 = .ok (.iaload, 1) := by decide +kernel
theorem dX2_marked_16 : decode cX2_marked 16 = .ok (.iadd, 1) := by decide +kernel
theorem dX2_marked_17 : decode cX2_marked 17 = .ok (.istore_n 2, 1) := by decide +kernel
theorem dX2_marked_18 : decode cX2_marked 18 = .ok (.iinc 3 1, 3) := by decide +kernel
theorem dX2_marked_21 : decode cX2_marked 21 = .ok (.goto (-17), 3) := by decide +kernel
theorem dX2_marked_24 : decode cX2_marked 24 = .ok (.iload_n 2, 1) := by decide +kernel
theorem dX2_marked_25 : decode cX2_marked 25 = .ok (.ireturn, 1) := by decide +kernel
theorem dX2_firstLike_0 : decode cX2_firstLike 0 = .ok (.iconst 0, 1) := by decide +kernel
theorem dX2_firstLike_1 : decode cX2_firstLike 1 = .ok (.istore_n 2, 1) := by decide +kernel
theorem dX2_firstLike_2 : decode cX2_firstLike 2 = .ok (.iload_n 2, 1) := by decide +kernel
theorem dX2_firstLike_3 : decode cX2_firstLike 3 = .ok (.iload_n 1, 1) := by decide +kernel
theorem dX2_firstLike_4 : decode cX2_firstLike 4 = .ok (.if_icmp .ge 20, 3) := by decide +kernel
theorem dX2_firstLike_7 : decode cX2_firstLike 7 = .ok (.aload_n 0, 1) := by decide +kernel
theorem dX2_firstLike_8 : decode cX2_firstLike 8 = .ok (.iload_n 2, 1) := by decide +kernel
theorem dX2_firstLike_9 : decode cX2_firstLike 9 = .ok (.iload_n 1, 1) := by decide +kernel
theorem dX2_firstLike_10 : decode cX2_firstLike 10 = .ok (.invokevirtual 66, 3) := by decide +kernel
theorem dX2_firstLike_13 : decode cX2_firstLike 13 = .ok (.ifCond .eq 5, 3) := by decide +kernel
theorem dX2_firstLike_16 : decode cX2_firstLike 16 = .ok (.iload_n 2, 1) := by decide +kernel
theorem dX2_firstLike_17 : decode cX2_firstLike 17 = .ok (.ireturn, 1) := by decide +kernel
theorem dX2_firstLike_18 : decode cX2_firstLike 18 = .ok (.iinc 2 1, 3) := by decide +kernel
theorem dX2_firstLike_21 : decode cX2_firstLike 21 = .ok (.goto (-19), 3) := by decide +kernel
theorem dX2_firstLike_24 : decode cX2_firstLike 24 = .ok (.iload_n 1, 1) := by decide +kernel
theorem dX2_firstLike_25 : decode cX2_firstLike 25 = .ok (.ireturn, 1) := by decide +kernel
theorem dX2_sameDots_0 : decode cX2_sameDots 0 = .ok (.iconst 0, 1) := by decide +kernel
theorem dX2_sameDots_1 : decode cX2_sameDots 1 = .ok (.istore_n 3, 1) := by decide +kernel
theorem dX2_sameDots_2 : decode cX2_sameDots 2 = .ok (.iload_n 3, 1) := by decide +kernel
theorem dX2_sameDots_3 : decode cX2_sameDots 3 = .ok (.aload_n 0, 1) := by decide +kernel
theorem dX2_sameDots_4 : decode cX2_sameDots 4 = .ok (.invokevirtual 59, 3) := by decide +kernel
theorem dX2_sameDots_7 : decode cX2_sameDots 7 = .ok (.if_icmp .ge 36, 3) := by decide +kernel
theorem dX2_sameDots_10 : decode cX2_sameDots 10 = .ok (.aload_n 0, 1) := by decide +kernel
theorem dX2_sameDots_11 : decode cX2_sameDots 11 = .ok (.getfield 9, 3) := by decide +kernel
theorem dX2_sameDots_14 : decode cX2_sameDots 14 = .ok (.iload_n 1, 1) := by decide +kernel
theorem dX2_sameDots_15 : decode cX2_sameDots 15 = .ok (.bipush 64, 2) := by decide +kernel
theorem dX2_sameDots_17 : decode cX2_sameDots 17 = .ok (.imul, 1) := by decide +kernel
theorem dX2_sameDots_18 : decode cX2_sameDots 18 = .ok (.iload_n 3, 1) := by decide +kernel
theorem dX2_sameDots_19 : decode cX2_sameDots 19 = .ok (.iadd, 1) := by decide +kernel
theorem dX2_sameDots_20 : decode cX2_sameDots 20 = .ok (.iaload, 1) := by decide +kernel
theorem dX2_sameDots_21 : decode cX2_sameDots 21 = .ok (.aload_n 0, 1) := by decide +kernel
theorem dX2_sameDots_22 : decode cX2_sameDots 22 = .ok (.getfield 9, 3) := by decide +kernel
theorem dX2_sameDots_25 : decode cX2_sameDots 25 = .ok (.iload_n 2, 1) := by decide +kernel
theorem dX2_sameDots_26 : decode cX2_sameDots 26 = .ok (.bipush 64, 2) := by decide +kernel
theorem dX2_sameDots_28 : decode cX2_sameDots 28 = .ok (.imul, 1) := by decide +kernel
theorem dX2_sameDots_29 : decode cX2_sameDots 29 = .ok (.iload_n 3, 1) := by decide +kernel
theorem dX2_sameDots_30 : decode cX2_sameDots 30 = .ok (.iadd, 1) := by decide +kernel
theorem dX2_sameDots_31 : decode cX2_sameDots 31 = .ok (.iaload, 1) := by decide +kernel
theorem dX2_sameDots_32 : decode cX2_sameDots 32 = .ok (.if_icmp .eq 5, 3) := by decide +kernel
theorem dX2_sameDots_35 : decode cX2_sameDots 35 = .ok (.iconst 0, 1) := by decide +kernel
theorem dX2_sameDots_36 : decode cX2_sameDots 36 = .ok (.ireturn, 1) := by decide +kernel
theorem dX2_sameDots_37 : decode cX2_sameDots 37 = .ok (.iinc 3 1, 3) := by decide +kernel
theorem dX2_sameDots_40 : decode cX2_sameDots 40 = .ok (.goto (-38), 3) := by decide +kernel
theorem dX2_sameDots_43 : decode cX2_sameDots 43 = .ok (.iconst 1, 1) := by decide +kernel
theorem dX2_sameDots_44 : decode cX2_sameDots 44 = .ok (.ireturn, 1) := by decide +kernel
theorem dX2_keeps_0 : decode cX2_keeps 0 = .ok (.iload_n 1, 1) := by decide +kernel
theorem dX2_keeps_1 : decode cX2_keeps 1 = .ok (.aload_n 0, 1) := by decide +kernel
theorem dX2_keeps_2 : decode cX2_keeps 2 = .ok (.getfield 21, 3) := by decide +kernel
theorem dX2_keeps_5 : decode cX2_keeps 5 = .ok (.iconst 1, 1) := by decide +kernel
theorem dX2_keeps_6 : decode cX2_keeps 6 = .ok (.iaload, 1) := by decide +kernel
theorem dX2_keeps_7 : decode cX2_keeps 7 = .ok (.if_icmp .le 13, 3) := by decide +kernel
theorem dX2_keeps_10 : decode cX2_keeps 10 = .ok (.iload_n 1, 1) := by decide +kernel
theorem dX2_keeps_11 : decode cX2_keeps 11 = .ok (.aload_n 0, 1) := by decide +kernel
theorem dX2_keeps_12 : decode cX2_keeps 12 = .ok (.getfield 21, 3) := by decide +kernel
theorem dX2_keeps_15 : decode cX2_keeps 15 = .ok (.iconst 2, 1) := by decide +kernel
theorem dX2_keeps_16 : decode cX2_keeps 16 = .ok (.iaload, 1) := by decide +kernel
theorem dX2_keeps_17 : decode cX2_keeps 17 = .ok (.if_icmp .lt 7, 3) := by decide +kernel
theorem dX2_keeps_20 : decode cX2_keeps 20 = .ok (.iconst 1, 1) := by decide +kernel
theorem dX2_keeps_21 : decode cX2_keeps 21 = .ok (.goto 4, 3) := by decide +kernel
theorem dX2_keeps_24 : decode cX2_keeps 24 = .ok (.iconst 0, 1) := by decide +kernel
theorem dX2_keeps_25 : decode cX2_keeps 25 = .ok (.ireturn, 1) := by decide +kernel
theorem dX2_bounded_0 : decode cX2_bounded 0 = .ok (.iload_n 2, 1) := by decide +kernel
theorem dX2_bounded_1 : decode cX2_bounded 1 = .ok (.aload_n 0, 1) := by decide +kernel
theorem dX2_bounded_2 : decode cX2_bounded 2 = .ok (.getfield 21, 3) := by decide +kernel
theorem dX2_bounded_5 : decode cX2_bounded 5 = .ok (.iconst 1, 1) := by decide +kernel
theorem dX2_bounded_6 : decode cX2_bounded 6 = .ok (.iaload, 1) := by decide +kernel
theorem dX2_bounded_7 : decode cX2_bounded 7 = .ok (.invokestatic 70, 3) := by decide +kernel
theorem dX2_bounded_10 : decode cX2_bounded 10 = .ok (.aload_n 0, 1) := by decide +kernel
theorem dX2_bounded_11 : decode cX2_bounded 11 = .ok (.getfield 21, 3) := by decide +kernel
theorem dX2_bounded_14 : decode cX2_bounded 14 = .ok (.iconst 2, 1) := by decide +kernel
theorem dX2_bounded_15 : decode cX2_bounded 15 = .ok (.iaload, 1) := by decide +kernel
theorem dX2_bounded_16 : decode cX2_bounded 16 = .ok (.invokestatic 76, 3) := by decide +kernel
theorem dX2_bounded_19 : decode cX2_bounded 19 = .ok (.istore_n 3, 1) := by decide +kernel
theorem dX2_bounded_20 : decode cX2_bounded 20 = .ok (.aload_n 0, 1) := by decide +kernel
theorem dX2_bounded_21 : decode cX2_bounded 21 = .ok (.getfield 21, 3) := by decide +kernel
theorem dX2_bounded_24 : decode cX2_bounded 24 = .ok (.iconst 3, 1) := by decide +kernel
theorem dX2_bounded_25 : decode cX2_bounded 25 = .ok (.iaload, 1) := by decide +kernel
theorem dX2_bounded_26 : decode cX2_bounded 26 = .ok (.istore 4, 2) := by decide +kernel
theorem dX2_bounded_28 : decode cX2_bounded 28 = .ok (.iload_n 3, 1) := by decide +kernel
theorem dX2_bounded_29 : decode cX2_bounded 29 = .ok (.iload_n 1, 1) := by decide +kernel
theorem dX2_bounded_30 : decode cX2_bounded 30 = .ok (.iload 4, 2) := by decide +kernel
theorem dX2_bounded_32 : decode cX2_bounded 32 = .ok (.isub, 1) := by decide +kernel
theorem dX2_bounded_33 : decode cX2_bounded 33 = .ok (.invokestatic 70, 3) := by decide +kernel
theorem dX2_bounded_36 : decode cX2_bounded 36 = .ok (.iload_n 1, 1) := by decide +kernel
theorem dX2_bounded_37 : decode cX2_bounded 37 = .ok (.iload 4, 2) := by decide +kernel
theorem dX2_bounded_39 : decode cX2_bounded 39 = .ok (.iadd, 1) := by decide +kernel
theorem dX2_bounded_40 : decode cX2_bounded 40 = .ok (.invokestatic 76, 3) := by decide +kernel
theorem dX2_bounded_43 : decode cX2_bounded 43 = .ok (.ireturn, 1) := by decide +kernel
theorem dX3_init_0 : decode cX3_init 0 = .ok (.aload_n 0, 1) := by decide +kernel
theorem dX3_init_1 : decode cX3_init 1 = .ok (.invokespecial 3, 3) := by decide +kernel
theorem dX3_init_4 : decode cX3_init 4 = .ok (.aload_n 0, 1) := by decide +kernel
theorem dX3_init_5 : decode cX3_init 5 = .ok (.sipush 256, 3) := by decide +kernel
theorem dX3_init_8 : decode cX3_init 8 = .ok (.newarray .int, 2) := by decide +kernel
theorem dX3_init_10 : decode cX3_init 10 = .ok (.putfield 9, 3) := by decide +kernel
theorem dX3_init_13 : decode cX3_init 13 = .ok (.aload_n 0, 1) := by decide +kernel
theorem dX3_init_14 : decode cX3_init 14 = .ok (.sipush 272, 3) := by decide +kernel
theorem dX3_init_17 : decode cX3_init 17 = .ok (.newarray .int, 2) := by decide +kernel
theorem dX3_init_19 : decode cX3_init 19 = .ok (.putfield 15, 3) := by decide +kernel
theorem dX3_init_22 : decode cX3_init 22 = .ok (.return_, 1) := by decide +kernel
theorem dX3_work_0 : decode cX3_work 0 = .ok (.aload_n 0, 1) := by decide +kernel
theorem dX3_work_1 : decode cX3_work 1 = .ok (.aload_n 1, 1) := by decide +kernel
theorem dX3_work_2 : decode cX3_work 2 = .ok (.iload_n 2, 1) := by decide +kernel
theorem dX3_work_3 : decode cX3_work 3 = .ok (.iload_n 3, 1) := by decide +kernel
theorem dX3_work_4 : decode cX3_work 4 = .ok (.invokevirtual 18, 3) := by decide +kernel
theorem dX3_work_7 : decode cX3_work 7 = .ok (.bipush 15, 2) := by decide +kernel
theorem dX3_work_9 : decode cX3_work 9 = .ok (.istore 4, 2) := by decide +kernel
theorem dX3_work_11 : decode cX3_work 11 = .ok (.iload 4, 2) := by decide +kernel
theorem dX3_work_13 : decode cX3_work 13 = .ok (.ifCond .lt 58, 3) := by decide +kernel
theorem dX3_work_16 : decode cX3_work 16 = .ok (.ldc 22, 2) := by decide +kernel
theorem dX3_work_18 : decode cX3_work 18 = .ok (.istore 5, 2) := by decide +kernel
theorem dX3_work_20 : decode cX3_work 20 = .ok (.bipush 15, 2) := by decide +kernel
theorem dX3_work_22 : decode cX3_work 22 = .ok (.istore 6, 2) := by decide +kernel
theorem dX3_work_24 : decode cX3_work 24 = .ok (.iload 6, 2) := by decide +kernel
theorem dX3_work_26 : decode cX3_work 26 = .ok (.ifCond .lt 39, 3) := by decide +kernel
theorem dX3_work_29 : decode cX3_work 29 = .ok (.iload 5, 2) := by decide +kernel
theorem dX3_work_31 : decode cX3_work 31 = .ok (.aload_n 0, 1) := by decide +kernel
theorem dX3_work_32 : decode cX3_work 32 = .ok (.iload 4, 2) := by decide +kernel
theorem dX3_work_34 : decode cX3_work 34 = .ok (.iload 6, 2) := by decide +kernel
theorem dX3_work_36 : decode cX3_work 36 = .ok (.invokevirtual 23, 3) := by decide +kernel
theorem dX3_work_39 : decode cX3_work 39 = .ok (.invokestatic 27, 3) := by decide +kernel
theorem dX3_work_42 : decode cX3_work 42 = .ok (.istore 5, 2) := by decide +kernel
theorem dX3_work_44 : decode cX3_work 44 = .ok (.aload_n 0, 1) := by decide +kernel
theorem dX3_work_45 : decode cX3_work 45 = .ok (.getfield 15, 3) := by decide +kernel
theorem dX3_work_48 : decode cX3_work 48 = .ok (.iload 4, 2) := by decide +kernel
theorem dX3_work_50 : decode cX3_work 50 = .ok (.bipush 16, 2) := by decide +kernel
theorem dX3_work_52 : decode cX3_work 52 = .ok (.imul, 1) := by decide +kernel
theorem dX3_work_53 : decode cX3_work 53 = .ok (.iload 6, 2) := by decide +kernel
theorem dX3_work_55 : decode cX3_work 55 = .ok (.iadd, 1) := by decide +kernel
theorem dX3_work_56 : decode cX3_work 56 = .ok (.iload 5, 2) := by decide +kernel
theorem dX3_work_58 : decode cX3_work 58 = .ok (.iastore, 1) := by decide +kernel
theorem dX3_work_59 : decode cX3_work 59 = .ok (.iinc 6 (-1), 3) := by decide +kernel
theorem dX3_work_62 : decode cX3_work 62 = .ok (.goto (-38), 3) := by decide +kernel
theorem dX3_work_65 : decode cX3_work 65 = .ok (.iinc 4 (-1), 3) := by decide +kernel
theorem dX3_work_68 : decode cX3_work 68 = .ok (.goto (-57), 3) := by decide +kernel
theorem dX3_work_71 : decode cX3_work 71 = .ok (.return_, 1) := by decide +kernel
theorem dX3_addCosts_0 : decode cX3_addCosts 0 = .ok (.aload_n 0, 1) := by decide +kernel
theorem dX3_addCosts_1 : decode cX3_addCosts 1 = .ok (.getfield 9, 3) := by decide +kernel
theorem dX3_addCosts_4 : decode cX3_addCosts 4 = .ok (.iconst 0, 1) := by decide +kernel
theorem dX3_addCosts_5 : decode cX3_addCosts 5 = .ok (.invokestatic 32, 3) := by decide +kernel
theorem dX3_addCosts_8 : decode cX3_addCosts 8 = .ok (.iconst 0, 1) := by decide +kernel
theorem dX3_addCosts_9 : decode cX3_addCosts 9 = .ok (.istore 4, 2) := by decide +kernel
theorem dX3_addCosts_11 : decode cX3_addCosts 11 = .ok (.iload 4, 2) := by decide +kernel
theorem dX3_addCosts_13 : decode cX3_addCosts 13 = .ok (.aload_n 1, 1) := by decide +kernel
theorem dX3_addCosts_14 : decode cX3_addCosts 14 = .ok (.invokevirtual 38, 3) := by decide +kernel
theorem dX3_addCosts_17 : decode cX3_addCosts 17 = .ok (.if_icmp .ge 77, 3) := by decide +kernel
theorem dX3_addCosts_20 : decode cX3_addCosts 20 = .ok (.aload_n 1, 1) := by decide +kernel
theorem dX3_addCosts_21 : decode cX3_addCosts 21 = .ok (.getfield 44, 3) := by decide +kernel
theorem dX3_addCosts_24 : decode cX3_addCosts 24 = .ok (.iload_n 2, 1) := by decide +kernel
theorem dX3_addCosts_25 : decode cX3_addCosts 25 = .ok (.bipush 64, 2) := by decide +kernel
theorem dX3_addCosts_27 : decode cX3_addCosts 27 = .ok (.imul, 1) := by decide +kernel
theorem dX3_addCosts_28 : decode cX3_addCosts 28 = .ok (.iload 4, 2) := by decide +kernel
theorem dX3_addCosts_30 : decode cX3_addCosts 30 = .ok (.iadd, 1) := by decide +kernel
theorem dX3_addCosts_31 : decode cX3_addCosts 31 = .ok (.iaload, 1) := by decide +kernel
theorem dX3_addCosts_32 : decode cX3_addCosts 32 = .ok (.istore 5, 2) := by decide +kernel
theorem dX3_addCosts_34 : decode cX3_addCosts 34 = .ok (.aload_n 1, 1) := by decide +kernel
theorem dX3_addCosts_35 : decode cX3_addCosts 35 = .ok (.getfield 44, 3) := by decide +kernel
theorem dX3_addCosts_38 : decode cX3_addCosts 38 = .ok (.iload_n 3, 1) := by decide +kernel
theorem dX3_addCosts_39 : decode cX3_addCosts 39 = .ok (.bipush 64, 2) := by decide +kernel
theorem dX3_addCosts_41 : decode cX3_addCosts 41 = .ok (.imul, 1) := by decide +kernel
theorem dX3_addCosts_42 : decode cX3_addCosts 42 = .ok (.iload 4, 2) := by decide +kernel
theorem dX3_addCosts_44 : decode cX3_addCosts 44 = .ok (.iadd, 1) := by decide +kernel
theorem dX3_addCosts_45 : decode cX3_addCosts 45 = .ok (.iaload, 1) := by decide +kernel
theorem dX3_addCosts_46 : decode cX3_addCosts 46 = .ok (.istore 6, 2) := by decide +kernel
theorem dX3_addCosts_48 : decode cX3_addCosts 48 = .ok (.iconst 0, 1) := by decide +kernel
theorem dX3_addCosts_49 : decode cX3_addCosts 49 = .ok (.istore 7, 2) := by decide +kernel
theorem dX3_addCosts_51 : decode cX3_addCosts 51 = .ok (.iload 7, 2) := by decide +kernel
theorem dX3_addCosts_53 : decode cX3_addCosts 53 = .ok (.bipush 16, 2) := by decide +kernel
theorem dX3_addCosts_55 : decode cX3_addCosts 55 = .ok (.if_icmp .ge 33, 3) := by decide +kernel
theorem dX3_addCosts_58 : decode cX3_addCosts 58 = .ok (.aload_n 0, 1) := by decide +kernel
theorem dX3_addCosts_59 : decode cX3_addCosts 59 = .ok (.getfield 9, 3) := by decide +kernel
theorem dX3_addCosts_62 : decode cX3_addCosts 62 = .ok (.iload 5, 2) := by decide +kernel
theorem dX3_addCosts_64 : decode cX3_addCosts 64 = .ok (.bipush 16, 2) := by decide +kernel
theorem dX3_addCosts_66 : decode cX3_addCosts 66 = .ok (.imul, 1) := by decide +kernel
theorem dX3_addCosts_67 : decode cX3_addCosts 67 = .ok (.iload 7, 2) := by decide +kernel
theorem dX3_addCosts_69 : decode cX3_addCosts 69 = .ok (.iadd, 1) := by decide +kernel
theorem dX3_addCosts_70 : decode cX3_addCosts 70 = .ok (.dup2, 1) := by decide +kernel
theorem dX3_addCosts_71 : decode cX3_addCosts 71 = .ok (.iaload, 1) := by decide +kernel
theorem dX3_addCosts_72 : decode cX3_addCosts 72 = .ok (.iload 7, 2) := by decide +kernel
theorem dX3_addCosts_74 : decode cX3_addCosts 74 = .ok (.iload 6, 2) := by decide +kernel
theorem dX3_addCosts_76 : decode cX3_addCosts 76 = .ok (.isub, 1) := by decide +kernel
theorem dX3_addCosts_77 : decode cX3_addCosts 77 = .ok (.invokestatic 47, 3) := by decide +kernel
theorem dX3_addCosts_80 : decode cX3_addCosts 80 = .ok (.iadd, 1) := by decide +kernel
theorem dX3_addCosts_81 : decode cX3_addCosts 81 = .ok (.iastore, 1) := by decide +kernel
theorem dX3_addCosts_82 : decode cX3_addCosts 82 = .ok (.iinc 7 1, 3) := by decide +kernel
theorem dX3_addCosts_85 : decode cX3_addCosts 85 = .ok (.goto (-34), 3) := by decide +kernel
theorem dX3_addCosts_88 : decode cX3_addCosts 88 = .ok (.iinc 4 1, 3) := by decide +kernel
theorem dX3_addCosts_91 : decode cX3_addCosts 91 = .ok (.goto (-80), 3) := by decide +kernel
theorem dX3_addCosts_94 : decode cX3_addCosts 94 = .ok (.return_, 1) := by decide +kernel
theorem dX3_costBy_0 : decode cX3_costBy 0 = .ok (.aload_n 0, 1) := by decide +kernel
theorem dX3_costBy_1 : decode cX3_costBy 1 = .ok (.getfield 9, 3) := by decide +kernel
theorem dX3_costBy_4 : decode cX3_costBy 4 = .ok (.iload_n 1, 1) := by decide +kernel
theorem dX3_costBy_5 : decode cX3_costBy 5 = .ok (.bipush 16, 2) := by decide +kernel
theorem dX3_costBy_7 : decode cX3_costBy 7 = .ok (.imul, 1) := by decide +kernel
theorem dX3_costBy_8 : decode cX3_costBy 8 = .ok (.iload_n 2, 1) := by decide +kernel
theorem dX3_costBy_9 : decode cX3_costBy 9 = .ok (.iadd, 1) := by decide +kernel
theorem dX3_costBy_10 : decode cX3_costBy 10 = .ok (.iaload, 1) := by decide +kernel
theorem dX3_costBy_11 : decode cX3_costBy 11 = .ok (.aload_n 0, 1) := by decide +kernel
theorem dX3_costBy_12 : decode cX3_costBy 12 = .ok (.getfield 15, 3) := by decide +kernel
theorem dX3_costBy_15 : decode cX3_costBy 15 = .ok (.iload_n 1, 1) := by decide +kernel
theorem dX3_costBy_16 : decode cX3_costBy 16 = .ok (.iconst 1, 1) := by decide +kernel
theorem dX3_costBy_17 : decode cX3_costBy 17 = .ok (.iadd, 1) := by decide +kernel
theorem dX3_costBy_18 : decode cX3_costBy 18 = .ok (.bipush 16, 2) := by decide +kernel
theorem dX3_costBy_20 : decode cX3_costBy 20 = .ok (.imul, 1) := by decide +kernel
theorem dX3_costBy_21 : decode cX3_costBy 21 = .ok (.iload_n 2, 1) := by decide +kernel
theorem dX3_costBy_22 : decode cX3_costBy 22 = .ok (.iadd, 1) := by decide +kernel
theorem dX3_costBy_23 : decode cX3_costBy 23 = .ok (.iaload, 1) := by decide +kernel
theorem dX3_costBy_24 : decode cX3_costBy 24 = .ok (.iadd, 1) := by decide +kernel
theorem dX3_costBy_25 : decode cX3_costBy 25 = .ok (.ireturn, 1) := by decide +kernel
theorem dX3_comesTo_0 : decode cX3_comesTo 0 = .ok (.iconst 0, 1) := by decide +kernel
theorem dX3_comesTo_1 : decode cX3_comesTo 1 = .ok (.istore_n 2, 1) := by decide +kernel
theorem dX3_comesTo_2 : decode cX3_comesTo 2 = .ok (.iconst 0, 1) := by decide +kernel
theorem dX3_comesTo_3 : decode cX3_comesTo 3 = .ok (.istore_n 3, 1) := by decide +kernel
theorem dX3_comesTo_4 : decode cX3_comesTo 4 = .ok (.iload_n 3, 1) := by decide +kernel
theorem dX3_comesTo_5 : decode cX3_comesTo 5 = .ok (.iload_n 1, 1) := by decide +kernel
theorem dX3_comesTo_6 : decode cX3_comesTo 6 = .ok (.if_icmp .gt 41, 3) := by decide +kernel
theorem dX3_comesTo_9 : decode cX3_comesTo 9 = .ok (.iload_n 2, 1) := by decide +kernel
theorem dX3_comesTo_10 : decode cX3_comesTo 10 = .ok (.bipush 15, 2) := by decide +kernel
theorem dX3_comesTo_12 : decode cX3_comesTo 12 = .ok (.if_icmp .ge 29, 3) := by decide +kernel
theorem dX3_comesTo_15 : decode cX3_comesTo 15 = .ok (.aload_n 0, 1) := by decide +kernel
theorem dX3_comesTo_16 : decode cX3_comesTo 16 = .ok (.iload_n 3, 1) := by decide +kernel
theorem dX3_comesTo_17 : decode cX3_comesTo 17 = .ok (.iload_n 2, 1) := by decide +kernel
theorem dX3_comesTo_18 : decode cX3_comesTo 18 = .ok (.invokevirtual 23, 3) := by decide +kernel
theorem dX3_comesTo_21 : decode cX3_comesTo 21 = .ok (.aload_n 0, 1) := by decide +kernel
theorem dX3_comesTo_22 : decode cX3_comesTo 22 = .ok (.getfield 15, 3) := by decide +kernel
theorem dX3_comesTo_25 : decode cX3_comesTo 25 = .ok (.iload_n 3, 1) := by decide +kernel
theorem dX3_comesTo_26 : decode cX3_comesTo 26 = .ok (.bipush 16, 2) := by decide +kernel
theorem dX3_comesTo_28 : decode cX3_comesTo 28 = .ok (.imul, 1) := by decide +kernel
theorem dX3_comesTo_29 : decode cX3_comesTo 29 = .ok (.iload_n 2, 1) := by decide +kernel
theorem dX3_comesTo_30 : decode cX3_comesTo 30 = .ok (.iadd, 1) := by decide +kernel
theorem dX3_comesTo_31 : decode cX3_comesTo 31 = .ok (.iaload, 1) := by decide +kernel
theorem dX3_comesTo_32 : decode cX3_comesTo 32 = .ok (.if_icmp .le 9, 3) := by decide +kernel
theorem dX3_comesTo_35 : decode cX3_comesTo 35 = .ok (.iinc 2 1, 3) := by decide +kernel
theorem dX3_comesTo_38 : decode cX3_comesTo 38 = .ok (.goto (-29), 3) := by decide +kernel
theorem dX3_comesTo_41 : decode cX3_comesTo 41 = .ok (.iinc 3 1, 3) := by decide +kernel
theorem dX3_comesTo_44 : decode cX3_comesTo 44 = .ok (.goto (-40), 3) := by decide +kernel
theorem dX3_comesTo_47 : decode cX3_comesTo 47 = .ok (.iload_n 2, 1) := by decide +kernel
theorem dX3_comesTo_48 : decode cX3_comesTo 48 = .ok (.ireturn, 1) := by decide +kernel
theorem dX4_init_0 : decode cX4_init 0 = .ok (.aload_n 0, 1) := by decide +kernel
theorem dX4_init_1 : decode cX4_init 1 = .ok (.invokespecial 3, 3) := by decide +kernel
theorem dX4_init_4 : decode cX4_init 4 = .ok (.return_, 1) := by decide +kernel
theorem dX4_work_0 : decode cX4_work 0 = .ok (.aload_n 0, 1) := by decide +kernel
theorem dX4_work_1 : decode cX4_work 1 = .ok (.iconst (-1), 1) := by decide +kernel
theorem dX4_work_2 : decode cX4_work 2 = .ok (.putfield 9, 3) := by decide +kernel
theorem dX4_work_5 : decode cX4_work 5 = .ok (.bipush (-2), 2) := by decide +kernel
theorem dX4_work_7 : decode cX4_work 7 = .ok (.istore_n 3, 1) := by decide +kernel
theorem dX4_work_8 : decode cX4_work 8 = .ok (.iload_n 3, 1) := by decide +kernel
theorem dX4_work_9 : decode cX4_work 9 = .ok (.iconst 2, 1) := by decide +kernel
theorem dX4_work_10 : decode cX4_work 10 = .ok (.if_icmp .gt 80, 3) := by decide +kernel
theorem dX4_work_13 : decode cX4_work 13 = .ok (.bipush (-2), 2) := by decide +kernel
theorem dX4_work_15 : decode cX4_work 15 = .ok (.istore 4, 2) := by decide +kernel
theorem dX4_work_17 : decode cX4_work 17 = .ok (.iload 4, 2) := by decide +kernel
theorem dX4_work_19 : decode cX4_work 19 = .ok (.iconst 2, 1) := by decide +kernel
theorem dX4_work_20 : decode cX4_work 20 = .ok (.if_icmp .gt 64, 3) := by decide +kernel
theorem dX4_work_23 : decode cX4_work 23 = .ok (.aload_n 1, 1) := by decide +kernel
theorem dX4_work_24 : decode cX4_work 24 = .ok (.iload_n 2, 1) := by decide +kernel
theorem dX4_work_25 : decode cX4_work 25 = .ok (.iload_n 3, 1) := by decide +kernel
theorem dX4_work_26 : decode cX4_work 26 = .ok (.iload 4, 2) := by decide +kernel
theorem dX4_work_28 : decode cX4_work 28 = .ok (.invokestatic 15, 3) := by decide +kernel
theorem dX4_work_31 : decode cX4_work 31 = .ok (.istore 5, 2) := by decide +kernel
theorem dX4_work_33 : decode cX4_work 33 = .ok (.iload 5, 2) := by decide +kernel
theorem dX4_work_35 : decode cX4_work 35 = .ok (.aload_n 0, 1) := by decide +kernel
theorem dX4_work_36 : decode cX4_work 36 = .ok (.getfield 9, 3) := by decide +kernel
theorem dX4_work_39 : decode cX4_work 39 = .ok (.if_icmp .gt 22, 3) := by decide +kernel
theorem dX4_work_42 : decode cX4_work 42 = .ok (.iload 5, 2) := by decide +kernel
theorem dX4_work_44 : decode cX4_work 44 = .ok (.aload_n 0, 1) := by decide +kernel
theorem dX4_work_45 : decode cX4_work 45 = .ok (.getfield 9, 3) := by decide +kernel
theorem dX4_work_48 : decode cX4_work 48 = .ok (.if_icmp .ne 30, 3) := by decide +kernel
theorem dX4_work_51 : decode cX4_work 51 = .ok (.aload_n 0, 1) := by decide +kernel
theorem dX4_work_52 : decode cX4_work 52 = .ok (.iload_n 3, 1) := by decide +kernel
theorem dX4_work_53 : decode cX4_work 53 = .ok (.iload 4, 2) := by decide +kernel
theorem dX4_work_55 : decode cX4_work 55 = .ok (.invokevirtual 19, 3) := by decide +kernel
theorem dX4_work_58 : decode cX4_work 58 = .ok (.ifCond .eq 20, 3) := by decide +kernel
theorem dX4_work_61 : decode cX4_work 61 = .ok (.aload_n 0, 1) := by decide +kernel
theorem dX4_work_62 : decode cX4_work 62 = .ok (.iload_n 3, 1) := by decide +kernel
theorem dX4_work_63 : decode cX4_work 63 = .ok (.putfield 23, 3) := by decide +kernel
theorem dX4_work_66 : decode cX4_work 66 = .ok (.aload_n 0, 1) := by decide +kernel
theorem dX4_work_67 : decode cX4_work 67 = .ok (.iload 4, 2) := by decide +kernel
theorem dX4_work_69 : decode cX4_work 69 = .ok (.putfield 26, 3) := by decide +kernel
theorem dX4_work_72 : decode cX4_work 72 = .ok (.aload_n 0, 1) := by decide +kernel
theorem dX4_work_73 : decode cX4_work 73 = .ok (.iload 5, 2) := by decide +kernel
theorem dX4_work_75 : decode cX4_work 75 = .ok (.putfield 9, 3) := by decide +kernel
theorem dX4_work_78 : decode cX4_work 78 = .ok (.iinc 4 1, 3) := by decide +kernel
theorem dX4_work_81 : decode cX4_work 81 = .ok (.goto (-64), 3) := by decide +kernel
theorem dX4_work_84 : decode cX4_work 84 = .ok (.iinc 3 1, 3) := by decide +kernel
theorem dX4_work_87 : decode cX4_work 87 = .ok (.goto (-79), 3) := by decide +kernel
theorem dX4_work_90 : decode cX4_work 90 = .ok (.return_, 1) := by decide +kernel
theorem dX4_isShorter_0 : decode cX4_isShorter 0 = .ok (.iload_n 1, 1) := by decide +kernel
theorem dX4_isShorter_1 : decode cX4_isShorter 1 = .ok (.invokestatic 29, 3) := by decide +kernel
theorem dX4_isShorter_4 : decode cX4_isShorter 4 = .ok (.iload_n 2, 1) := by decide +kernel
theorem dX4_isShorter_5 : decode cX4_isShorter 5 = .ok (.invokestatic 29, 3) := by decide +kernel
theorem dX4_isShorter_8 : decode cX4_isShorter 8 = .ok (.iadd, 1) := by decide +kernel
theorem dX4_isShorter_9 : decode cX4_isShorter 9 = .ok (.aload_n 0, 1) := by decide +kernel
theorem dX4_isShorter_10 : decode cX4_isShorter 10 = .ok (.getfield 23, 3) := by decide +kernel
theorem dX4_isShorter_13 : decode cX4_isShorter 13 = .ok (.invokestatic 29, 3) := by decide +kernel
theorem dX4_isShorter_16 : decode cX4_isShorter 16 = .ok (.aload_n 0, 1) := by decide +kernel
theorem dX4_isShorter_17 : decode cX4_isShorter 17 = .ok (.getfield 26, 3) := by decide +kernel
theorem dX4_isShorter_20 : decode cX4_isShorter 20 = .ok (.invokestatic 29, 3) := by decide +kernel
theorem dX4_isShorter_23 : decode cX4_isShorter 23 = .ok (.iadd, 1) := by decide +kernel
theorem dX4_isShorter_24 : decode cX4_isShorter 24 = .ok (.if_icmp .ge 7, 3) := by decide +kernel
theorem dX4_isShorter_27 : decode cX4_isShorter 27 = .ok (.iconst 1, 1) := by decide +kernel
theorem dX4_isShorter_28 : decode cX4_isShorter 28 = .ok (.goto 4, 3) := by decide +kernel
theorem dX4_isShorter_31 : decode cX4_isShorter 31 = .ok (.iconst 0, 1) := by decide +kernel
theorem dX4_isShorter_32 : decode cX4_isShorter 32 = .ok (.ireturn, 1) := by decide +kernel
theorem dX4_sameDots_0 : decode cX4_sameDots 0 = .ok (.iconst 0, 1) := by decide +kernel
theorem dX4_sameDots_1 : decode cX4_sameDots 1 = .ok (.istore 4, 2) := by decide +kernel
theorem dX4_sameDots_3 : decode cX4_sameDots 3 = .ok (.iconst 0, 1) := by decide +kernel
theorem dX4_sameDots_4 : decode cX4_sameDots 4 = .ok (.iload_n 3, 1) := by decide +kernel
theorem dX4_sameDots_5 : decode cX4_sameDots 5 = .ok (.ineg, 1) := by decide +kernel
theorem dX4_sameDots_6 : decode cX4_sameDots 6 = .ok (.invokestatic 35, 3) := by decide +kernel
theorem dX4_sameDots_9 : decode cX4_sameDots 9 = .ok (.istore 5, 2) := by decide +kernel
theorem dX4_sameDots_11 : decode cX4_sameDots 11 = .ok (.iload 5, 2) := by decide +kernel
theorem dX4_sameDots_13 : decode cX4_sameDots 13 = .ok (.aload_n 0, 1) := by decide +kernel
theorem dX4_sameDots_14 : decode cX4_sameDots 14 = .ok (.getfield 39, 3) := by decide +kernel
theorem dX4_sameDots_17 : decode cX4_sameDots 17 = .ok (.aload_n 0, 1) := by decide +kernel
theorem dX4_sameDots_18 : decode cX4_sameDots 18 = .ok (.getfield 39, 3) := by decide +kernel
theorem dX4_sameDots_21 : decode cX4_sameDots 21 = .ok (.iload_n 3, 1) := by decide +kernel
theorem dX4_sameDots_22 : decode cX4_sameDots 22 = .ok (.isub, 1) := by decide +kernel
theorem dX4_sameDots_23 : decode cX4_sameDots 23 = .ok (.invokestatic 44, 3) := by decide +kernel
theorem dX4_sameDots_26 : decode cX4_sameDots 26 = .ok (.if_icmp .ge 101, 3) := by decide +kernel
theorem dX4_sameDots_29 : decode cX4_sameDots 29 = .ok (.iconst 0, 1) := by decide +kernel
theorem dX4_sameDots_30 : decode cX4_sameDots 30 = .ok (.iload_n 2, 1) := by decide +kernel
theorem dX4_sameDots_31 : decode cX4_sameDots 31 = .ok (.ineg, 1) := by decide +kernel
theorem dX4_sameDots_32 : decode cX4_sameDots 32 = .ok (.invokestatic 35, 3) := by decide +kernel
theorem dX4_sameDots_35 : decode cX4_sameDots 35 = .ok (.istore 6, 2) := by decide +kernel
theorem dX4_sameDots_37 : decode cX4_sameDots 37 = .ok (.iload 6, 2) := by decide +kernel
theorem dX4_sameDots_39 : decode cX4_sameDots 39 = .ok (.aload_n 0, 1) := by decide +kernel
theorem dX4_sameDots_40 : decode cX4_sameDots 40 = .ok (.getfield 47, 3) := by decide +kernel
theorem dX4_sameDots_43 : decode cX4_sameDots 43 = .ok (.aload_n 0, 1) := by decide +kernel
theorem dX4_sameDots_44 : decode cX4_sameDots 44 = .ok (.getfield 47, 3) := by decide +kernel
theorem dX4_sameDots_47 : decode cX4_sameDots 47 = .ok (.iload_n 2, 1) := by decide +kernel
theorem dX4_sameDots_48 : decode cX4_sameDots 48 = .ok (.isub, 1) := by decide +kernel
theorem dX4_sameDots_49 : decode cX4_sameDots 49 = .ok (.invokestatic 44, 3) := by decide +kernel
theorem dX4_sameDots_52 : decode cX4_sameDots 52 = .ok (.if_icmp .ge 69, 3) := by decide +kernel
theorem dX4_sameDots_55 : decode cX4_sameDots 55 = .ok (.iload_n 1, 1) := by decide +kernel
theorem dX4_sameDots_56 : decode cX4_sameDots 56 = .ok (.bipush 64, 2) := by decide +kernel
theorem dX4_sameDots_58 : decode cX4_sameDots 58 = .ok (.imul, 1) := by decide +kernel
theorem dX4_sameDots_59 : decode cX4_sameDots 59 = .ok (.iload 5, 2) := by decide +kernel
theorem dX4_sameDots_61 : decode cX4_sameDots 61 = .ok (.aload_n 0, 1) := by decide +kernel
theorem dX4_sameDots_62 : decode cX4_sameDots 62 = .ok (.getfield 47, 3) := by decide +kernel
theorem dX4_sameDots_65 : decode cX4_sameDots 65 = .ok (.imul, 1) := by decide +kernel
theorem dX4_sameDots_66 : decode cX4_sameDots 66 = .ok (.iadd, 1) := by decide +kernel
theorem dX4_sameDots_67 : decode cX4_sameDots 67 = .ok (.iload 6, 2) := by decide +kernel
theorem dX4_sameDots_69 : decode cX4_sameDots 69 = .ok (.iadd, 1) := by decide +kernel
theorem dX4_sameDots_70 : decode cX4_sameDots 70 = .ok (.istore 7, 2) := by decide +kernel
theorem dX4_sameDots_72 : decode cX4_sameDots 72 = .ok (.iload 7, 2) := by decide +kernel
theorem dX4_sameDots_74 : decode cX4_sameDots 74 = .ok (.bipush 64, 2) := by decide +kernel
theorem dX4_sameDots_76 : decode cX4_sameDots 76 = .ok (.iadd, 1) := by decide +kernel
theorem dX4_sameDots_77 : decode cX4_sameDots 77 = .ok (.iload_n 3, 1) := by decide +kernel
theorem dX4_sameDots_78 : decode cX4_sameDots 78 = .ok (.aload_n 0, 1) := by decide +kernel
theorem dX4_sameDots_79 : decode cX4_sameDots 79 = .ok (.getfield 47, 3) := by decide +kernel
theorem dX4_sameDots_82 : decode cX4_sameDots 82 = .ok (.imul, 1) := by decide +kernel
theorem dX4_sameDots_83 : decode cX4_sameDots 83 = .ok (.iadd, 1) := by decide +kernel
theorem dX4_sameDots_84 : decode cX4_sameDots 84 = .ok (.iload_n 2, 1) := by decide +kernel
theorem dX4_sameDots_85 : decode cX4_sameDots 85 = .ok (.iadd, 1) := by decide +kernel
theorem dX4_sameDots_86 : decode cX4_sameDots 86 = .ok (.istore 8, 2) := by decide +kernel
theorem dX4_sameDots_88 : decode cX4_sameDots 88 = .ok (.iload 4, 2) := by decide +kernel
theorem dX4_sameDots_90 : decode cX4_sameDots 90 = .ok (.aload_n 0, 1) := by decide +kernel
theorem dX4_sameDots_91 : decode cX4_sameDots 91 = .ok (.getfield 50, 3) := by decide +kernel
theorem dX4_sameDots_94 : decode cX4_sameDots 94 = .ok (.iload 7, 2) := by decide +kernel
theorem dX4_sameDots_96 : decode cX4_sameDots 96 = .ok (.iaload, 1) := by decide +kernel
theorem dX4_sameDots_97 : decode cX4_sameDots 97 = .ok (.aload_n 0, 1) := by decide +kernel
theorem dX4_sameDots_98 : decode cX4_sameDots 98 = .ok (.getfield 50, 3) := by decide +kernel
theorem dX4_sameDots_101 : decode cX4_sameDots 101 = .ok (.iload 8, 2) := by decide +kernel
theorem dX4_sameDots_103 : decode cX4_sameDots 103 = .ok (.iaload, 1) := by decide +kernel
theorem dX4_sameDots_104 : decode cX4_sameDots 104 = .ok (.if_icmp .ne 7, 3) := by decide +kernel
theorem dX4_sameDots_107 : decode cX4_sameDots 107 = .ok (.iconst 1, 1) := by decide +kernel
theorem dX4_sameDots_108 : decode cX4_sameDots 108 = .ok (.goto 4, 3) := by decide +kernel
theorem dX4_sameDots_111 : decode cX4_sameDots 111 = .ok (.iconst 0, 1) := by decide +kernel
theorem dX4_sameDots_112 : decode cX4_sameDots 112 = .ok (.iadd, 1) := by decide +kernel
theorem dX4_sameDots_113 : decode cX4_sameDots 113 = .ok (.istore 4, 2) := by decide +kernel
theorem dX4_sameDots_115 : decode cX4_sameDots 115 = .ok (.iinc 6 1, 3) := by decide +kernel
theorem dX4_sameDots_118 : decode cX4_sameDots 118 = .ok (.goto (-81), 3) := by decide +kernel
theorem dX4_sameDots_121 : decode cX4_sameDots 121 = .ok (.iinc 5 1, 3) := by decide +kernel
theorem dX4_sameDots_124 : decode cX4_sameDots 124 = .ok (.goto (-113), 3) := by decide +kernel
theorem dX4_sameDots_127 : decode cX4_sameDots 127 = .ok (.iload 4, 2) := by decide +kernel
theorem dX4_sameDots_129 : decode cX4_sameDots 129 = .ok (.ireturn, 1) := by decide +kernel
theorem dX5_init_0 : decode cX5_init 0 = .ok (.aload_n 0, 1) := by decide +kernel
theorem dX5_init_1 : decode cX5_init 1 = .ok (.invokespecial 3, 3) := by decide +kernel
theorem dX5_init_4 : decode cX5_init 4 = .ok (.aload_n 0, 1) := by decide +kernel
theorem dX5_init_5 : decode cX5_init 5 = .ok (.bipush 24, 2) := by decide +kernel
theorem dX5_init_7 : decode cX5_init 7 = .ok (.newarray .int, 2) := by decide +kernel
theorem dX5_init_9 : decode cX5_init 9 = .ok (.putfield 9, 3) := by decide +kernel
theorem dX5_init_12 : decode cX5_init 12 = .ok (.aload_n 0, 1) := by decide +kernel
theorem dX5_init_13 : decode cX5_init 13 = .ok (.sipush 576, 3) := by decide +kernel
theorem dX5_init_16 : decode cX5_init 16 = .ok (.newarray .int, 2) := by decide +kernel
theorem dX5_init_18 : decode cX5_init 18 = .ok (.putfield 15, 3) := by decide +kernel
theorem dX5_init_21 : decode cX5_init 21 = .ok (.aload_n 0, 1) := by decide +kernel
theorem dX5_init_22 : decode cX5_init 22 = .ok (.sipush 576, 3) := by decide +kernel
theorem dX5_init_25 : decode cX5_init 25 = .ok (.newarray .int, 2) := by decide +kernel
theorem dX5_init_27 : decode cX5_init 27 = .ok (.putfield 18, 3) := by decide +kernel
theorem dX5_init_30 : decode cX5_init 30 = .ok (.aload_n 0, 1) := by decide +kernel
theorem dX5_init_31 : decode cX5_init 31 = .ok (.sipush 225, 3) := by decide +kernel
theorem dX5_init_34 : decode cX5_init 34 = .ok (.newarray .int, 2) := by decide +kernel
theorem dX5_init_36 : decode cX5_init 36 = .ok (.putfield 21, 3) := by decide +kernel
theorem dX5_init_39 : decode cX5_init 39 = .ok (.return_, 1) := by decide +kernel
theorem dX5_work_0 : decode cX5_work 0 = .ok (.aload_n 0, 1) := by decide +kernel
theorem dX5_work_1 : decode cX5_work 1 = .ok (.getfield 24, 3) := by decide +kernel
theorem dX5_work_4 : decode cX5_work 4 = .ok (.ifCond .eq 4, 3) := by decide +kernel
theorem dX5_work_7 : decode cX5_work 7 = .ok (.return_, 1) := by decide +kernel
theorem dX5_work_8 : decode cX5_work 8 = .ok (.aload_n 0, 1) := by decide +kernel
theorem dX5_work_9 : decode cX5_work 9 = .ok (.iload_n 2, 1) := by decide +kernel
theorem dX5_work_10 : decode cX5_work 10 = .ok (.putfield 28, 3) := by decide +kernel
theorem dX5_work_13 : decode cX5_work 13 = .ok (.aload_n 0, 1) := by decide +kernel
theorem dX5_work_14 : decode cX5_work 14 = .ok (.aload_n 1, 1) := by decide +kernel
theorem dX5_work_15 : decode cX5_work 15 = .ok (.invokevirtual 32, 3) := by decide +kernel
theorem dX5_work_18 : decode cX5_work 18 = .ok (.iconst 0, 1) := by decide +kernel
theorem dX5_work_19 : decode cX5_work 19 = .ok (.istore_n 3, 1) := by decide +kernel
theorem dX5_work_20 : decode cX5_work 20 = .ok (.iload_n 3, 1) := by decide +kernel
theorem dX5_work_21 : decode cX5_work 21 = .ok (.aload_n 0, 1) := by decide +kernel
theorem dX5_work_22 : decode cX5_work 22 = .ok (.getfield 28, 3) := by decide +kernel
theorem dX5_work_25 : decode cX5_work 25 = .ok (.if_icmp .ge 14, 3) := by decide +kernel
theorem dX5_work_28 : decode cX5_work 28 = .ok (.aload_n 0, 1) := by decide +kernel
theorem dX5_work_29 : decode cX5_work 29 = .ok (.iload_n 3, 1) := by decide +kernel
theorem dX5_work_30 : decode cX5_work 30 = .ok (.invokevirtual 36, 3) := by decide +kernel
theorem dX5_work_33 : decode cX5_work 33 = .ok (.iinc 3 1, 3) := by decide +kernel
theorem dX5_work_36 : decode cX5_work 36 = .ok (.goto (-16), 3) := by decide +kernel
theorem dX5_work_39 : decode cX5_work 39 = .ok (.aload_n 0, 1) := by decide +kernel
theorem dX5_work_40 : decode cX5_work 40 = .ok (.getfield 21, 3) := by decide +kernel
theorem dX5_work_43 : decode cX5_work 43 = .ok (.ldc 40, 2) := by decide +kernel
theorem dX5_work_45 : decode cX5_work 45 = .ok (.invokestatic 41, 3) := by decide +kernel
theorem dX5_work_48 : decode cX5_work 48 = .ok (.aload_n 0, 1) := by decide +kernel
theorem dX5_work_49 : decode cX5_work 49 = .ok (.getfield 21, 3) := by decide +kernel
theorem dX5_work_52 : decode cX5_work 52 = .ok (.aload_n 0, 1) := by decide +kernel
theorem dX5_work_53 : decode cX5_work 53 = .ok (.getfield 28, 3) := by decide +kernel
theorem dX5_work_56 : decode cX5_work 56 = .ok (.iconst 0, 1) := by decide +kernel
theorem dX5_work_57 : decode cX5_work 57 = .ok (.iastore, 1) := by decide +kernel
theorem dX5_work_58 : decode cX5_work 58 = .ok (.iconst 1, 1) := by decide +kernel
theorem dX5_work_59 : decode cX5_work 59 = .ok (.istore_n 3, 1) := by decide +kernel
theorem dX5_work_60 : decode cX5_work 60 = .ok (.iload_n 3, 1) := by decide +kernel
theorem dX5_work_61 : decode cX5_work 61 = .ok (.bipush 8, 2) := by decide +kernel
theorem dX5_work_63 : decode cX5_work 63 = .ok (.if_icmp .gt 46, 3) := by decide +kernel
theorem dX5_work_66 : decode cX5_work 66 = .ok (.iconst 0, 1) := by decide +kernel
theorem dX5_work_67 : decode cX5_work 67 = .ok (.istore 4, 2) := by decide +kernel
theorem dX5_work_69 : decode cX5_work 69 = .ok (.iload 4, 2) := by decide +kernel
theorem dX5_work_71 : decode cX5_work 71 = .ok (.aload_n 0, 1) := by decide +kernel
theorem dX5_work_72 : decode cX5_work 72 = .ok (.getfield 28, 3) := by decide +kernel
theorem dX5_work_75 : decode cX5_work 75 = .ok (.if_icmp .ge 28, 3) := by decide +kernel
theorem dX5_work_78 : decode cX5_work 78 = .ok (.aload_n 0, 1) := by decide +kernel
theorem dX5_work_79 : decode cX5_work 79 = .ok (.getfield 21, 3) := by decide +kernel
theorem dX5_work_82 : decode cX5_work 82 = .ok (.iload_n 3, 1) := by decide +kernel
theorem dX5_work_83 : decode cX5_work 83 = .ok (.bipush 25, 2) := by decide +kernel
theorem dX5_work_85 : decode cX5_work 85 = .ok (.imul, 1) := by decide +kernel
theorem dX5_work_86 : decode cX5_work 86 = .ok (.iload 4, 2) := by decide +kernel
theorem dX5_work_88 : decode cX5_work 88 = .ok (.iadd, 1) := by decide +kernel
theorem dX5_work_89 : decode cX5_work 89 = .ok (.aload_n 0, 1) := by decide +kernel
theorem dX5_work_90 : decode cX5_work 90 = .ok (.iload_n 3, 1) := by decide +kernel
theorem dX5_work_91 : decode cX5_work 91 = .ok (.iload 4, 2) := by decide +kernel
theorem dX5_work_93 : decode cX5_work 93 = .ok (.invokevirtual 47, 3) := by decide +kernel
theorem dX5_work_96 : decode cX5_work 96 = .ok (.iastore, 1) := by decide +kernel
theorem dX5_work_97 : decode cX5_work 97 = .ok (.iinc 4 1, 3) := by decide +kernel
theorem dX5_work_100 : decode cX5_work 100 = .ok (.goto (-31), 3) := by decide +kernel
theorem dX5_work_103 : decode cX5_work 103 = .ok (.iinc 3 1, 3) := by decide +kernel
theorem dX5_work_106 : decode cX5_work 106 = .ok (.goto (-46), 3) := by decide +kernel
theorem dX5_work_109 : decode cX5_work 109 = .ok (.aload_n 0, 1) := by decide +kernel
theorem dX5_work_110 : decode cX5_work 110 = .ok (.iconst 1, 1) := by decide +kernel
theorem dX5_work_111 : decode cX5_work 111 = .ok (.putfield 24, 3) := by decide +kernel
theorem dX5_work_114 : decode cX5_work 114 = .ok (.return_, 1) := by decide +kernel
theorem dX5_measureGaps_0 : decode cX5_measureGaps 0 = .ok (.iconst 0, 1) := by decide +kernel
theorem dX5_measureGaps_1 : decode cX5_measureGaps 1 = .ok (.istore_n 2, 1) := by decide +kernel
theorem dX5_measureGaps_2 : decode cX5_measureGaps 2 = .ok (.iload_n 2, 1) := by decide +kernel
theorem dX5_measureGaps_3 : decode cX5_measureGaps 3 = .ok (.aload_n 0, 1) := by decide +kernel
theorem dX5_measureGaps_4 : decode cX5_measureGaps 4 = .ok (.getfield 28, 3) := by decide +kernel
theorem dX5_measureGaps_7 : decode cX5_measureGaps 7 = .ok (.if_icmp .ge 44, 3) := by decide +kernel
theorem dX5_measureGaps_10 : decode cX5_measureGaps 10 = .ok (.iload_n 2, 1) := by decide +kernel
theorem dX5_measureGaps_11 : decode cX5_measureGaps 11 = .ok (.iconst 1, 1) := by decide +kernel
theorem dX5_measureGaps_12 : decode cX5_measureGaps 12 = .ok (.iadd, 1) := by decide +kernel
theorem dX5_measureGaps_13 : decode cX5_measureGaps 13 = .ok (.istore_n 3, 1) := by decide +kernel
theorem dX5_measureGaps_14 : decode cX5_measureGaps 14 = .ok (.iload_n 3, 1) := by decide +kernel
theorem dX5_measureGaps_15 : decode cX5_measureGaps 15 = .ok (.aload_n 0, 1) := by decide +kernel
theorem dX5_measureGaps_16 : decode cX5_measureGaps 16 = .ok (.getfield 28, 3) := by decide +kernel
theorem dX5_measureGaps_19 : decode cX5_measureGaps 19 = .ok (.if_icmp .ge 26, 3) := by decide +kernel
theorem dX5_measureGaps_22 : decode cX5_measureGaps 22 = .ok (.aload_n 0, 1) := by decide +kernel
theorem dX5_measureGaps_23 : decode cX5_measureGaps 23 = .ok (.getfield 15, 3) := by decide +kernel
theorem dX5_measureGaps_26 : decode cX5_measureGaps 26 = .ok (.iload_n 2, 1) := by decide +kernel
theorem dX5_measureGaps_27 : decode cX5_measureGaps 27 = .ok (.bipush 24, 2) := by decide +kernel
theorem dX5_measureGaps_29 : decode cX5_measureGaps 29 = .ok (.imul, 1) := by decide +kernel
theorem dX5_measureGaps_30 : decode cX5_measureGaps 30 = .ok (.iload_n 3, 1) := by decide +kernel
theorem dX5_measureGaps_31 : decode cX5_measureGaps 31 = .ok (.iadd, 1) := by decide +kernel
theorem dX5_measureGaps_32 : decode cX5_measureGaps 32 = .ok (.aload_n 1, 1) := by decide +kernel
theorem dX5_measureGaps_33 : decode cX5_measureGaps 33 = .ok (.iload_n 2, 1) := by decide +kernel
theorem dX5_measureGaps_34 : decode cX5_measureGaps 34 = .ok (.iload_n 3, 1) := by decide +kernel
theorem dX5_measureGaps_35 : decode cX5_measureGaps 35 = .ok (.invokevirtual 51, 3) := by decide +kernel
theorem dX5_measureGaps_38 : decode cX5_measureGaps 38 = .ok (.iastore, 1) := by decide +kernel
theorem dX5_measureGaps_39 : decode cX5_measureGaps 39 = .ok (.iinc 3 1, 3) := by decide +kernel
theorem dX5_measureGaps_42 : decode cX5_measureGaps 42 = .ok (.goto (-28), 3) := by decide +kernel
theorem dX5_measureGaps_45 : decode cX5_measureGaps 45 = .ok (.iinc 2 1, 3) := by decide +kernel
theorem dX5_measureGaps_48 : decode cX5_measureGaps 48 = .ok (.goto (-46), 3) := by decide +kernel
theorem dX5_measureGaps_51 : decode cX5_measureGaps 51 = .ok (.return_, 1) := by decide +kernel
theorem dX5_addCosts_0 : decode cX5_addCosts 0 = .ok (.iload_n 1, 1) := by decide +kernel
theorem dX5_addCosts_1 : decode cX5_addCosts 1 = .ok (.istore_n 2, 1) := by decide +kernel
theorem dX5_addCosts_2 : decode cX5_addCosts 2 = .ok (.iload_n 2, 1) := by decide +kernel
theorem dX5_addCosts_3 : decode cX5_addCosts 3 = .ok (.aload_n 0, 1) := by decide +kernel
theorem dX5_addCosts_4 : decode cX5_addCosts 4 = .ok (.getfield 28, 3) := by decide +kernel
theorem dX5_addCosts_7 : decode cX5_addCosts 7 = .ok (.if_icmp .ge 100, 3) := by decide +kernel
theorem dX5_addCosts_10 : decode cX5_addCosts 10 = .ok (.ldc 40, 2) := by decide +kernel
theorem dX5_addCosts_12 : decode cX5_addCosts 12 = .ok (.istore_n 3, 1) := by decide +kernel
theorem dX5_addCosts_13 : decode cX5_addCosts 13 = .ok (.iconst 0, 1) := by decide +kernel
theorem dX5_addCosts_14 : decode cX5_addCosts 14 = .ok (.istore 4, 2) := by decide +kernel
theorem dX5_addCosts_16 : decode cX5_addCosts 16 = .ok (.iload_n 1, 1) := by decide +kernel
theorem dX5_addCosts_17 : decode cX5_addCosts 17 = .ok (.istore 5, 2) := by decide +kernel
theorem dX5_addCosts_19 : decode cX5_addCosts 19 = .ok (.iload 5, 2) := by decide +kernel
theorem dX5_addCosts_21 : decode cX5_addCosts 21 = .ok (.iload_n 2, 1) := by decide +kernel
theorem dX5_addCosts_22 : decode cX5_addCosts 22 = .ok (.if_icmp .ge 54, 3) := by decide +kernel
theorem dX5_addCosts_25 : decode cX5_addCosts 25 = .ok (.aload_n 0, 1) := by decide +kernel
theorem dX5_addCosts_26 : decode cX5_addCosts 26 = .ok (.getfield 15, 3) := by decide +kernel
theorem dX5_addCosts_29 : decode cX5_addCosts 29 = .ok (.iload 5, 2) := by decide +kernel
theorem dX5_addCosts_31 : decode cX5_addCosts 31 = .ok (.bipush 24, 2) := by decide +kernel
theorem dX5_addCosts_33 : decode cX5_addCosts 33 = .ok (.imul, 1) := by decide +kernel
theorem dX5_addCosts_34 : decode cX5_addCosts 34 = .ok (.iload_n 2, 1) := by decide +kernel
theorem dX5_addCosts_35 : decode cX5_addCosts 35 = .ok (.iadd, 1) := by decide +kernel
theorem dX5_addCosts_36 : decode cX5_addCosts 36 = .ok (.iaload, 1) := by decide +kernel
theorem dX5_addCosts_37 : decode cX5_addCosts 37 = .ok (.istore 6, 2) := by decide +kernel
theorem dX5_addCosts_39 : decode cX5_addCosts 39 = .ok (.iload 4, 2) := by decide +kernel
theorem dX5_addCosts_41 : decode cX5_addCosts 41 = .ok (.iload 6, 2) := by decide +kernel
theorem dX5_addCosts_43 : decode cX5_addCosts 43 = .ok (.iadd, 1) := by decide +kernel
theorem dX5_addCosts_44 : decode cX5_addCosts 44 = .ok (.istore 4, 2) := by decide +kernel
theorem dX5_addCosts_46 : decode cX5_addCosts 46 = .ok (.aload_n 0, 1) := by decide +kernel
theorem dX5_addCosts_47 : decode cX5_addCosts 47 = .ok (.getfield 9, 3) := by decide +kernel
theorem dX5_addCosts_50 : decode cX5_addCosts 50 = .ok (.iload 5, 2) := by decide +kernel
theorem dX5_addCosts_52 : decode cX5_addCosts 52 = .ok (.dup2, 1) := by decide +kernel
theorem dX5_addCosts_53 : decode cX5_addCosts 53 = .ok (.iaload, 1) := by decide +kernel
theorem dX5_addCosts_54 : decode cX5_addCosts 54 = .ok (.iload 6, 2) := by decide +kernel
theorem dX5_addCosts_56 : decode cX5_addCosts 56 = .ok (.iadd, 1) := by decide +kernel
theorem dX5_addCosts_57 : decode cX5_addCosts 57 = .ok (.iastore, 1) := by decide +kernel
theorem dX5_addCosts_58 : decode cX5_addCosts 58 = .ok (.iload_n 3, 1) := by decide +kernel
theorem dX5_addCosts_59 : decode cX5_addCosts 59 = .ok (.aload_n 0, 1) := by decide +kernel
theorem dX5_addCosts_60 : decode cX5_addCosts 60 = .ok (.getfield 9, 3) := by decide +kernel
theorem dX5_addCosts_63 : decode cX5_addCosts 63 = .ok (.iload 5, 2) := by decide +kernel
theorem dX5_addCosts_65 : decode cX5_addCosts 65 = .ok (.iaload, 1) := by decide +kernel
theorem dX5_addCosts_66 : decode cX5_addCosts 66 = .ok (.invokestatic 56, 3) := by decide +kernel
theorem dX5_addCosts_69 : decode cX5_addCosts 69 = .ok (.istore_n 3, 1) := by decide +kernel
theorem dX5_addCosts_70 : decode cX5_addCosts 70 = .ok (.iinc 5 1, 3) := by decide +kernel
theorem dX5_addCosts_73 : decode cX5_addCosts 73 = .ok (.goto (-54), 3) := by decide +kernel
theorem dX5_addCosts_76 : decode cX5_addCosts 76 = .ok (.aload_n 0, 1) := by decide +kernel
theorem dX5_addCosts_77 : decode cX5_addCosts 77 = .ok (.getfield 9, 3) := by decide +kernel
theorem dX5_addCosts_80 : decode cX5_addCosts 80 = .ok (.iload_n 2, 1) := by decide +kernel
theorem dX5_addCosts_81 : decode cX5_addCosts 81 = .ok (.iload 4, 2) := by decide +kernel
theorem dX5_addCosts_83 : decode cX5_addCosts 83 = .ok (.iastore, 1) := by decide +kernel
theorem dX5_addCosts_84 : decode cX5_addCosts 84 = .ok (.aload_n 0, 1) := by decide +kernel
theorem dX5_addCosts_85 : decode cX5_addCosts 85 = .ok (.getfield 18, 3) := by decide +kernel
theorem dX5_addCosts_88 : decode cX5_addCosts 88 = .ok (.iload_n 1, 1) := by decide +kernel
theorem dX5_addCosts_89 : decode cX5_addCosts 89 = .ok (.bipush 24, 2) := by decide +kernel
theorem dX5_addCosts_91 : decode cX5_addCosts 91 = .ok (.imul, 1) := by decide +kernel
theorem dX5_addCosts_92 : decode cX5_addCosts 92 = .ok (.iload_n 2, 1) := by decide +kernel
theorem dX5_addCosts_93 : decode cX5_addCosts 93 = .ok (.iadd, 1) := by decide +kernel
theorem dX5_addCosts_94 : decode cX5_addCosts 94 = .ok (.iload_n 3, 1) := by decide +kernel
theorem dX5_addCosts_95 : decode cX5_addCosts 95 = .ok (.iload 4, 2) := by decide +kernel
theorem dX5_addCosts_97 : decode cX5_addCosts 97 = .ok (.invokestatic 56, 3) := by decide +kernel
theorem dX5_addCosts_100 : decode cX5_addCosts 100 = .ok (.iastore, 1) := by decide +kernel
theorem dX5_addCosts_101 : decode cX5_addCosts 101 = .ok (.iinc 2 1, 3) := by decide +kernel
theorem dX5_addCosts_104 : decode cX5_addCosts 104 = .ok (.goto (-102), 3) := by decide +kernel
theorem dX5_addCosts_107 : decode cX5_addCosts 107 = .ok (.return_, 1) := by decide +kernel
theorem dX5_leastOf_0 : decode cX5_leastOf 0 = .ok (.ldc 40, 2) := by decide +kernel
theorem dX5_leastOf_2 : decode cX5_leastOf 2 = .ok (.istore_n 3, 1) := by decide +kernel
theorem dX5_leastOf_3 : decode cX5_leastOf 3 = .ok (.iload_n 2, 1) := by decide +kernel
theorem dX5_leastOf_4 : decode cX5_leastOf 4 = .ok (.iconst 1, 1) := by decide +kernel
theorem dX5_leastOf_5 : decode cX5_leastOf 5 = .ok (.iadd, 1) := by decide +kernel
theorem dX5_leastOf_6 : decode cX5_leastOf 6 = .ok (.istore 4, 2) := by decide +kernel
theorem dX5_leastOf_8 : decode cX5_leastOf 8 = .ok (.iload 4, 2) := by decide +kernel
theorem dX5_leastOf_10 : decode cX5_leastOf 10 = .ok (.aload_n 0, 1) := by decide +kernel
theorem dX5_leastOf_11 : decode cX5_leastOf 11 = .ok (.getfield 28, 3) := by decide +kernel
theorem dX5_leastOf_14 : decode cX5_leastOf 14 = .ok (.if_icmp .gt 22, 3) := by decide +kernel
theorem dX5_leastOf_17 : decode cX5_leastOf 17 = .ok (.iload_n 3, 1) := by decide +kernel
theorem dX5_leastOf_18 : decode cX5_leastOf 18 = .ok (.aload_n 0, 1) := by decide +kernel
theorem dX5_leastOf_19 : decode cX5_leastOf 19 = .ok (.iload_n 1, 1) := by decide +kernel
theorem dX5_leastOf_20 : decode cX5_leastOf 20 = .ok (.iload_n 2, 1) := by decide +kernel
theorem dX5_leastOf_21 : decode cX5_leastOf 21 = .ok (.iload 4, 2) := by decide +kernel
theorem dX5_leastOf_23 : decode cX5_leastOf 23 = .ok (.invokevirtual 61, 3) := by decide +kernel
theorem dX5_leastOf_26 : decode cX5_leastOf 26 = .ok (.invokestatic 56, 3) := by decide +kernel
theorem dX5_leastOf_29 : decode cX5_leastOf 29 = .ok (.istore_n 3, 1) := by decide +kernel
theorem dX5_leastOf_30 : decode cX5_leastOf 30 = .ok (.iinc 4 1, 3) := by decide +kernel
theorem dX5_leastOf_33 : decode cX5_leastOf 33 = .ok (.goto (-25), 3) := by decide +kernel
theorem dX5_leastOf_36 : decode cX5_leastOf 36 = .ok (.iload_n 3, 1) := by decide +kernel
theorem dX5_leastOf_37 : decode cX5_leastOf 37 = .ok (.ireturn, 1) := by decide +kernel
theorem dX5_costBy_0 : decode cX5_costBy 0 = .ok (.aload_n 0, 1) := by decide +kernel
theorem dX5_costBy_1 : decode cX5_costBy 1 = .ok (.getfield 18, 3) := by decide +kernel
theorem dX5_costBy_4 : decode cX5_costBy 4 = .ok (.iload_n 2, 1) := by decide +kernel
theorem dX5_costBy_5 : decode cX5_costBy 5 = .ok (.bipush 24, 2) := by decide +kernel
theorem dX5_costBy_7 : decode cX5_costBy 7 = .ok (.imul, 1) := by decide +kernel
theorem dX5_costBy_8 : decode cX5_costBy 8 = .ok (.iload_n 3, 1) := by decide +kernel
theorem dX5_costBy_9 : decode cX5_costBy 9 = .ok (.iadd, 1) := by decide +kernel
theorem dX5_costBy_10 : decode cX5_costBy 10 = .ok (.iconst 1, 1) := by decide +kernel
theorem dX5_costBy_11 : decode cX5_costBy 11 = .ok (.isub, 1) := by decide +kernel
theorem dX5_costBy_12 : decode cX5_costBy 12 = .ok (.iaload, 1) := by decide +kernel
theorem dX5_costBy_13 : decode cX5_costBy 13 = .ok (.aload_n 0, 1) := by decide +kernel
theorem dX5_costBy_14 : decode cX5_costBy 14 = .ok (.iload_n 1, 1) := by decide +kernel
theorem dX5_costBy_15 : decode cX5_costBy 15 = .ok (.iconst 1, 1) := by decide +kernel
theorem dX5_costBy_16 : decode cX5_costBy 16 = .ok (.isub, 1) := by decide +kernel
theorem dX5_costBy_17 : decode cX5_costBy 17 = .ok (.iload_n 3, 1) := by decide +kernel
theorem dX5_costBy_18 : decode cX5_costBy 18 = .ok (.invokevirtual 65, 3) := by decide +kernel
theorem dX5_costBy_21 : decode cX5_costBy 21 = .ok (.iadd, 1) := by decide +kernel
theorem dX5_costBy_22 : decode cX5_costBy 22 = .ok (.ireturn, 1) := by decide +kernel
theorem dX5_least_0 : decode cX5_least 0 = .ok (.aload_n 0, 1) := by decide +kernel
theorem dX5_least_1 : decode cX5_least 1 = .ok (.getfield 21, 3) := by decide +kernel
theorem dX5_least_4 : decode cX5_least 4 = .ok (.iload_n 1, 1) := by decide +kernel
theorem dX5_least_5 : decode cX5_least 5 = .ok (.bipush 25, 2) := by decide +kernel
theorem dX5_least_7 : decode cX5_least 7 = .ok (.imul, 1) := by decide +kernel
theorem dX5_least_8 : decode cX5_least 8 = .ok (.iload_n 2, 1) := by decide +kernel
theorem dX5_least_9 : decode cX5_least 9 = .ok (.iadd, 1) := by decide +kernel
theorem dX5_least_10 : decode cX5_least 10 = .ok (.iaload, 1) := by decide +kernel
theorem dX5_least_11 : decode cX5_least 11 = .ok (.ireturn, 1) := by decide +kernel
theorem dX5_start_0 : decode cX5_start 0 = .ok (.iconst 0, 1) := by decide +kernel
theorem dX5_start_1 : decode cX5_start 1 = .ok (.istore_n 3, 1) := by decide +kernel
theorem dX5_start_2 : decode cX5_start 2 = .ok (.iconst 0, 1) := by decide +kernel
theorem dX5_start_3 : decode cX5_start 3 = .ok (.istore 4, 2) := by decide +kernel
theorem dX5_start_5 : decode cX5_start 5 = .ok (.iload 4, 2) := by decide +kernel
theorem dX5_start_7 : decode cX5_start 7 = .ok (.iload_n 2, 1) := by decide +kernel
theorem dX5_start_8 : decode cX5_start 8 = .ok (.if_icmp .ge 57, 3) := by decide +kernel
theorem dX5_start_11 : decode cX5_start 11 = .ok (.iload_n 1, 1) := by decide +kernel
theorem dX5_start_12 : decode cX5_start 12 = .ok (.iload 4, 2) := by decide +kernel
theorem dX5_start_14 : decode cX5_start 14 = .ok (.isub, 1) := by decide +kernel
theorem dX5_start_15 : decode cX5_start 15 = .ok (.istore 5, 2) := by decide +kernel
theorem dX5_start_17 : decode cX5_start 17 = .ok (.iload_n 3, 1) := by decide +kernel
theorem dX5_start_18 : decode cX5_start 18 = .ok (.iconst 1, 1) := by decide +kernel
theorem dX5_start_19 : decode cX5_start 19 = .ok (.iadd, 1) := by decide +kernel
theorem dX5_start_20 : decode cX5_start 20 = .ok (.istore 6, 2) := by decide +kernel
theorem dX5_start_22 : decode cX5_start 22 = .ok (.iload 6, 2) := by decide +kernel
theorem dX5_start_24 : decode cX5_start 24 = .ok (.aload_n 0, 1) := by decide +kernel
theorem dX5_start_25 : decode cX5_start 25 = .ok (.getfield 28, 3) := by decide +kernel
theorem dX5_start_28 : decode cX5_start 28 = .ok (.if_icmp .ge 28, 3) := by decide +kernel
theorem dX5_start_31 : decode cX5_start 31 = .ok (.aload_n 0, 1) := by decide +kernel
theorem dX5_start_32 : decode cX5_start 32 = .ok (.iload 5, 2) := by decide +kernel
theorem dX5_start_34 : decode cX5_start 34 = .ok (.iload_n 3, 1) := by decide +kernel
theorem dX5_start_35 : decode cX5_start 35 = .ok (.iload 6, 2) := by decide +kernel
theorem dX5_start_37 : decode cX5_start 37 = .ok (.invokevirtual 61, 3) := by decide +kernel
theorem dX5_start_40 : decode cX5_start 40 = .ok (.aload_n 0, 1) := by decide +kernel
theorem dX5_start_41 : decode cX5_start 41 = .ok (.iload 5, 2) := by decide +kernel
theorem dX5_start_43 : decode cX5_start 43 = .ok (.iload_n 3, 1) := by decide +kernel
theorem dX5_start_44 : decode cX5_start 44 = .ok (.invokevirtual 65, 3) := by decide +kernel
theorem dX5_start_47 : decode cX5_start 47 = .ok (.if_icmp .le 9, 3) := by decide +kernel
theorem dX5_start_50 : decode cX5_start 50 = .ok (.iinc 6 1, 3) := by decide +kernel
theorem dX5_start_53 : decode cX5_start 53 = .ok (.goto (-31), 3) := by decide +kernel
theorem dX5_start_56 : decode cX5_start 56 = .ok (.iload 6, 2) := by decide +kernel
theorem dX5_start_58 : decode cX5_start 58 = .ok (.istore_n 3, 1) := by decide +kernel
theorem dX5_start_59 : decode cX5_start 59 = .ok (.iinc 4 1, 3) := by decide +kernel
theorem dX5_start_62 : decode cX5_start 62 = .ok (.goto (-57), 3) := by decide +kernel
theorem dX5_start_65 : decode cX5_start 65 = .ok (.iload_n 3, 1) := by decide +kernel
theorem dX5_start_66 : decode cX5_start 66 = .ok (.ireturn, 1) := by decide +kernel
theorem dX6_init_0 : decode cX6_init 0 = .ok (.aload_n 0, 1) := by decide +kernel
theorem dX6_init_1 : decode cX6_init 1 = .ok (.invokespecial 3, 3) := by decide +kernel
theorem dX6_init_4 : decode cX6_init 4 = .ok (.aload_n 0, 1) := by decide +kernel
theorem dX6_init_5 : decode cX6_init 5 = .ok (.bipush 64, 2) := by decide +kernel
theorem dX6_init_7 : decode cX6_init 7 = .ok (.newarray .int, 2) := by decide +kernel
theorem dX6_init_9 : decode cX6_init 9 = .ok (.putfield 9, 3) := by decide +kernel
theorem dX6_init_12 : decode cX6_init 12 = .ok (.aload_n 0, 1) := by decide +kernel
theorem dX6_init_13 : decode cX6_init 13 = .ok (.bipush 64, 2) := by decide +kernel
theorem dX6_init_15 : decode cX6_init 15 = .ok (.newarray .int, 2) := by decide +kernel
theorem dX6_init_17 : decode cX6_init 17 = .ok (.putfield 15, 3) := by decide +kernel
theorem dX6_init_20 : decode cX6_init 20 = .ok (.aload_n 0, 1) := by decide +kernel
theorem dX6_init_21 : decode cX6_init 21 = .ok (.bipush 64, 2) := by decide +kernel
theorem dX6_init_23 : decode cX6_init 23 = .ok (.newarray .int, 2) := by decide +kernel
theorem dX6_init_25 : decode cX6_init 25 = .ok (.putfield 18, 3) := by decide +kernel
theorem dX6_init_28 : decode cX6_init 28 = .ok (.aload_n 0, 1) := by decide +kernel
theorem dX6_init_29 : decode cX6_init 29 = .ok (.bipush 16, 2) := by decide +kernel
theorem dX6_init_31 : decode cX6_init 31 = .ok (.newarray .int, 2) := by decide +kernel
theorem dX6_init_33 : decode cX6_init 33 = .ok (.putfield 21, 3) := by decide +kernel
theorem dX6_init_36 : decode cX6_init 36 = .ok (.return_, 1) := by decide +kernel
theorem dX6_read_0 : decode cX6_read 0 = .ok (.aload_n 0, 1) := by decide +kernel
theorem dX6_read_1 : decode cX6_read 1 = .ok (.aload_n 1, 1) := by decide +kernel
theorem dX6_read_2 : decode cX6_read 2 = .ok (.invokevirtual 24, 3) := by decide +kernel
theorem dX6_read_5 : decode cX6_read 5 = .ok (.putfield 30, 3) := by decide +kernel
theorem dX6_read_8 : decode cX6_read 8 = .ok (.aload_n 0, 1) := by decide +kernel
theorem dX6_read_9 : decode cX6_read 9 = .ok (.aload_n 1, 1) := by decide +kernel
theorem dX6_read_10 : decode cX6_read 10 = .ok (.iload_n 2, 1) := by decide +kernel
theorem dX6_read_11 : decode cX6_read 11 = .ok (.invokevirtual 33, 3) := by decide +kernel
theorem dX6_read_14 : decode cX6_read 14 = .ok (.aload_n 0, 1) := by decide +kernel
theorem dX6_read_15 : decode cX6_read 15 = .ok (.aload_n 1, 1) := by decide +kernel
theorem dX6_read_16 : decode cX6_read 16 = .ok (.iload_n 2, 1) := by decide +kernel
theorem dX6_read_17 : decode cX6_read 17 = .ok (.invokevirtual 37, 3) := by decide +kernel
theorem dX6_read_20 : decode cX6_read 20 = .ok (.aload_n 0, 1) := by decide +kernel
theorem dX6_read_21 : decode cX6_read 21 = .ok (.aload_n 1, 1) := by decide +kernel
theorem dX6_read_22 : decode cX6_read 22 = .ok (.iload_n 2, 1) := by decide +kernel
theorem dX6_read_23 : decode cX6_read 23 = .ok (.aload_n 3, 1) := by decide +kernel
theorem dX6_read_24 : decode cX6_read 24 = .ok (.invokevirtual 40, 3) := by decide +kernel
theorem dX6_read_27 : decode cX6_read 27 = .ok (.aload_n 0, 1) := by decide +kernel
theorem dX6_read_28 : decode cX6_read 28 = .ok (.aload_n 1, 1) := by decide +kernel
theorem dX6_read_29 : decode cX6_read 29 = .ok (.iload_n 2, 1) := by decide +kernel
theorem dX6_read_30 : decode cX6_read 30 = .ok (.invokevirtual 44, 3) := by decide +kernel
theorem dX6_read_33 : decode cX6_read 33 = .ok (.return_, 1) := by decide +kernel
theorem dX6_find_0 : decode cX6_find 0 = .ok (.iconst 0, 1) := by decide +kernel
theorem dX6_find_1 : decode cX6_find 1 = .ok (.istore_n 2, 1) := by decide +kernel
theorem dX6_find_2 : decode cX6_find 2 = .ok (.iload_n 2, 1) := by decide +kernel
theorem dX6_find_3 : decode cX6_find 3 = .ok (.aload_n 0, 1) := by decide +kernel
theorem dX6_find_4 : decode cX6_find 4 = .ok (.getfield 30, 3) := by decide +kernel
theorem dX6_find_7 : decode cX6_find 7 = .ok (.if_icmp .ge 21, 3) := by decide +kernel
theorem dX6_find_10 : decode cX6_find 10 = .ok (.aload_n 0, 1) := by decide +kernel
theorem dX6_find_11 : decode cX6_find 11 = .ok (.getfield 9, 3) := by decide +kernel
theorem dX6_find_14 : decode cX6_find 14 = .ok (.iload_n 2, 1) := by decide +kernel
theorem dX6_find_15 : decode cX6_find 15 = .ok (.iaload, 1) := by decide +kernel
theorem dX6_find_16 : decode cX6_find 16 = .ok (.iload_n 1, 1) := by decide +kernel
theorem dX6_find_17 : decode cX6_find 17 = .ok (.if_icmp .ne 5, 3) := by decide +kernel
theorem dX6_find_20 : decode cX6_find 20 = .ok (.iload_n 2, 1) := by decide +kernel
theorem dX6_find_21 : decode cX6_find 21 = .ok (.ireturn, 1) := by decide +kernel
theorem dX6_find_22 : decode cX6_find 22 = .ok (.iinc 2 1, 3) := by decide +kernel
theorem dX6_find_25 : decode cX6_find 25 = .ok (.goto (-23), 3) := by decide +kernel
theorem dX6_find_28 : decode cX6_find 28 = .ok (.iconst (-1), 1) := by decide +kernel
theorem dX6_find_29 : decode cX6_find 29 = .ok (.ireturn, 1) := by decide +kernel
theorem dX6_addAcross_0 : decode cX6_addAcross 0 = .ok (.iload_n 2, 1) := by decide +kernel
theorem dX6_addAcross_1 : decode cX6_addAcross 1 = .ok (.bipush 64, 2) := by decide +kernel
theorem dX6_addAcross_3 : decode cX6_addAcross 3 = .ok (.imul, 1) := by decide +kernel
theorem dX6_addAcross_4 : decode cX6_addAcross 4 = .ok (.istore_n 3, 1) := by decide +kernel
theorem dX6_addAcross_5 : decode cX6_addAcross 5 = .ok (.iconst 0, 1) := by decide +kernel
theorem dX6_addAcross_6 : decode cX6_addAcross 6 = .ok (.istore 4, 2) := by decide +kernel
theorem dX6_addAcross_8 : decode cX6_addAcross 8 = .ok (.iload 4, 2) := by decide +kernel
theorem dX6_addAcross_10 : decode cX6_addAcross 10 = .ok (.aload_n 1, 1) := by decide +kernel
theorem dX6_addAcross_11 : decode cX6_addAcross 11 = .ok (.getfield 47, 3) := by decide +kernel
theorem dX6_addAcross_14 : decode cX6_addAcross 14 = .ok (.if_icmp .ge 111, 3) := by decide +kernel
theorem dX6_addAcross_17 : decode cX6_addAcross 17 = .ok (.iconst 0, 1) := by decide +kernel
theorem dX6_addAcross_18 : decode cX6_addAcross 18 = .ok (.istore 5, 2) := by decide +kernel
theorem dX6_addAcross_20 : decode cX6_addAcross 20 = .ok (.iload 5, 2) := by decide +kernel
theorem dX6_addAcross_22 : decode cX6_addAcross 22 = .ok (.aload_n 1, 1) := by decide +kernel
theorem dX6_addAcross_23 : decode cX6_addAcross 23 = .ok (.getfield 50, 3) := by decide +kernel
theorem dX6_addAcross_26 : decode cX6_addAcross 26 = .ok (.if_icmp .ge 93, 3) := by decide +kernel
theorem dX6_addAcross_29 : decode cX6_addAcross 29 = .ok (.iload 4, 2) := by decide +kernel
theorem dX6_addAcross_31 : decode cX6_addAcross 31 = .ok (.aload_n 1, 1) := by decide +kernel
theorem dX6_addAcross_32 : decode cX6_addAcross 32 = .ok (.getfield 50, 3) := by decide +kernel
theorem dX6_addAcross_35 : decode cX6_addAcross 35 = .ok (.imul, 1) := by decide +kernel
theorem dX6_addAcross_36 : decode cX6_addAcross 36 = .ok (.iload 5, 2) := by decide +kernel
theorem dX6_addAcross_38 : decode cX6_addAcross 38 = .ok (.iadd, 1) := by decide +kernel
theorem dX6_addAcross_39 : decode cX6_addAcross 39 = .ok (.istore 6, 2) := by decide +kernel
theorem dX6_addAcross_41 : decode cX6_addAcross 41 = .ok (.iload 5, 2) := by decide +kernel
theorem dX6_addAcross_43 : decode cX6_addAcross 43 = .ok (.ifCond .le 17, 3) := by decide +kernel
theorem dX6_addAcross_46 : decode cX6_addAcross 46 = .ok (.aload_n 1, 1) := by decide +kernel
theorem dX6_addAcross_47 : decode cX6_addAcross 47 = .ok (.getfield 53, 3) := by decide +kernel
theorem dX6_addAcross_50 : decode cX6_addAcross 50 = .ok (.iload_n 3, 1) := by decide +kernel
theorem dX6_addAcross_51 : decode cX6_addAcross 51 = .ok (.iload 6, 2) := by decide +kernel
theorem dX6_addAcross_53 : decode cX6_addAcross 53 = .ok (.iadd, 1) := by decide +kernel
theorem dX6_addAcross_54 : decode cX6_addAcross 54 = .ok (.iconst 1, 1) := by decide +kernel
theorem dX6_addAcross_55 : decode cX6_addAcross 55 = .ok (.isub, 1) := by decide +kernel
theorem dX6_addAcross_56 : decode cX6_addAcross 56 = .ok (.iaload, 1) := by decide +kernel
theorem dX6_addAcross_57 : decode cX6_addAcross 57 = .ok (.goto 4, 3) := by decide +kernel
theorem dX6_addAcross_60 : decode cX6_addAcross 60 = .ok (.iconst 0, 1) := by decide +kernel
theorem dX6_addAcross_61 : decode cX6_addAcross 61 = .ok (.istore 7, 2) := by decide +kernel
theorem dX6_addAcross_63 : decode cX6_addAcross 63 = .ok (.iload 5, 2) := by decide +kernel
theorem dX6_addAcross_65 : decode cX6_addAcross 65 = .ok (.iconst 1, 1) := by decide +kernel
theorem dX6_addAcross_66 : decode cX6_addAcross 66 = .ok (.iadd, 1) := by decide +kernel
theorem dX6_addAcross_67 : decode cX6_addAcross 67 = .ok (.aload_n 1, 1) := by decide +kernel
theorem dX6_addAcross_68 : decode cX6_addAcross 68 = .ok (.getfield 50, 3) := by decide +kernel
theorem dX6_addAcross_71 : decode cX6_addAcross 71 = .ok (.if_icmp .ge 17, 3) := by decide +kernel
theorem dX6_addAcross_74 : decode cX6_addAcross 74 = .ok (.aload_n 1, 1) := by decide +kernel
theorem dX6_addAcross_75 : decode cX6_addAcross 75 = .ok (.getfield 53, 3) := by decide +kernel
theorem dX6_addAcross_78 : decode cX6_addAcross 78 = .ok (.iload_n 3, 1) := by decide +kernel
theorem dX6_addAcross_79 : decode cX6_addAcross 79 = .ok (.iload 6, 2) := by decide +kernel
theorem dX6_addAcross_81 : decode cX6_addAcross 81 = .ok (.iadd, 1) := by decide +kernel
theorem dX6_addAcross_82 : decode cX6_addAcross 82 = .ok (.iconst 1, 1) := by decide +kernel
theorem dX6_addAcross_83 : decode cX6_addAcross 83 = .ok (.iadd, 1) := by decide +kernel
theorem dX6_addAcross_84 : decode cX6_addAcross 84 = .ok (.iaload, 1) := by decide +kernel
theorem dX6_addAcross_85 : decode cX6_addAcross 85 = .ok (.goto 4, 3) := by decide +kernel
theorem dX6_addAcross_88 : decode cX6_addAcross 88 = .ok (.iconst 0, 1) := by decide +kernel
theorem dX6_addAcross_89 : decode cX6_addAcross 89 = .ok (.istore 8, 2) := by decide +kernel
theorem dX6_addAcross_91 : decode cX6_addAcross 91 = .ok (.aload_n 0, 1) := by decide +kernel
theorem dX6_addAcross_92 : decode cX6_addAcross 92 = .ok (.getfield 15, 3) := by decide +kernel
theorem dX6_addAcross_95 : decode cX6_addAcross 95 = .ok (.iload 6, 2) := by decide +kernel
theorem dX6_addAcross_97 : decode cX6_addAcross 97 = .ok (.iload 7, 2) := by decide +kernel
theorem dX6_addAcross_99 : decode cX6_addAcross 99 = .ok (.aload_n 1, 1) := by decide +kernel
theorem dX6_addAcross_100 : decode cX6_addAcross 100 = .ok (.getfield 53, 3) := by decide +kernel
theorem dX6_addAcross_103 : decode cX6_addAcross 103 = .ok (.iload_n 3, 1) := by decide +kernel
theorem dX6_addAcross_104 : decode cX6_addAcross 104 = .ok (.iload 6, 2) := by decide +kernel
theorem dX6_addAcross_106 : decode cX6_addAcross 106 = .ok (.iadd, 1) := by decide +kernel
theorem dX6_addAcross_107 : decode cX6_addAcross 107 = .ok (.iaload, 1) := by decide +kernel
theorem dX6_addAcross_108 : decode cX6_addAcross 108 = .ok (.iadd, 1) := by decide +kernel
theorem dX6_addAcross_109 : decode cX6_addAcross 109 = .ok (.iload 8, 2) := by decide +kernel
theorem dX6_addAcross_111 : decode cX6_addAcross 111 = .ok (.iadd, 1) := by decide +kernel
theorem dX6_addAcross_112 : decode cX6_addAcross 112 = .ok (.iastore, 1) := by decide +kernel
theorem dX6_addAcross_113 : decode cX6_addAcross 113 = .ok (.iinc 5 1, 3) := by decide +kernel
theorem dX6_addAcross_116 : decode cX6_addAcross 116 = .ok (.goto (-96), 3) := by decide +kernel
theorem dX6_addAcross_119 : decode cX6_addAcross 119 = .ok (.iinc 4 1, 3) := by decide +kernel
theorem dX6_addAcross_122 : decode cX6_addAcross 122 = .ok (.goto (-114), 3) := by decide +kernel
theorem dX6_addAcross_125 : decode cX6_addAcross 125 = .ok (.return_, 1) := by decide +kernel
theorem dX6_addAround_0 : decode cX6_addAround 0 = .ok (.iconst 0, 1) := by decide +kernel
theorem dX6_addAround_1 : decode cX6_addAround 1 = .ok (.istore_n 3, 1) := by decide +kernel
theorem dX6_addAround_2 : decode cX6_addAround 2 = .ok (.iload_n 3, 1) := by decide +kernel
theorem dX6_addAround_3 : decode cX6_addAround 3 = .ok (.aload_n 0, 1) := by decide +kernel
theorem dX6_addAround_4 : decode cX6_addAround 4 = .ok (.getfield 30, 3) := by decide +kernel
theorem dX6_addAround_7 : decode cX6_addAround 7 = .ok (.if_icmp .ge 94, 3) := by decide +kernel
theorem dX6_addAround_10 : decode cX6_addAround 10 = .ok (.iload_n 3, 1) := by decide +kernel
theorem dX6_addAround_11 : decode cX6_addAround 11 = .ok (.aload_n 1, 1) := by decide +kernel
theorem dX6_addAround_12 : decode cX6_addAround 12 = .ok (.getfield 50, 3) := by decide +kernel
theorem dX6_addAround_15 : decode cX6_addAround 15 = .ok (.if_icmp .lt 17, 3) := by decide +kernel
theorem dX6_addAround_18 : decode cX6_addAround 18 = .ok (.aload_n 0, 1) := by decide +kernel
theorem dX6_addAround_19 : decode cX6_addAround 19 = .ok (.getfield 15, 3) := by decide +kernel
theorem dX6_addAround_22 : decode cX6_addAround 22 = .ok (.iload_n 3, 1) := by decide +kernel
theorem dX6_addAround_23 : decode cX6_addAround 23 = .ok (.aload_n 1, 1) := by decide +kernel
theorem dX6_addAround_24 : decode cX6_addAround 24 = .ok (.getfield 50, 3) := by decide +kernel
theorem dX6_addAround_27 : decode cX6_addAround 27 = .ok (.isub, 1) := by decide +kernel
theorem dX6_addAround_28 : decode cX6_addAround 28 = .ok (.iaload, 1) := by decide +kernel
theorem dX6_addAround_29 : decode cX6_addAround 29 = .ok (.goto 4, 3) := by decide +kernel
theorem dX6_addAround_32 : decode cX6_addAround 32 = .ok (.iconst 0, 1) := by decide +kernel
theorem dX6_addAround_33 : decode cX6_addAround 33 = .ok (.istore 4, 2) := by decide +kernel
theorem dX6_addAround_35 : decode cX6_addAround 35 = .ok (.iload_n 3, 1) := by decide +kernel
theorem dX6_addAround_36 : decode cX6_addAround 36 = .ok (.aload_n 1, 1) := by decide +kernel
theorem dX6_addAround_37 : decode cX6_addAround 37 = .ok (.getfield 50, 3) := by decide +kernel
theorem dX6_addAround_40 : decode cX6_addAround 40 = .ok (.iadd, 1) := by decide +kernel
theorem dX6_addAround_41 : decode cX6_addAround 41 = .ok (.aload_n 0, 1) := by decide +kernel
theorem dX6_addAround_42 : decode cX6_addAround 42 = .ok (.getfield 30, 3) := by decide +kernel
theorem dX6_addAround_45 : decode cX6_addAround 45 = .ok (.if_icmp .ge 17, 3) := by decide +kernel
theorem dX6_addAround_48 : decode cX6_addAround 48 = .ok (.aload_n 0, 1) := by decide +kernel
theorem dX6_addAround_49 : decode cX6_addAround 49 = .ok (.getfield 15, 3) := by decide +kernel
theorem dX6_addAround_52 : decode cX6_addAround 52 = .ok (.iload_n 3, 1) := by decide +kernel
theorem dX6_addAround_53 : decode cX6_addAround 53 = .ok (.aload_n 1, 1) := by decide +kernel
theorem dX6_addAround_54 : decode cX6_addAround 54 = .ok (.getfield 50, 3) := by decide +kernel
theorem dX6_addAround_57 : decode cX6_addAround 57 = .ok (.iadd, 1) := by decide +kernel
theorem dX6_addAround_58 : decode cX6_addAround 58 = .ok (.iaload, 1) := by decide +kernel
theorem dX6_addAround_59 : decode cX6_addAround 59 = .ok (.goto 4, 3) := by decide +kernel
theorem dX6_addAround_62 : decode cX6_addAround 62 = .ok (.iconst 0, 1) := by decide +kernel
theorem dX6_addAround_63 : decode cX6_addAround 63 = .ok (.istore 5, 2) := by decide +kernel
theorem dX6_addAround_65 : decode cX6_addAround 65 = .ok (.aload_n 0, 1) := by decide +kernel
theorem dX6_addAround_66 : decode cX6_addAround 66 = .ok (.getfield 18, 3) := by decide +kernel
theorem dX6_addAround_69 : decode cX6_addAround 69 = .ok (.iload_n 3, 1) := by decide +kernel
theorem dX6_addAround_70 : decode cX6_addAround 70 = .ok (.iload 4, 2) := by decide +kernel
theorem dX6_addAround_72 : decode cX6_addAround 72 = .ok (.aload_n 0, 1) := by decide +kernel
theorem dX6_addAround_73 : decode cX6_addAround 73 = .ok (.getfield 15, 3) := by decide +kernel
theorem dX6_addAround_76 : decode cX6_addAround 76 = .ok (.iload_n 3, 1) := by decide +kernel
theorem dX6_addAround_77 : decode cX6_addAround 77 = .ok (.iaload, 1) := by decide +kernel
theorem dX6_addAround_78 : decode cX6_addAround 78 = .ok (.iadd, 1) := by decide +kernel
theorem dX6_addAround_79 : decode cX6_addAround 79 = .ok (.iload 5, 2) := by decide +kernel
theorem dX6_addAround_81 : decode cX6_addAround 81 = .ok (.iadd, 1) := by decide +kernel
theorem dX6_addAround_82 : decode cX6_addAround 82 = .ok (.aload_n 1, 1) := by decide +kernel
theorem dX6_addAround_83 : decode cX6_addAround 83 = .ok (.getfield 53, 3) := by decide +kernel
theorem dX6_addAround_86 : decode cX6_addAround 86 = .ok (.iload_n 2, 1) := by decide +kernel
theorem dX6_addAround_87 : decode cX6_addAround 87 = .ok (.bipush 64, 2) := by decide +kernel
theorem dX6_addAround_89 : decode cX6_addAround 89 = .ok (.imul, 1) := by decide +kernel
theorem dX6_addAround_90 : decode cX6_addAround 90 = .ok (.iload_n 3, 1) := by decide +kernel
theorem dX6_addAround_91 : decode cX6_addAround 91 = .ok (.iadd, 1) := by decide +kernel
theorem dX6_addAround_92 : decode cX6_addAround 92 = .ok (.iaload, 1) := by decide +kernel
theorem dX6_addAround_93 : decode cX6_addAround 93 = .ok (.isub, 1) := by decide +kernel
theorem dX6_addAround_94 : decode cX6_addAround 94 = .ok (.iastore, 1) := by decide +kernel
theorem dX6_addAround_95 : decode cX6_addAround 95 = .ok (.iinc 3 1, 3) := by decide +kernel
theorem dX6_addAround_98 : decode cX6_addAround 98 = .ok (.goto (-96), 3) := by decide +kernel
theorem dX6_addAround_101 : decode cX6_addAround 101 = .ok (.return_, 1) := by decide +kernel
theorem dX6_orderByShade_0 : decode cX6_orderByShade 0 = .ok (.aload_n 0, 1) := by decide +kernel
theorem dX6_orderByShade_1 : decode cX6_orderByShade 1 = .ok (.getfield 21, 3) := by decide +kernel
theorem dX6_orderByShade_4 : decode cX6_orderByShade 4 = .ok (.iconst 0, 1) := by decide +kernel
theorem dX6_orderByShade_5 : decode cX6_orderByShade 5 = .ok (.iconst 0, 1) := by decide +kernel
theorem dX6_orderByShade_6 : decode cX6_orderByShade 6 = .ok (.iastore, 1) := by decide +kernel
theorem dX6_orderByShade_7 : decode cX6_orderByShade 7 = .ok (.iconst 1, 1) := by decide +kernel
theorem dX6_orderByShade_8 : decode cX6_orderByShade 8 = .ok (.istore 4, 2) := by decide +kernel
theorem dX6_orderByShade_10 : decode cX6_orderByShade 10 = .ok (.iload 4, 2) := by decide +kernel
theorem dX6_orderByShade_12 : decode cX6_orderByShade 12 = .ok (.bipush 16, 2) := by decide +kernel
theorem dX6_orderByShade_14 : decode cX6_orderByShade 14 = .ok (.if_icmp .ge 30, 3) := by decide +kernel
theorem dX6_orderByShade_17 : decode cX6_orderByShade 17 = .ok (.aload_n 0, 1) := by decide +kernel
theorem dX6_orderByShade_18 : decode cX6_orderByShade 18 = .ok (.getfield 21, 3) := by decide +kernel
theorem dX6_orderByShade_21 : decode cX6_orderByShade 21 = .ok (.iload 4, 2) := by decide +kernel
theorem dX6_orderByShade_23 : decode cX6_orderByShade 23 = .ok (.aload_n 3, 1) := by decide +kernel
theorem dX6_orderByShade_24 : decode cX6_orderByShade 24 = .ok (.getfield 56, 3) := by decide +kernel
theorem dX6_orderByShade_27 : decode cX6_orderByShade 27 = .ok (.iload_n 2, 1) := by decide +kernel
theorem dX6_orderByShade_28 : decode cX6_orderByShade 28 = .ok (.bipush 16, 2) := by decide +kernel
theorem dX6_orderByShade_30 : decode cX6_orderByShade 30 = .ok (.imul, 1) := by decide +kernel
theorem dX6_orderByShade_31 : decode cX6_orderByShade 31 = .ok (.iload 4, 2) := by decide +kernel
theorem dX6_orderByShade_33 : decode cX6_orderByShade 33 = .ok (.iadd, 1) := by decide +kernel
theorem dX6_orderByShade_34 : decode cX6_orderByShade 34 = .ok (.iconst 1, 1) := by decide +kernel
theorem dX6_orderByShade_35 : decode cX6_orderByShade 35 = .ok (.isub, 1) := by decide +kernel
theorem dX6_orderByShade_36 : decode cX6_orderByShade 36 = .ok (.iaload, 1) := by decide +kernel
theorem dX6_orderByShade_37 : decode cX6_orderByShade 37 = .ok (.iastore, 1) := by decide +kernel
theorem dX6_orderByShade_38 : decode cX6_orderByShade 38 = .ok (.iinc 4 1, 3) := by decide +kernel
theorem dX6_orderByShade_41 : decode cX6_orderByShade 41 = .ok (.goto (-31), 3) := by decide +kernel
theorem dX6_orderByShade_44 : decode cX6_orderByShade 44 = .ok (.iconst 0, 1) := by decide +kernel
theorem dX6_orderByShade_45 : decode cX6_orderByShade 45 = .ok (.istore 4, 2) := by decide +kernel
theorem dX6_orderByShade_47 : decode cX6_orderByShade 47 = .ok (.iload 4, 2) := by decide +kernel
theorem dX6_orderByShade_49 : decode cX6_orderByShade 49 = .ok (.aload_n 0, 1) := by decide +kernel
theorem dX6_orderByShade_50 : decode cX6_orderByShade 50 = .ok (.getfield 30, 3) := by decide +kernel
theorem dX6_orderByShade_53 : decode cX6_orderByShade 53 = .ok (.if_icmp .ge 48, 3) := by decide +kernel
theorem dX6_orderByShade_56 : decode cX6_orderByShade 56 = .ok (.aload_n 1, 1) := by decide +kernel
theorem dX6_orderByShade_57 : decode cX6_orderByShade 57 = .ok (.getfield 53, 3) := by decide +kernel
theorem dX6_orderByShade_60 : decode cX6_orderByShade 60 = .ok (.iload_n 2, 1) := by decide +kernel
theorem dX6_orderByShade_61 : decode cX6_orderByShade 61 = .ok (.bipush 64, 2) := by decide +kernel
theorem dX6_orderByShade_63 : decode cX6_orderByShade 63 = .ok (.imul, 1) := by decide +kernel
theorem dX6_orderByShade_64 : decode cX6_orderByShade 64 = .ok (.iload 4, 2) := by decide +kernel
theorem dX6_orderByShade_66 : decode cX6_orderByShade 66 = .ok (.iadd, 1) := by decide +kernel
theorem dX6_orderByShade_67 : decode cX6_orderByShade 67 = .ok (.iaload, 1) := by decide +kernel
theorem dX6_orderByShade_68 : decode cX6_orderByShade 68 = .ok (.istore 5, 2) := by decide +kernel
theorem dX6_orderByShade_70 : decode cX6_orderByShade 70 = .ok (.aload_n 0, 1) := by decide +kernel
theorem dX6_orderByShade_71 : decode cX6_orderByShade 71 = .ok (.getfield 9, 3) := by decide +kernel
theorem dX6_orderByShade_74 : decode cX6_orderByShade 74 = .ok (.aload_n 0, 1) := by decide +kernel
theorem dX6_orderByShade_75 : decode cX6_orderByShade 75 = .ok (.getfield 21, 3) := by decide +kernel
theorem dX6_orderByShade_78 : decode cX6_orderByShade 78 = .ok (.iload 5, 2) := by decide +kernel
theorem dX6_orderByShade_80 : decode cX6_orderByShade 80 = .ok (.iaload, 1) := by decide +kernel
theorem dX6_orderByShade_81 : decode cX6_orderByShade 81 = .ok (.iload 4, 2) := by decide +kernel
theorem dX6_orderByShade_83 : decode cX6_orderByShade 83 = .ok (.iastore, 1) := by decide +kernel
theorem dX6_orderByShade_84 : decode cX6_orderByShade 84 = .ok (.aload_n 0, 1) := by decide +kernel
theorem dX6_orderByShade_85 : decode cX6_orderByShade 85 = .ok (.getfield 21, 3) := by decide +kernel
theorem dX6_orderByShade_88 : decode cX6_orderByShade 88 = .ok (.iload 5, 2) := by decide +kernel
theorem dX6_orderByShade_90 : decode cX6_orderByShade 90 = .ok (.dup2, 1) := by decide +kernel
theorem dX6_orderByShade_91 : decode cX6_orderByShade 91 = .ok (.iaload, 1) := by decide +kernel
theorem dX6_orderByShade_92 : decode cX6_orderByShade 92 = .ok (.iconst 1, 1) := by decide +kernel
theorem dX6_orderByShade_93 : decode cX6_orderByShade 93 = .ok (.iadd, 1) := by decide +kernel
theorem dX6_orderByShade_94 : decode cX6_orderByShade 94 = .ok (.iastore, 1) := by decide +kernel
theorem dX6_orderByShade_95 : decode cX6_orderByShade 95 = .ok (.iinc 4 1, 3) := by decide +kernel
theorem dX6_orderByShade_98 : decode cX6_orderByShade 98 = .ok (.goto (-51), 3) := by decide +kernel
theorem dX6_orderByShade_101 : decode cX6_orderByShade 101 = .ok (.return_, 1) := by decide +kernel
theorem dX6_orderWithinShades_0 : decode cX6_orderWithinShades 0 = .ok (.iconst 1, 1) := by decide +kernel
theorem dX6_orderWithinShades_1 : decode cX6_orderWithinShades 1 = .ok (.istore_n 3, 1) := by decide +kernel
theorem dX6_orderWithinShades_2 : decode cX6_orderWithinShades 2 = .ok (.iload_n 3, 1) := by decide +kernel
theorem dX6_orderWithinShades_3 : decode cX6_orderWithinShades 3 = .ok (.aload_n 0, 1) := by decide +kernel
theorem dX6_orderWithinShades_4 : decode cX6_orderWithinShades 4 = .ok (.getfield 30, 3) := by decide +kernel
theorem dX6_orderWithinShades_7 : decode cX6_orderWithinShades 7 = .ok (.if_icmp .ge 118, 3) := by decide +kernel
theorem dX6_orderWithinShades_10 : decode cX6_orderWithinShades 10 = .ok (.aload_n 0, 1) := by decide +kernel
theorem dX6_orderWithinShades_11 : decode cX6_orderWithinShades 11 = .ok (.getfield 9, 3) := by decide +kernel
theorem dX6_orderWithinShades_14 : decode cX6_orderWithinShades 14 = .ok (.iload_n 3, 1) := by decide +kernel
theorem dX6_orderWithinShades_15 : decode cX6_orderWithinShades 15 = .ok (.iaload, 1) := by decide +kernel
theorem dX6_orderWithinShades_16 : decode cX6_orderWithinShades 16 = .ok (.istore 4, 2) := by decide +kernel
theorem dX6_orderWithinShades_18 : decode cX6_orderWithinShades 18 = .ok (.aload_n 1, 1) := by decide +kernel
theorem dX6_orderWithinShades_19 : decode cX6_orderWithinShades 19 = .ok (.getfield 53, 3) := by decide +kernel
theorem dX6_orderWithinShades_22 : decode cX6_orderWithinShades 22 = .ok (.iload_n 2, 1) := by decide +kernel
theorem dX6_orderWithinShades_23 : decode cX6_orderWithinShades 23 = .ok (.bipush 64, 2) := by decide +kernel
theorem dX6_orderWithinShades_25 : decode cX6_orderWithinShades 25 = .ok (.imul, 1) := by decide +kernel
theorem dX6_orderWithinShades_26 : decode cX6_orderWithinShades 26 = .ok (.iload 4, 2) := by decide +kernel
theorem dX6_orderWithinShades_28 : decode cX6_orderWithinShades 28 = .ok (.iadd, 1) := by decide +kernel
theorem dX6_orderWithinShades_29 : decode cX6_orderWithinShades 29 = .ok (.iaload, 1) := by decide +kernel
theorem dX6_orderWithinShades_30 : decode cX6_orderWithinShades 30 = .ok (.istore 5, 2) := by decide +kernel
theorem dX6_orderWithinShades_32 : decode cX6_orderWithinShades 32 = .ok (.iload_n 3, 1) := by decide +kernel
theorem dX6_orderWithinShades_33 : decode cX6_orderWithinShades 33 = .ok (.istore 6, 2) := by decide +kernel
theorem dX6_orderWithinShades_35 : decode cX6_orderWithinShades 35 = .ok (.iload 6, 2) := by decide +kernel
theorem dX6_orderWithinShades_37 : decode cX6_orderWithinShades 37 = .ok (.ifCond .le 73, 3) := by decide +kernel
theorem dX6_orderWithinShades_40 : decode cX6_orderWithinShades 40 = .ok (.aload_n 0, 1) := by decide +kernel
theorem dX6_orderWithinShades_41 : decode cX6_orderWithinShades 41 = .ok (.getfield 18, 3) := by decide +kernel
theorem dX6_orderWithinShades_44 : decode cX6_orderWithinShades 44 = .ok (.aload_n 0, 1) := by decide +kernel
theorem dX6_orderWithinShades_45 : decode cX6_orderWithinShades 45 = .ok (.getfield 9, 3) := by decide +kernel
theorem dX6_orderWithinShades_48 : decode cX6_orderWithinShades 48 = .ok (.iload 6, 2) := by decide +kernel
theorem dX6_orderWithinShades_50 : decode cX6_orderWithinShades 50 = .ok (.iconst 1, 1) := by decide +kernel
theorem dX6_orderWithinShades_51 : decode cX6_orderWithinShades 51 = .ok (.isub, 1) := by decide +kernel
theorem dX6_orderWithinShades_52 : decode cX6_orderWithinShades 52 = .ok (.iaload, 1) := by decide +kernel
theorem dX6_orderWithinShades_53 : decode cX6_orderWithinShades 53 = .ok (.iaload, 1) := by decide +kernel
theorem dX6_orderWithinShades_54 : decode cX6_orderWithinShades 54 = .ok (.aload_n 0, 1) := by decide +kernel
theorem dX6_orderWithinShades_55 : decode cX6_orderWithinShades 55 = .ok (.getfield 18, 3) := by decide +kernel
theorem dX6_orderWithinShades_58 : decode cX6_orderWithinShades 58 = .ok (.iload 4, 2) := by decide +kernel
theorem dX6_orderWithinShades_60 : decode cX6_orderWithinShades 60 = .ok (.iaload, 1) := by decide +kernel
theorem dX6_orderWithinShades_61 : decode cX6_orderWithinShades 61 = .ok (.if_icmp .le 49, 3) := by decide +kernel
theorem dX6_orderWithinShades_64 : decode cX6_orderWithinShades 64 = .ok (.aload_n 1, 1) := by decide +kernel
theorem dX6_orderWithinShades_65 : decode cX6_orderWithinShades 65 = .ok (.getfield 53, 3) := by decide +kernel
theorem dX6_orderWithinShades_68 : decode cX6_orderWithinShades 68 = .ok (.iload_n 2, 1) := by decide +kernel
theorem dX6_orderWithinShades_69 : decode cX6_orderWithinShades 69 = .ok (.bipush 64, 2) := by decide +kernel
theorem dX6_orderWithinShades_71 : decode cX6_orderWithinShades 71 = .ok (.imul, 1) := by decide +kernel
theorem dX6_orderWithinShades_72 : decode cX6_orderWithinShades 72 = .ok (.aload_n 0, 1) := by decide +kernel
theorem dX6_orderWithinShades_73 : decode cX6_orderWithinShades 73 = .ok (.getfield 9, 3) := by decide +kernel
theorem dX6_orderWithinShades_76 : decode cX6_orderWithinShades 76 = .ok (.iload 6, 2) := by decide +kernel
theorem dX6_orderWithinShades_78 : decode cX6_orderWithinShades 78 = .ok (.iconst 1, 1) := by decide +kernel
theorem dX6_orderWithinShades_79 : decode cX6_orderWithinShades 79 = .ok (.isub, 1) := by decide +kernel
theorem dX6_orderWithinShades_80 : decode cX6_orderWithinShades 80 = .ok (.iaload, 1) := by decide +kernel
theorem dX6_orderWithinShades_81 : decode cX6_orderWithinShades 81 = .ok (.iadd, 1) := by decide +kernel
theorem dX6_orderWithinShades_82 : decode cX6_orderWithinShades 82 = .ok (.iaload, 1) := by decide +kernel
theorem dX6_orderWithinShades_83 : decode cX6_orderWithinShades 83 = .ok (.iload 5, 2) := by decide +kernel
theorem dX6_orderWithinShades_85 : decode cX6_orderWithinShades 85 = .ok (.if_icmp .ne 25, 3) := by decide +kernel
theorem dX6_orderWithinShades_88 : decode cX6_orderWithinShades 88 = .ok (.aload_n 0, 1) := by decide +kernel
theorem dX6_orderWithinShades_89 : decode cX6_orderWithinShades 89 = .ok (.getfield 9, 3) := by decide +kernel
theorem dX6_orderWithinShades_92 : decode cX6_orderWithinShades 92 = .ok (.iload 6, 2) := by decide +kernel
theorem dX6_orderWithinShades_94 : decode cX6_orderWithinShades 94 = .ok (.aload_n 0, 1) := by decide +kernel
theorem dX6_orderWithinShades_95 : decode cX6_orderWithinShades 95 = .ok (.getfield 9, 3) := by decide +kernel
theorem dX6_orderWithinShades_98 : decode cX6_orderWithinShades 98 = .ok (.iload 6, 2) := by decide +kernel
theorem dX6_orderWithinShades_100 : decode cX6_orderWithinShades 100 = .ok (.iconst 1, 1) := by decide +kernel
theorem dX6_orderWithinShades_101 : decode cX6_orderWithinShades 101 = .ok (.isub, 1) := by decide +kernel
theorem dX6_orderWithinShades_102 : decode cX6_orderWithinShades 102 = .ok (.iaload, 1) := by decide +kernel
theorem dX6_orderWithinShades_103 : decode cX6_orderWithinShades 103 = .ok (.iastore, 1) := by decide +kernel
theorem dX6_orderWithinShades_104 : decode cX6_orderWithinShades 104 = .ok (.iinc 6 (-1), 3) := by decide +kernel
theorem dX6_orderWithinShades_107 : decode cX6_orderWithinShades 107 = .ok (.goto (-72), 3) := by decide +kernel
theorem dX6_orderWithinShades_110 : decode cX6_orderWithinShades 110 = .ok (.aload_n 0, 1) := by decide +kernel
theorem dX6_orderWithinShades_111 : decode cX6_orderWithinShades 111 = .ok (.getfield 9, 3) := by decide +kernel
theorem dX6_orderWithinShades_114 : decode cX6_orderWithinShades 114 = .ok (.iload 6, 2) := by decide +kernel
theorem dX6_orderWithinShades_116 : decode cX6_orderWithinShades 116 = .ok (.iload 4, 2) := by decide +kernel
theorem dX6_orderWithinShades_118 : decode cX6_orderWithinShades 118 = .ok (.iastore, 1) := by decide +kernel
theorem dX6_orderWithinShades_119 : decode cX6_orderWithinShades 119 = .ok (.iinc 3 1, 3) := by decide +kernel
theorem dX6_orderWithinShades_122 : decode cX6_orderWithinShades 122 = .ok (.goto (-120), 3) := by decide +kernel
theorem dX6_orderWithinShades_125 : decode cX6_orderWithinShades 125 = .ok (.return_, 1) := by decide +kernel
theorem dX7_init_0 : decode cX7_init 0 = .ok (.aload_n 0, 1) := by decide +kernel
theorem dX7_init_1 : decode cX7_init 1 = .ok (.invokespecial 3, 3) := by decide +kernel
theorem dX7_init_4 : decode cX7_init 4 = .ok (.aload_n 0, 1) := by decide +kernel
theorem dX7_init_5 : decode cX7_init 5 = .ok (.new 9, 3) := by decide +kernel
theorem dX7_init_8 : decode cX7_init 8 = .ok (.dup, 1) := by decide +kernel
theorem dX7_init_9 : decode cX7_init 9 = .ok (.invokespecial 11, 3) := by decide +kernel
theorem dX7_init_12 : decode cX7_init 12 = .ok (.putfield 12, 3) := by decide +kernel
theorem dX7_init_15 : decode cX7_init 15 = .ok (.aload_n 0, 1) := by decide +kernel
theorem dX7_init_16 : decode cX7_init 16 = .ok (.sipush 900, 3) := by decide +kernel
theorem dX7_init_19 : decode cX7_init 19 = .ok (.newarray .int, 2) := by decide +kernel
theorem dX7_init_21 : decode cX7_init 21 = .ok (.putfield 18, 3) := by decide +kernel
theorem dX7_init_24 : decode cX7_init 24 = .ok (.aload_n 0, 1) := by decide +kernel
theorem dX7_init_25 : decode cX7_init 25 = .ok (.bipush 7, 2) := by decide +kernel
theorem dX7_init_27 : decode cX7_init 27 = .ok (.newarray .boolean, 2) := by decide +kernel
theorem dX7_init_29 : decode cX7_init 29 = .ok (.putfield 22, 3) := by decide +kernel
theorem dX7_init_32 : decode cX7_init 32 = .ok (.aload_n 0, 1) := by decide +kernel
theorem dX7_init_33 : decode cX7_init 33 = .ok (.iconst 4, 1) := by decide +kernel
theorem dX7_init_34 : decode cX7_init 34 = .ok (.newarray .boolean, 2) := by decide +kernel
theorem dX7_init_36 : decode cX7_init 36 = .ok (.putfield 26, 3) := by decide +kernel
theorem dX7_init_39 : decode cX7_init 39 = .ok (.aload_n 0, 1) := by decide +kernel
theorem dX7_init_40 : decode cX7_init 40 = .ok (.iconst (-1), 1) := by decide +kernel
theorem dX7_init_41 : decode cX7_init 41 = .ok (.putfield 29, 3) := by decide +kernel
theorem dX7_init_44 : decode cX7_init 44 = .ok (.return_, 1) := by decide +kernel
theorem dX7_putFour_0 : decode cX7_putFour 0 = .ok (.bipush 24, 2) := by decide +kernel
theorem dX7_putFour_2 : decode cX7_putFour 2 = .ok (.istore_n 2, 1) := by decide +kernel
theorem dX7_putFour_3 : decode cX7_putFour 3 = .ok (.iload_n 2, 1) := by decide +kernel
theorem dX7_putFour_4 : decode cX7_putFour 4 = .ok (.ifCond .lt 45, 3) := by decide +kernel
theorem dX7_putFour_7 : decode cX7_putFour 7 = .ok (.aload_n 0, 1) := by decide +kernel
theorem dX7_putFour_8 : decode cX7_putFour 8 = .ok (.getfield 33, 3) := by decide +kernel
theorem dX7_putFour_11 : decode cX7_putFour 11 = .ok (.sipush 900, 3) := by decide +kernel
theorem dX7_putFour_14 : decode cX7_putFour 14 = .ok (.if_icmp .ge 35, 3) := by decide +kernel
theorem dX7_putFour_17 : decode cX7_putFour 17 = .ok (.aload_n 0, 1) := by decide +kernel
theorem dX7_putFour_18 : decode cX7_putFour 18 = .ok (.getfield 18, 3) := by decide +kernel
theorem dX7_putFour_21 : decode cX7_putFour 21 = .ok (.aload_n 0, 1) := by decide +kernel
theorem dX7_putFour_22 : decode cX7_putFour 22 = .ok (.getfield 33, 3) := by decide +kernel
theorem dX7_putFour_25 : decode cX7_putFour 25 = .ok (.iload_n 1, 1) := by decide +kernel
theorem dX7_putFour_26 : decode cX7_putFour 26 = .ok (.iload_n 2, 1) := by decide +kernel
theorem dX7_putFour_27 : decode cX7_putFour 27 = .ok (.ishr, 1) := by decide +kernel
theorem dX7_putFour_28 : decode cX7_putFour 28 = .ok (.sipush 255, 3) := by decide +kernel
theorem dX7_putFour_31 : decode cX7_putFour 31 = .ok (.iand, 1) := by decide +kernel
theorem dX7_putFour_32 : decode cX7_putFour 32 = .ok (.iastore, 1) := by decide +kernel
theorem dX7_putFour_33 : decode cX7_putFour 33 = .ok (.aload_n 0, 1) := by decide +kernel
theorem dX7_putFour_34 : decode cX7_putFour 34 = .ok (.dup, 1) := by decide +kernel
theorem dX7_putFour_35 : decode cX7_putFour 35 = .ok (.getfield 33, 3) := by decide +kernel
theorem dX7_putFour_38 : decode cX7_putFour 38 = .ok (.iconst 1, 1) := by decide +kernel
theorem dX7_putFour_39 : decode cX7_putFour 39 = .ok (.iadd, 1) := by decide +kernel
theorem dX7_putFour_40 : decode cX7_putFour 40 = .ok (.putfield 33, 3) := by decide +kernel
theorem dX7_putFour_43 : decode cX7_putFour 43 = .ok (.iinc 2 (-8), 3) := by decide +kernel
theorem dX7_putFour_46 : decode cX7_putFour 46 = .ok (.goto (-43), 3) := by decide +kernel
theorem dX7_putFour_49 : decode cX7_putFour 49 = .ok (.return_, 1) := by decide +kernel
theorem dX7_readText_0 : decode cX7_readText 0 = .ok (.aload_n 0, 1) := by decide +kernel
theorem dX7_readText_1 : decode cX7_readText 1 = .ok (.iload_n 1, 1) := by decide +kernel
theorem dX7_readText_2 : decode cX7_readText 2 = .ok (.invokevirtual 36, 3) := by decide +kernel
theorem dX7_readText_5 : decode cX7_readText 5 = .ok (.aload_n 0, 1) := by decide +kernel
theorem dX7_readText_6 : decode cX7_readText 6 = .ok (.invokevirtual 40, 3) := by decide +kernel
theorem dX7_readText_9 : decode cX7_readText 9 = .ok (.iconst 0, 1) := by decide +kernel
theorem dX7_readText_10 : decode cX7_readText 10 = .ok (.istore_n 2, 1) := by decide +kernel
theorem dX7_readText_11 : decode cX7_readText 11 = .ok (.iload_n 2, 1) := by decide +kernel
theorem dX7_readText_12 : decode cX7_readText 12 = .ok (.sipush 900, 3) := by decide +kernel
theorem dX7_readText_15 : decode cX7_readText 15 = .ok (.if_icmp .ge 35, 3) := by decide +kernel
theorem dX7_readText_18 : decode cX7_readText 18 = .ok (.aload_n 0, 1) := by decide +kernel
theorem dX7_readText_19 : decode cX7_readText 19 = .ok (.getfield 43, 3) := by decide +kernel
theorem dX7_readText_22 : decode cX7_readText 22 = .ok (.aload_n 0, 1) := by decide +kernel
theorem dX7_readText_23 : decode cX7_readText 23 = .ok (.getfield 46, 3) := by decide +kernel
theorem dX7_readText_26 : decode cX7_readText 26 = .ok (.if_icmp .ge 24, 3) := by decide +kernel
theorem dX7_readText_29 : decode cX7_readText 29 = .ok (.aload_n 0, 1) := by decide +kernel
theorem dX7_readText_30 : decode cX7_readText 30 = .ok (.getfield 49, 3) := by decide +kernel
theorem dX7_readText_33 : decode cX7_readText 33 = .ok (.ifCond .ne 17, 3) := by decide +kernel
theorem dX7_readText_36 : decode cX7_readText 36 = .ok (.aload_n 0, 1) := by decide +kernel
theorem dX7_readText_37 : decode cX7_readText 37 = .ok (.invokevirtual 52, 3) := by decide +kernel
theorem dX7_readText_40 : decode cX7_readText 40 = .ok (.aload_n 0, 1) := by decide +kernel
theorem dX7_readText_41 : decode cX7_readText 41 = .ok (.invokevirtual 40, 3) := by decide +kernel
theorem dX7_readText_44 : decode cX7_readText 44 = .ok (.iinc 2 1, 3) := by decide +kernel
theorem dX7_readText_47 : decode cX7_readText 47 = .ok (.goto (-36), 3) := by decide +kernel
theorem dX7_readText_50 : decode cX7_readText 50 = .ok (.aload_n 0, 1) := by decide +kernel
theorem dX7_readText_51 : decode cX7_readText 51 = .ok (.getfield 49, 3) := by decide +kernel
theorem dX7_readText_54 : decode cX7_readText 54 = .ok (.ifCond .ne 34, 3) := by decide +kernel
theorem dX7_readText_57 : decode cX7_readText 57 = .ok (.aload_n 0, 1) := by decide +kernel
theorem dX7_readText_58 : decode cX7_readText 58 = .ok (.getfield 12, 3) := by decide +kernel
theorem dX7_readText_61 : decode cX7_readText 61 = .ok (.getfield 55, 3) := by decide +kernel
theorem dX7_readText_64 : decode cX7_readText 64 = .ok (.iconst 1, 1) := by decide +kernel
theorem dX7_readText_65 : decode cX7_readText 65 = .ok (.iaload, 1) := by decide +kernel
theorem dX7_readText_66 : decode cX7_readText 66 = .ok (.aload_n 0, 1) := by decide +kernel
theorem dX7_readText_67 : decode cX7_readText 67 = .ok (.getfield 12, 3) := by decide +kernel
theorem dX7_readText_70 : decode cX7_readText 70 = .ok (.getfield 55, 3) := by decide +kernel
theorem dX7_readText_73 : decode cX7_readText 73 = .ok (.iconst 2, 1) := by decide +kernel
theorem dX7_readText_74 : decode cX7_readText 74 = .ok (.iaload, 1) := by decide +kernel
theorem dX7_readText_75 : decode cX7_readText 75 = .ok (.if_icmp .le 13, 3) := by decide +kernel
theorem dX7_readText_78 : decode cX7_readText 78 = .ok (.aload_n 0, 1) := by decide +kernel
theorem dX7_readText_79 : decode cX7_readText 79 = .ok (.bipush 6, 2) := by decide +kernel
theorem dX7_readText_81 : decode cX7_readText 81 = .ok (.aload_n 0, 1) := by decide +kernel
theorem dX7_readText_82 : decode cX7_readText 82 = .ok (.getfield 46, 3) := by decide +kernel
theorem dX7_readText_85 : decode cX7_readText 85 = .ok (.invokevirtual 58, 3) := by decide +kernel
theorem dX7_readText_88 : decode cX7_readText 88 = .ok (.return_, 1) := by decide +kernel
theorem dX7_begin_0 : decode cX7_begin 0 = .ok (.aload_n 0, 1) := by decide +kernel
theorem dX7_begin_1 : decode cX7_begin 1 = .ok (.getfield 12, 3) := by decide +kernel
theorem dX7_begin_4 : decode cX7_begin 4 = .ok (.invokevirtual 62, 3) := by decide +kernel
theorem dX7_begin_7 : decode cX7_begin 7 = .ok (.aload_n 0, 1) := by decide +kernel
theorem dX7_begin_8 : decode cX7_begin 8 = .ok (.iconst 0, 1) := by decide +kernel
theorem dX7_begin_9 : decode cX7_begin 9 = .ok (.putfield 33, 3) := by decide +kernel
theorem dX7_begin_12 : decode cX7_begin 12 = .ok (.aload_n 0, 1) := by decide +kernel
theorem dX7_begin_13 : decode cX7_begin 13 = .ok (.iconst 0, 1) := by decide +kernel
theorem dX7_begin_14 : decode cX7_begin 14 = .ok (.putfield 49, 3) := by decide +kernel
theorem dX7_begin_17 : decode cX7_begin 17 = .ok (.aload_n 0, 1) := by decide +kernel
theorem dX7_begin_18 : decode cX7_begin 18 = .ok (.iconst (-1), 1) := by decide +kernel
theorem dX7_begin_19 : decode cX7_begin 19 = .ok (.putfield 29, 3) := by decide +kernel
theorem dX7_begin_22 : decode cX7_begin 22 = .ok (.aload_n 0, 1) := by decide +kernel
theorem dX7_begin_23 : decode cX7_begin 23 = .ok (.iload_n 1, 1) := by decide +kernel
theorem dX7_begin_24 : decode cX7_begin 24 = .ok (.putfield 46, 3) := by decide +kernel
theorem dX7_begin_27 : decode cX7_begin 27 = .ok (.aload_n 0, 1) := by decide +kernel
theorem dX7_begin_28 : decode cX7_begin 28 = .ok (.iconst 0, 1) := by decide +kernel
theorem dX7_begin_29 : decode cX7_begin 29 = .ok (.putfield 43, 3) := by decide +kernel
theorem dX7_begin_32 : decode cX7_begin 32 = .ok (.iconst 0, 1) := by decide +kernel
theorem dX7_begin_33 : decode cX7_begin 33 = .ok (.istore_n 2, 1) := by decide +kernel
theorem dX7_begin_34 : decode cX7_begin 34 = .ok (.iload_n 2, 1) := by decide +kernel
theorem dX7_begin_35 : decode cX7_begin 35 = .ok (.bipush 6, 2) := by decide +kernel
theorem dX7_begin_37 : decode cX7_begin 37 = .ok (.if_icmp .gt 16, 3) := by decide +kernel
theorem dX7_begin_40 : decode cX7_begin 40 = .ok (.aload_n 0, 1) := by decide +kernel
theorem dX7_begin_41 : decode cX7_begin 41 = .ok (.getfield 22, 3) := by decide +kernel
theorem dX7_begin_44 : decode cX7_begin 44 = .ok (.iload_n 2, 1) := by decide +kernel
theorem dX7_begin_45 : decode cX7_begin 45 = .ok (.iconst 0, 1) := by decide +kernel
theorem dX7_begin_46 : decode cX7_begin 46 = .ok (.bastore, 1) := by decide +kernel
theorem dX7_begin_47 : decode cX7_begin 47 = .ok (.iinc 2 1, 3) := by decide +kernel
theorem dX7_begin_50 : decode cX7_begin 50 = .ok (.goto (-16), 3) := by decide +kernel
theorem dX7_begin_53 : decode cX7_begin 53 = .ok (.iconst 0, 1) := by decide +kernel
theorem dX7_begin_54 : decode cX7_begin 54 = .ok (.istore_n 2, 1) := by decide +kernel
theorem dX7_begin_55 : decode cX7_begin 55 = .ok (.iload_n 2, 1) := by decide +kernel
theorem dX7_begin_56 : decode cX7_begin 56 = .ok (.iconst 4, 1) := by decide +kernel
theorem dX7_begin_57 : decode cX7_begin 57 = .ok (.if_icmp .ge 16, 3) := by decide +kernel
theorem dX7_begin_60 : decode cX7_begin 60 = .ok (.aload_n 0, 1) := by decide +kernel
theorem dX7_begin_61 : decode cX7_begin 61 = .ok (.getfield 26, 3) := by decide +kernel
theorem dX7_begin_64 : decode cX7_begin 64 = .ok (.iload_n 2, 1) := by decide +kernel
theorem dX7_begin_65 : decode cX7_begin 65 = .ok (.iconst 0, 1) := by decide +kernel
theorem dX7_begin_66 : decode cX7_begin 66 = .ok (.bastore, 1) := by decide +kernel
theorem dX7_begin_67 : decode cX7_begin 67 = .ok (.iinc 2 1, 3) := by decide +kernel
theorem dX7_begin_70 : decode cX7_begin 70 = .ok (.goto (-15), 3) := by decide +kernel
theorem dX7_begin_73 : decode cX7_begin 73 = .ok (.return_, 1) := by decide +kernel
theorem dX7_fail_0 : decode cX7_fail 0 = .ok (.aload_n 0, 1) := by decide +kernel
theorem dX7_fail_1 : decode cX7_fail 1 = .ok (.iload_n 1, 1) := by decide +kernel
theorem dX7_fail_2 : decode cX7_fail 2 = .ok (.putfield 49, 3) := by decide +kernel
theorem dX7_fail_5 : decode cX7_fail 5 = .ok (.aload_n 0, 1) := by decide +kernel
theorem dX7_fail_6 : decode cX7_fail 6 = .ok (.iload_n 2, 1) := by decide +kernel
theorem dX7_fail_7 : decode cX7_fail 7 = .ok (.putfield 29, 3) := by decide +kernel
theorem dX7_fail_10 : decode cX7_fail 10 = .ok (.return_, 1) := by decide +kernel
theorem dX7_skipBlanks_0 : decode cX7_skipBlanks 0 = .ok (.aload_n 0, 1) := by decide +kernel
theorem dX7_skipBlanks_1 : decode cX7_skipBlanks 1 = .ok (.getfield 43, 3) := by decide +kernel
theorem dX7_skipBlanks_4 : decode cX7_skipBlanks 4 = .ok (.aload_n 0, 1) := by decide +kernel
theorem dX7_skipBlanks_5 : decode cX7_skipBlanks 5 = .ok (.getfield 46, 3) := by decide +kernel
theorem dX7_skipBlanks_8 : decode cX7_skipBlanks 8 = .ok (.if_icmp .ge 30, 3) := by decide +kernel
theorem dX7_skipBlanks_11 : decode cX7_skipBlanks 11 = .ok (.aload_n 0, 1) := by decide +kernel
theorem dX7_skipBlanks_12 : decode cX7_skipBlanks 12 = .ok (.getfield 18, 3) := by decide +kernel
theorem dX7_skipBlanks_15 : decode cX7_skipBlanks 15 = .ok (.aload_n 0, 1) := by decide +kernel
theorem dX7_skipBlanks_16 : decode cX7_skipBlanks 16 = .ok (.getfield 43, 3) := by decide +kernel
theorem dX7_skipBlanks_19 : decode cX7_skipBlanks 19 = .ok (.iaload, 1) := by decide +kernel
theorem dX7_skipBlanks_20 : decode cX7_skipBlanks 20 = .ok (.bipush 32, 2) := by decide +kernel
theorem dX7_skipBlanks_22 : decode cX7_skipBlanks 22 = .ok (.if_icmp .ne 16, 3) := by decide +kernel
theorem dX7_skipBlanks_25 : decode cX7_skipBlanks 25 = .ok (.aload_n 0, 1) := by decide +kernel
theorem dX7_skipBlanks_26 : decode cX7_skipBlanks 26 = .ok (.dup, 1) := by decide +kernel
theorem dX7_skipBlanks_27 : decode cX7_skipBlanks 27 = .ok (.getfield 43, 3) := by decide +kernel
theorem dX7_skipBlanks_30 : decode cX7_skipBlanks 30 = .ok (.iconst 1, 1) := by decide +kernel
theorem dX7_skipBlanks_31 : decode cX7_skipBlanks 31 = .ok (.iadd, 1) := by decide +kernel
theorem dX7_skipBlanks_32 : decode cX7_skipBlanks 32 = .ok (.putfield 43, 3) := by decide +kernel
theorem dX7_skipBlanks_35 : decode cX7_skipBlanks 35 = .ok (.goto (-35), 3) := by decide +kernel
theorem dX7_skipBlanks_38 : decode cX7_skipBlanks 38 = .ok (.return_, 1) := by decide +kernel
theorem dX7_isAt_0 : decode cX7_isAt 0 = .ok (.aload_n 0, 1) := by decide +kernel
theorem dX7_isAt_1 : decode cX7_isAt 1 = .ok (.getfield 43, 3) := by decide +kernel
theorem dX7_isAt_4 : decode cX7_isAt 4 = .ok (.aload_n 0, 1) := by decide +kernel
theorem dX7_isAt_5 : decode cX7_isAt 5 = .ok (.getfield 46, 3) := by decide +kernel
theorem dX7_isAt_8 : decode cX7_isAt 8 = .ok (.if_icmp .ge 33, 3) := by decide +kernel
theorem dX7_isAt_11 : decode cX7_isAt 11 = .ok (.aload_n 0, 1) := by decide +kernel
theorem dX7_isAt_12 : decode cX7_isAt 12 = .ok (.getfield 18, 3) := by decide +kernel
theorem dX7_isAt_15 : decode cX7_isAt 15 = .ok (.aload_n 0, 1) := by decide +kernel
theorem dX7_isAt_16 : decode cX7_isAt 16 = .ok (.getfield 43, 3) := by decide +kernel
theorem dX7_isAt_19 : decode cX7_isAt 19 = .ok (.iaload, 1) := by decide +kernel
theorem dX7_isAt_20 : decode cX7_isAt 20 = .ok (.iload_n 1, 1) := by decide +kernel
theorem dX7_isAt_21 : decode cX7_isAt 21 = .ok (.if_icmp .lt 20, 3) := by decide +kernel
theorem dX7_isAt_24 : decode cX7_isAt 24 = .ok (.aload_n 0, 1) := by decide +kernel
theorem dX7_isAt_25 : decode cX7_isAt 25 = .ok (.getfield 18, 3) := by decide +kernel
theorem dX7_isAt_28 : decode cX7_isAt 28 = .ok (.aload_n 0, 1) := by decide +kernel
theorem dX7_isAt_29 : decode cX7_isAt 29 = .ok (.getfield 43, 3) := by decide +kernel
theorem dX7_isAt_32 : decode cX7_isAt 32 = .ok (.iaload, 1) := by decide +kernel
theorem dX7_isAt_33 : decode cX7_isAt 33 = .ok (.iload_n 2, 1) := by decide +kernel
theorem dX7_isAt_34 : decode cX7_isAt 34 = .ok (.if_icmp .gt 7, 3) := by decide +kernel
theorem dX7_isAt_37 : decode cX7_isAt 37 = .ok (.iconst 1, 1) := by decide +kernel
theorem dX7_isAt_38 : decode cX7_isAt 38 = .ok (.goto 4, 3) := by decide +kernel
theorem dX7_isAt_41 : decode cX7_isAt 41 = .ok (.iconst 0, 1) := by decide +kernel
theorem dX7_isAt_42 : decode cX7_isAt 42 = .ok (.ireturn, 1) := by decide +kernel
theorem dX7_readLine_0 : decode cX7_readLine 0 = .ok (.aload_n 0, 1) := by decide +kernel
theorem dX7_readLine_1 : decode cX7_readLine 1 = .ok (.getfield 43, 3) := by decide +kernel
theorem dX7_readLine_4 : decode cX7_readLine 4 = .ok (.istore_n 1, 1) := by decide +kernel
theorem dX7_readLine_5 : decode cX7_readLine 5 = .ok (.aload_n 0, 1) := by decide +kernel
theorem dX7_readLine_6 : decode cX7_readLine 6 = .ok (.invokevirtual 65, 3) := by decide +kernel
theorem dX7_readLine_9 : decode cX7_readLine 9 = .ok (.astore_n 2, 1) := by decide +kernel
theorem dX7_readLine_10 : decode cX7_readLine 10 = .ok (.aload_n 2, 1) := by decide +kernel
theorem dX7_readLine_11 : decode cX7_readLine 11 = .ok (.ifnull 11, 3) := by decide +kernel
theorem dX7_readLine_14 : decode cX7_readLine 14 = .ok (.aload_n 0, 1) := by decide +kernel
theorem dX7_readLine_15 : decode cX7_readLine 15 = .ok (.aload_n 2, 1) := by decide +kernel
theorem dX7_readLine_16 : decode cX7_readLine 16 = .ok (.invokevirtual 69, 3) := by decide +kernel
theorem dX7_readLine_19 : decode cX7_readLine 19 = .ok (.ifCond .eq 10, 3) := by decide +kernel
theorem dX7_readLine_22 : decode cX7_readLine 22 = .ok (.aload_n 0, 1) := by decide +kernel
theorem dX7_readLine_23 : decode cX7_readLine 23 = .ok (.iconst 1, 1) := by decide +kernel
theorem dX7_readLine_24 : decode cX7_readLine 24 = .ok (.iload_n 1, 1) := by decide +kernel
theorem dX7_readLine_25 : decode cX7_readLine 25 = .ok (.invokevirtual 58, 3) := by decide +kernel
theorem dX7_readLine_28 : decode cX7_readLine 28 = .ok (.return_, 1) := by decide +kernel
theorem dX7_readLine_29 : decode cX7_readLine 29 = .ok (.aload_n 2, 1) := by decide +kernel
theorem dX7_readLine_30 : decode cX7_readLine 30 = .ok (.getstatic 73, 3) := by decide +kernel
theorem dX7_readLine_33 : decode cX7_readLine 33 = .ok (.if_acmp .ne 9, 3) := by decide +kernel
theorem dX7_readLine_36 : decode cX7_readLine 36 = .ok (.aload_n 0, 1) := by decide +kernel
theorem dX7_readLine_37 : decode cX7_readLine 37 = .ok (.iload_n 1, 1) := by decide +kernel
theorem dX7_readLine_38 : decode cX7_readLine 38 = .ok (.invokevirtual 79, 3) := by decide +kernel
theorem dX7_readLine_41 : decode cX7_readLine 41 = .ok (.return_, 1) := by decide +kernel
theorem dX7_readLine_42 : decode cX7_readLine 42 = .ok (.aload_n 2, 1) := by decide +kernel
theorem dX7_readLine_43 : decode cX7_readLine 43 = .ok (.getfield 82, 3) := by decide +kernel
theorem dX7_readLine_46 : decode cX7_readLine 46 = .ok (.iconst (-1), 1) := by decide +kernel
theorem dX7_readLine_47 : decode cX7_readLine 47 = .ok (.if_icmp .eq 13, 3) := by decide +kernel
theorem dX7_readLine_50 : decode cX7_readLine 50 = .ok (.aload_n 0, 1) := by decide +kernel
theorem dX7_readLine_51 : decode cX7_readLine 51 = .ok (.getfield 22, 3) := by decide +kernel
theorem dX7_readLine_54 : decode cX7_readLine 54 = .ok (.aload_n 2, 1) := by decide +kernel
theorem dX7_readLine_55 : decode cX7_readLine 55 = .ok (.getfield 82, 3) := by decide +kernel
theorem dX7_readLine_58 : decode cX7_readLine 58 = .ok (.iconst 1, 1) := by decide +kernel
theorem dX7_readLine_59 : decode cX7_readLine 59 = .ok (.bastore, 1) := by decide +kernel
theorem dX7_readLine_60 : decode cX7_readLine 60 = .ok (.aload_n 0, 1) := by decide +kernel
theorem dX7_readLine_61 : decode cX7_readLine 61 = .ok (.aload_n 2, 1) := by decide +kernel
theorem dX7_readLine_62 : decode cX7_readLine 62 = .ok (.invokevirtual 85, 3) := by decide +kernel
theorem dX7_readLine_65 : decode cX7_readLine 65 = .ok (.aload_n 0, 1) := by decide +kernel
theorem dX7_readLine_66 : decode cX7_readLine 66 = .ok (.getfield 49, 3) := by decide +kernel
theorem dX7_readLine_69 : decode cX7_readLine 69 = .ok (.ifCond .ne 7, 3) := by decide +kernel
theorem dX7_readLine_72 : decode cX7_readLine 72 = .ok (.aload_n 0, 1) := by decide +kernel
theorem dX7_readLine_73 : decode cX7_readLine 73 = .ok (.invokevirtual 89, 3) := by decide +kernel
theorem dX7_readLine_76 : decode cX7_readLine 76 = .ok (.return_, 1) := by decide +kernel
theorem dX7_readWord_0 : decode cX7_readWord 0 = .ok (.aload_n 0, 1) := by decide +kernel
theorem dX7_readWord_1 : decode cX7_readWord 1 = .ok (.getfield 43, 3) := by decide +kernel
theorem dX7_readWord_4 : decode cX7_readWord 4 = .ok (.istore_n 1, 1) := by decide +kernel
theorem dX7_readWord_5 : decode cX7_readWord 5 = .ok (.aload_n 0, 1) := by decide +kernel
theorem dX7_readWord_6 : decode cX7_readWord 6 = .ok (.getfield 43, 3) := by decide +kernel
theorem dX7_readWord_9 : decode cX7_readWord 9 = .ok (.aload_n 0, 1) := by decide +kernel
theorem dX7_readWord_10 : decode cX7_readWord 10 = .ok (.getfield 46, 3) := by decide +kernel
theorem dX7_readWord_13 : decode cX7_readWord 13 = .ok (.if_icmp .ge 27, 3) := by decide +kernel
theorem dX7_readWord_16 : decode cX7_readWord 16 = .ok (.aload_n 0, 1) := by decide +kernel
theorem dX7_readWord_17 : decode cX7_readWord 17 = .ok (.bipush 97, 2) := by decide +kernel
theorem dX7_readWord_19 : decode cX7_readWord 19 = .ok (.bipush 122, 2) := by decide +kernel
theorem dX7_readWord_21 : decode cX7_readWord 21 = .ok (.invokevirtual 92, 3) := by decide +kernel
theorem dX7_readWord_24 : decode cX7_readWord 24 = .ok (.ifCond .eq 16, 3) := by decide +kernel
theorem dX7_readWord_27 : decode cX7_readWord 27 = .ok (.aload_n 0, 1) := by decide +kernel
theorem dX7_readWord_28 : decode cX7_readWord 28 = .ok (.dup, 1) := by decide +kernel
theorem dX7_readWord_29 : decode cX7_readWord 29 = .ok (.getfield 43, 3) := by decide +kernel
theorem dX7_readWord_32 : decode cX7_readWord 32 = .ok (.iconst 1, 1) := by decide +kernel
theorem dX7_readWord_33 : decode cX7_readWord 33 = .ok (.iadd, 1) := by decide +kernel
theorem dX7_readWord_34 : decode cX7_readWord 34 = .ok (.putfield 43, 3) := by decide +kernel
theorem dX7_readWord_37 : decode cX7_readWord 37 = .ok (.goto (-32), 3) := by decide +kernel
theorem dX7_readWord_40 : decode cX7_readWord 40 = .ok (.getstatic 96, 3) := by decide +kernel
theorem dX7_readWord_43 : decode cX7_readWord 43 = .ok (.astore_n 2, 1) := by decide +kernel
theorem dX7_readWord_44 : decode cX7_readWord 44 = .ok (.aload_n 2, 1) := by decide +kernel
theorem dX7_readWord_45 : decode cX7_readWord 45 = .ok (.arraylength, 1) := by decide +kernel
theorem dX7_readWord_46 : decode cX7_readWord 46 = .ok (.istore_n 3, 1) := by decide +kernel
theorem dX7_readWord_47 : decode cX7_readWord 47 = .ok (.iconst 0, 1) := by decide +kernel
theorem dX7_readWord_48 : decode cX7_readWord 48 = .ok (.istore 4, 2) := by decide +kernel
theorem dX7_readWord_50 : decode cX7_readWord 50 = .ok (.iload 4, 2) := by decide +kernel
theorem dX7_readWord_52 : decode cX7_readWord 52 = .ok (.iload_n 3, 1) := by decide +kernel
theorem dX7_readWord_53 : decode cX7_readWord 53 = .ok (.if_icmp .ge 31, 3) := by decide +kernel
theorem dX7_readWord_56 : decode cX7_readWord 56 = .ok (.aload_n 2, 1) := by decide +kernel
theorem dX7_readWord_57 : decode cX7_readWord 57 = .ok (.iload 4, 2) := by decide +kernel
theorem dX7_readWord_59 : decode cX7_readWord 59 = .ok (.aaload, 1) := by decide +kernel
theorem dX7_readWord_60 : decode cX7_readWord 60 = .ok (.astore 5, 2) := by decide +kernel
theorem dX7_readWord_62 : decode cX7_readWord 62 = .ok (.aload_n 0, 1) := by decide +kernel
theorem dX7_readWord_63 : decode cX7_readWord 63 = .ok (.aload 5, 2) := by decide +kernel
theorem dX7_readWord_65 : decode cX7_readWord 65 = .ok (.getfield 100, 3) := by decide +kernel
theorem dX7_readWord_68 : decode cX7_readWord 68 = .ok (.iload_n 1, 1) := by decide +kernel
theorem dX7_readWord_69 : decode cX7_readWord 69 = .ok (.invokevirtual 104, 3) := by decide +kernel
theorem dX7_readWord_72 : decode cX7_readWord 72 = .ok (.ifCond .eq 6, 3) := by decide +kernel
theorem dX7_readWord_75 : decode cX7_readWord 75 = .ok (.aload 5, 2) := by decide +kernel
theorem dX7_readWord_77 : decode cX7_readWord 77 = .ok (.areturn, 1) := by decide +kernel
theorem dX7_readWord_78 : decode cX7_readWord 78 = .ok (.iinc 4 1, 3) := by decide +kernel
theorem dX7_readWord_81 : decode cX7_readWord 81 = .ok (.goto (-31), 3) := by decide +kernel
theorem dX7_readWord_84 : decode cX7_readWord 84 = .ok (.aconst_null, 1) := by decide +kernel
theorem dX7_readWord_85 : decode cX7_readWord 85 = .ok (.areturn, 1) := by decide +kernel
theorem dX7_stands_0 : decode cX7_stands 0 = .ok (.aload_n 1, 1) := by decide +kernel
theorem dX7_stands_1 : decode cX7_stands 1 = .ok (.invokevirtual 108, 3) := by decide +kernel
theorem dX7_stands_4 : decode cX7_stands 4 = .ok (.aload_n 0, 1) := by decide +kernel
theorem dX7_stands_5 : decode cX7_stands 5 = .ok (.getfield 43, 3) := by decide +kernel
theorem dX7_stands_8 : decode cX7_stands 8 = .ok (.iload_n 2, 1) := by decide +kernel
theorem dX7_stands_9 : decode cX7_stands 9 = .ok (.isub, 1) := by decide +kernel
theorem dX7_stands_10 : decode cX7_stands 10 = .ok (.if_icmp .eq 5, 3) := by decide +kernel
theorem dX7_stands_13 : decode cX7_stands 13 = .ok (.iconst 0, 1) := by decide +kernel
theorem dX7_stands_14 : decode cX7_stands 14 = .ok (.ireturn, 1) := by decide +kernel
theorem dX7_stands_15 : decode cX7_stands 15 = .ok (.iconst 0, 1) := by decide +kernel
theorem dX7_stands_16 : decode cX7_stands 16 = .ok (.istore_n 3, 1) := by decide +kernel
theorem dX7_stands_17 : decode cX7_stands 17 = .ok (.iload_n 3, 1) := by decide +kernel
theorem dX7_stands_18 : decode cX7_stands 18 = .ok (.aload_n 1, 1) := by decide +kernel
theorem dX7_stands_19 : decode cX7_stands 19 = .ok (.invokevirtual 108, 3) := by decide +kernel
theorem dX7_stands_22 : decode cX7_stands 22 = .ok (.if_icmp .ge 27, 3) := by decide +kernel
theorem dX7_stands_25 : decode cX7_stands 25 = .ok (.aload_n 0, 1) := by decide +kernel
theorem dX7_stands_26 : decode cX7_stands 26 = .ok (.getfield 18, 3) := by decide +kernel
theorem dX7_stands_29 : decode cX7_stands 29 = .ok (.iload_n 2, 1) := by decide +kernel
theorem dX7_stands_30 : decode cX7_stands 30 = .ok (.iload_n 3, 1) := by decide +kernel
theorem dX7_stands_31 : decode cX7_stands 31 = .ok (.iadd, 1) := by decide +kernel
theorem dX7_stands_32 : decode cX7_stands 32 = .ok (.iaload, 1) := by decide +kernel
theorem dX7_stands_33 : decode cX7_stands 33 = .ok (.aload_n 1, 1) := by decide +kernel
theorem dX7_stands_34 : decode cX7_stands 34 = .ok (.iload_n 3, 1) := by decide +kernel
theorem dX7_stands_35 : decode cX7_stands 35 = .ok (.invokevirtual 113, 3) := by decide +kernel
theorem dX7_stands_38 : decode cX7_stands 38 = .ok (.if_icmp .eq 5, 3) := by decide +kernel
theorem dX7_stands_41 : decode cX7_stands 41 = .ok (.iconst 0, 1) := by decide +kernel
theorem dX7_stands_42 : decode cX7_stands 42 = .ok (.ireturn, 1) := by decide +kernel
theorem dX7_stands_43 : decode cX7_stands 43 = .ok (.iinc 3 1, 3) := by decide +kernel
theorem dX7_stands_46 : decode cX7_stands 46 = .ok (.goto (-29), 3) := by decide +kernel
theorem dX7_stands_49 : decode cX7_stands 49 = .ok (.iconst 1, 1) := by decide +kernel
theorem dX7_stands_50 : decode cX7_stands 50 = .ok (.ireturn, 1) := by decide +kernel
theorem dX7_isOutOfPlace_0 : decode cX7_isOutOfPlace 0 = .ok (.aload_n 1, 1) := by decide +kernel
theorem dX7_isOutOfPlace_1 : decode cX7_isOutOfPlace 1 = .ok (.getstatic 117, 3) := by decide +kernel
theorem dX7_isOutOfPlace_4 : decode cX7_isOutOfPlace 4 = .ok (.if_acmp .ne 15, 3) := by decide +kernel
theorem dX7_isOutOfPlace_7 : decode cX7_isOutOfPlace 7 = .ok (.aload_n 0, 1) := by decide +kernel
theorem dX7_isOutOfPlace_8 : decode cX7_isOutOfPlace 8 = .ok (.getfield 12, 3) := by decide +kernel
theorem dX7_isOutOfPlace_11 : decode cX7_isOutOfPlace 11 = .ok (.getfield 120, 3) := by decide +kernel
theorem dX7_isOutOfPlace_14 : decode cX7_isOutOfPlace 14 = .ok (.ifCond .le 5, 3) := by decide +kernel
theorem dX7_isOutOfPlace_17 : decode cX7_isOutOfPlace 17 = .ok (.iconst 1, 1) := by decide +kernel
theorem dX7_isOutOfPlace_18 : decode cX7_isOutOfPlace 18 = .ok (.ireturn, 1) := by decide +kernel
theorem dX7_isOutOfPlace_19 : decode cX7_isOutOfPlace 19 = .ok (.aload_n 1, 1) := by decide +kernel
theorem dX7_isOutOfPlace_20 : decode cX7_isOutOfPlace 20 = .ok (.getfield 82, 3) := by decide +kernel
theorem dX7_isOutOfPlace_23 : decode cX7_isOutOfPlace 23 = .ok (.iconst (-1), 1) := by decide +kernel
theorem dX7_isOutOfPlace_24 : decode cX7_isOutOfPlace 24 = .ok (.if_icmp .eq 19, 3) := by decide +kernel
theorem dX7_isOutOfPlace_27 : decode cX7_isOutOfPlace 27 = .ok (.aload_n 0, 1) := by decide +kernel
theorem dX7_isOutOfPlace_28 : decode cX7_isOutOfPlace 28 = .ok (.getfield 22, 3) := by decide +kernel
theorem dX7_isOutOfPlace_31 : decode cX7_isOutOfPlace 31 = .ok (.aload_n 1, 1) := by decide +kernel
theorem dX7_isOutOfPlace_32 : decode cX7_isOutOfPlace 32 = .ok (.getfield 82, 3) := by decide +kernel
theorem dX7_isOutOfPlace_35 : decode cX7_isOutOfPlace 35 = .ok (.baload, 1) := by decide +kernel
theorem dX7_isOutOfPlace_36 : decode cX7_isOutOfPlace 36 = .ok (.ifCond .eq 7, 3) := by decide +kernel
theorem dX7_isOutOfPlace_39 : decode cX7_isOutOfPlace 39 = .ok (.iconst 1, 1) := by decide +kernel
theorem dX7_isOutOfPlace_40 : decode cX7_isOutOfPlace 40 = .ok (.goto 4, 3) := by decide +kernel
theorem dX7_isOutOfPlace_43 : decode cX7_isOutOfPlace 43 = .ok (.iconst 0, 1) := by decide +kernel
theorem dX7_isOutOfPlace_44 : decode cX7_isOutOfPlace 44 = .ok (.ireturn, 1) := by decide +kernel
theorem dX7_readNumbers_0 : decode cX7_readNumbers 0 = .ok (.aload_n 1, 1) := by decide +kernel
theorem dX7_readNumbers_1 : decode cX7_readNumbers 1 = .ok (.getstatic 117, 3) := by decide +kernel
theorem dX7_readNumbers_4 : decode cX7_readNumbers 4 = .ok (.if_acmp .ne 10, 3) := by decide +kernel
theorem dX7_readNumbers_7 : decode cX7_readNumbers 7 = .ok (.aload_n 0, 1) := by decide +kernel
theorem dX7_readNumbers_8 : decode cX7_readNumbers 8 = .ok (.invokevirtual 123, 3) := by decide +kernel
theorem dX7_readNumbers_11 : decode cX7_readNumbers 11 = .ok (.goto 141, 3) := by decide +kernel
theorem dX7_readNumbers_14 : decode cX7_readNumbers 14 = .ok (.aload_n 1, 1) := by decide +kernel
theorem dX7_readNumbers_15 : decode cX7_readNumbers 15 = .ok (.getstatic 126, 3) := by decide +kernel
theorem dX7_readNumbers_18 : decode cX7_readNumbers 18 = .ok (.if_acmp .ne 10, 3) := by decide +kernel
theorem dX7_readNumbers_21 : decode cX7_readNumbers 21 = .ok (.aload_n 0, 1) := by decide +kernel
theorem dX7_readNumbers_22 : decode cX7_readNumbers 22 = .ok (.invokevirtual 129, 3) := by decide +kernel
theorem dX7_readNumbers_25 : decode cX7_readNumbers 25 = .ok (.goto 127, 3) := by decide +kernel
theorem dX7_readNumbers_28 : decode cX7_readNumbers 28 = .ok (.aload_n 1, 1) := by decide +kernel
theorem dX7_readNumbers_29 : decode cX7_readNumbers 29 = .ok (.getstatic 132, 3) := by decide +kernel
theorem dX7_readNumbers_32 : decode cX7_readNumbers 32 = .ok (.if_acmp .ne 18, 3) := by decide +kernel
theorem dX7_readNumbers_35 : decode cX7_readNumbers 35 = .ok (.aload_n 0, 1) := by decide +kernel
theorem dX7_readNumbers_36 : decode cX7_readNumbers 36 = .ok (.aload_n 0, 1) := by decide +kernel
theorem dX7_readNumbers_37 : decode cX7_readNumbers 37 = .ok (.getfield 12, 3) := by decide +kernel
theorem dX7_readNumbers_40 : decode cX7_readNumbers 40 = .ok (.getfield 135, 3) := by decide +kernel
theorem dX7_readNumbers_43 : decode cX7_readNumbers 43 = .ok (.iconst 1, 1) := by decide +kernel
theorem dX7_readNumbers_44 : decode cX7_readNumbers 44 = .ok (.invokevirtual 138, 3) := by decide +kernel
theorem dX7_readNumbers_47 : decode cX7_readNumbers 47 = .ok (.goto 105, 3) := by decide +kernel
theorem dX7_readNumbers_50 : decode cX7_readNumbers 50 = .ok (.aload_n 1, 1) := by decide +kernel
theorem dX7_readNumbers_51 : decode cX7_readNumbers 51 = .ok (.getstatic 142, 3) := by decide +kernel
theorem dX7_readNumbers_54 : decode cX7_readNumbers 54 = .ok (.if_acmp .ne 18, 3) := by decide +kernel
theorem dX7_readNumbers_57 : decode cX7_readNumbers 57 = .ok (.aload_n 0, 1) := by decide +kernel
theorem dX7_readNumbers_58 : decode cX7_readNumbers 58 = .ok (.aload_n 0, 1) := by decide +kernel
theorem dX7_readNumbers_59 : decode cX7_readNumbers 59 = .ok (.getfield 12, 3) := by decide +kernel
theorem dX7_readNumbers_62 : decode cX7_readNumbers 62 = .ok (.getfield 145, 3) := by decide +kernel
theorem dX7_readNumbers_65 : decode cX7_readNumbers 65 = .ok (.iconst 0, 1) := by decide +kernel
theorem dX7_readNumbers_66 : decode cX7_readNumbers 66 = .ok (.invokevirtual 138, 3) := by decide +kernel
theorem dX7_readNumbers_69 : decode cX7_readNumbers 69 = .ok (.goto 83, 3) := by decide +kernel
theorem dX7_readNumbers_72 : decode cX7_readNumbers 72 = .ok (.aload_n 1, 1) := by decide +kernel
theorem dX7_readNumbers_73 : decode cX7_readNumbers 73 = .ok (.getstatic 148, 3) := by decide +kernel
theorem dX7_readNumbers_76 : decode cX7_readNumbers 76 = .ok (.if_acmp .ne 16, 3) := by decide +kernel
theorem dX7_readNumbers_79 : decode cX7_readNumbers 79 = .ok (.aload_n 0, 1) := by decide +kernel
theorem dX7_readNumbers_80 : decode cX7_readNumbers 80 = .ok (.getfield 12, 3) := by decide +kernel
theorem dX7_readNumbers_83 : decode cX7_readNumbers 83 = .ok (.getfield 55, 3) := by decide +kernel
theorem dX7_readNumbers_86 : decode cX7_readNumbers 86 = .ok (.iconst 5, 1) := by decide +kernel
theorem dX7_readNumbers_87 : decode cX7_readNumbers 87 = .ok (.iconst 1, 1) := by decide +kernel
theorem dX7_readNumbers_88 : decode cX7_readNumbers 88 = .ok (.iastore, 1) := by decide +kernel
theorem dX7_readNumbers_89 : decode cX7_readNumbers 89 = .ok (.goto 63, 3) := by decide +kernel
theorem dX7_readNumbers_92 : decode cX7_readNumbers 92 = .ok (.aload_n 1, 1) := by decide +kernel
theorem dX7_readNumbers_93 : decode cX7_readNumbers 93 = .ok (.getstatic 151, 3) := by decide +kernel
theorem dX7_readNumbers_96 : decode cX7_readNumbers 96 = .ok (.if_acmp .ne 16, 3) := by decide +kernel
theorem dX7_readNumbers_99 : decode cX7_readNumbers 99 = .ok (.aload_n 0, 1) := by decide +kernel
theorem dX7_readNumbers_100 : decode cX7_readNumbers 100 = .ok (.getfield 12, 3) := by decide +kernel
theorem dX7_readNumbers_103 : decode cX7_readNumbers 103 = .ok (.getfield 55, 3) := by decide +kernel
theorem dX7_readNumbers_106 : decode cX7_readNumbers 106 = .ok (.iconst 5, 1) := by decide +kernel
theorem dX7_readNumbers_107 : decode cX7_readNumbers 107 = .ok (.iconst 2, 1) := by decide +kernel
theorem dX7_readNumbers_108 : decode cX7_readNumbers 108 = .ok (.iastore, 1) := by decide +kernel
theorem dX7_readNumbers_109 : decode cX7_readNumbers 109 = .ok (.goto 43, 3) := by decide +kernel
theorem dX7_readNumbers_112 : decode cX7_readNumbers 112 = .ok (.aload_n 1, 1) := by decide +kernel
theorem dX7_readNumbers_113 : decode cX7_readNumbers 113 = .ok (.getfield 82, 3) := by decide +kernel
theorem dX7_readNumbers_116 : decode cX7_readNumbers 116 = .ok (.iconst (-1), 1) := by decide +kernel
theorem dX7_readNumbers_117 : decode cX7_readNumbers 117 = .ok (.if_icmp .eq 35, 3) := by decide +kernel
theorem dX7_readNumbers_120 : decode cX7_readNumbers 120 = .ok (.aload_n 0, 1) := by decide +kernel
theorem dX7_readNumbers_121 : decode cX7_readNumbers 121 = .ok (.iconst 0, 1) := by decide +kernel
theorem dX7_readNumbers_122 : decode cX7_readNumbers 122 = .ok (.getstatic 154, 3) := by decide +kernel
theorem dX7_readNumbers_125 : decode cX7_readNumbers 125 = .ok (.aload_n 1, 1) := by decide +kernel
theorem dX7_readNumbers_126 : decode cX7_readNumbers 126 = .ok (.getfield 82, 3) := by decide +kernel
theorem dX7_readNumbers_129 : decode cX7_readNumbers 129 = .ok (.iaload, 1) := by decide +kernel
theorem dX7_readNumbers_130 : decode cX7_readNumbers 130 = .ok (.invokevirtual 157, 3) := by decide +kernel
theorem dX7_readNumbers_133 : decode cX7_readNumbers 133 = .ok (.ifCond .eq 19, 3) := by decide +kernel
theorem dX7_readNumbers_136 : decode cX7_readNumbers 136 = .ok (.aload_n 0, 1) := by decide +kernel
theorem dX7_readNumbers_137 : decode cX7_readNumbers 137 = .ok (.getfield 12, 3) := by decide +kernel
theorem dX7_readNumbers_140 : decode cX7_readNumbers 140 = .ok (.getfield 55, 3) := by decide +kernel
theorem dX7_readNumbers_143 : decode cX7_readNumbers 143 = .ok (.aload_n 1, 1) := by decide +kernel
theorem dX7_readNumbers_144 : decode cX7_readNumbers 144 = .ok (.getfield 82, 3) := by decide +kernel
theorem dX7_readNumbers_147 : decode cX7_readNumbers 147 = .ok (.aload_n 0, 1) := by decide +kernel
theorem dX7_readNumbers_148 : decode cX7_readNumbers 148 = .ok (.getfield 161, 3) := by decide +kernel
theorem dX7_readNumbers_151 : decode cX7_readNumbers 151 = .ok (.iastore, 1) := by decide +kernel
theorem dX7_readNumbers_152 : decode cX7_readNumbers 152 = .ok (.return_, 1) := by decide +kernel
theorem dX7_readSize_0 : decode cX7_readSize 0 = .ok (.aload_n 0, 1) := by decide +kernel
theorem dX7_readSize_1 : decode cX7_readSize 1 = .ok (.iconst 1, 1) := by decide +kernel
theorem dX7_readSize_2 : decode cX7_readSize 2 = .ok (.bipush 8, 2) := by decide +kernel
theorem dX7_readSize_4 : decode cX7_readSize 4 = .ok (.invokevirtual 157, 3) := by decide +kernel
theorem dX7_readSize_7 : decode cX7_readSize 7 = .ok (.ifCond .eq 35, 3) := by decide +kernel
theorem dX7_readSize_10 : decode cX7_readSize 10 = .ok (.aload_n 0, 1) := by decide +kernel
theorem dX7_readSize_11 : decode cX7_readSize 11 = .ok (.getfield 12, 3) := by decide +kernel
theorem dX7_readSize_14 : decode cX7_readSize 14 = .ok (.aload_n 0, 1) := by decide +kernel
theorem dX7_readSize_15 : decode cX7_readSize 15 = .ok (.getfield 161, 3) := by decide +kernel
theorem dX7_readSize_18 : decode cX7_readSize 18 = .ok (.putfield 164, 3) := by decide +kernel
theorem dX7_readSize_21 : decode cX7_readSize 21 = .ok (.aload_n 0, 1) := by decide +kernel
theorem dX7_readSize_22 : decode cX7_readSize 22 = .ok (.iconst 1, 1) := by decide +kernel
theorem dX7_readSize_23 : decode cX7_readSize 23 = .ok (.bipush 8, 2) := by decide +kernel
theorem dX7_readSize_25 : decode cX7_readSize 25 = .ok (.invokevirtual 157, 3) := by decide +kernel
theorem dX7_readSize_28 : decode cX7_readSize 28 = .ok (.ifCond .eq 14, 3) := by decide +kernel
theorem dX7_readSize_31 : decode cX7_readSize 31 = .ok (.aload_n 0, 1) := by decide +kernel
theorem dX7_readSize_32 : decode cX7_readSize 32 = .ok (.getfield 12, 3) := by decide +kernel
theorem dX7_readSize_35 : decode cX7_readSize 35 = .ok (.aload_n 0, 1) := by decide +kernel
theorem dX7_readSize_36 : decode cX7_readSize 36 = .ok (.getfield 161, 3) := by decide +kernel
theorem dX7_readSize_39 : decode cX7_readSize 39 = .ok (.putfield 167, 3) := by decide +kernel
theorem dX7_readSize_42 : decode cX7_readSize 42 = .ok (.return_, 1) := by decide +kernel
theorem dX7_readWeight_0 : decode cX7_readWeight 0 = .ok (.aload_n 0, 1) := by decide +kernel
theorem dX7_readWeight_1 : decode cX7_readWeight 1 = .ok (.iconst 0, 1) := by decide +kernel
theorem dX7_readWeight_2 : decode cX7_readWeight 2 = .ok (.iconst 3, 1) := by decide +kernel
theorem dX7_readWeight_3 : decode cX7_readWeight 3 = .ok (.invokevirtual 157, 3) := by decide +kernel
theorem dX7_readWeight_6 : decode cX7_readWeight 6 = .ok (.ifCond .ne 4, 3) := by decide +kernel
theorem dX7_readWeight_9 : decode cX7_readWeight 9 = .ok (.return_, 1) := by decide +kernel
theorem dX7_readWeight_10 : decode cX7_readWeight 10 = .ok (.aload_n 0, 1) := by decide +kernel
theorem dX7_readWeight_11 : decode cX7_readWeight 11 = .ok (.getfield 161, 3) := by decide +kernel
theorem dX7_readWeight_14 : decode cX7_readWeight 14 = .ok (.istore_n 1, 1) := by decide +kernel
theorem dX7_readWeight_15 : decode cX7_readWeight 15 = .ok (.aload_n 0, 1) := by decide +kernel
theorem dX7_readWeight_16 : decode cX7_readWeight 16 = .ok (.getfield 26, 3) := by decide +kernel
theorem dX7_readWeight_19 : decode cX7_readWeight 19 = .ok (.iload_n 1, 1) := by decide +kernel
theorem dX7_readWeight_20 : decode cX7_readWeight 20 = .ok (.baload, 1) := by decide +kernel
theorem dX7_readWeight_21 : decode cX7_readWeight 21 = .ok (.ifCond .eq 15, 3) := by decide +kernel
theorem dX7_readWeight_24 : decode cX7_readWeight 24 = .ok (.aload_n 0, 1) := by decide +kernel
theorem dX7_readWeight_25 : decode cX7_readWeight 25 = .ok (.iconst 1, 1) := by decide +kernel
theorem dX7_readWeight_26 : decode cX7_readWeight 26 = .ok (.aload_n 0, 1) := by decide +kernel
theorem dX7_readWeight_27 : decode cX7_readWeight 27 = .ok (.getfield 170, 3) := by decide +kernel
theorem dX7_readWeight_30 : decode cX7_readWeight 30 = .ok (.invokevirtual 58, 3) := by decide +kernel
theorem dX7_readWeight_33 : decode cX7_readWeight 33 = .ok (.goto 33, 3) := by decide +kernel
theorem dX7_readWeight_36 : decode cX7_readWeight 36 = .ok (.aload_n 0, 1) := by decide +kernel
theorem dX7_readWeight_37 : decode cX7_readWeight 37 = .ok (.iconst 1, 1) := by decide +kernel
theorem dX7_readWeight_38 : decode cX7_readWeight 38 = .ok (.bipush 9, 2) := by decide +kernel
theorem dX7_readWeight_40 : decode cX7_readWeight 40 = .ok (.invokevirtual 157, 3) := by decide +kernel
theorem dX7_readWeight_43 : decode cX7_readWeight 43 = .ok (.ifCond .eq 23, 3) := by decide +kernel
theorem dX7_readWeight_46 : decode cX7_readWeight 46 = .ok (.aload_n 0, 1) := by decide +kernel
theorem dX7_readWeight_47 : decode cX7_readWeight 47 = .ok (.getfield 26, 3) := by decide +kernel
theorem dX7_readWeight_50 : decode cX7_readWeight 50 = .ok (.iload_n 1, 1) := by decide +kernel
theorem dX7_readWeight_51 : decode cX7_readWeight 51 = .ok (.iconst 1, 1) := by decide +kernel
theorem dX7_readWeight_52 : decode cX7_readWeight 52 = .ok (.bastore, 1) := by decide +kernel
theorem dX7_readWeight_53 : decode cX7_readWeight 53 = .ok (.aload_n 0, 1) := by decide +kernel
theorem dX7_readWeight_54 : decode cX7_readWeight 54 = .ok (.getfield 12, 3) := by decide +kernel
theorem dX7_readWeight_57 : decode cX7_readWeight 57 = .ok (.getfield 173, 3) := by decide +kernel
theorem dX7_readWeight_60 : decode cX7_readWeight 60 = .ok (.iload_n 1, 1) := by decide +kernel
theorem dX7_readWeight_61 : decode cX7_readWeight 61 = .ok (.aload_n 0, 1) := by decide +kernel
theorem dX7_readWeight_62 : decode cX7_readWeight 62 = .ok (.getfield 161, 3) := by decide +kernel
theorem dX7_readWeight_65 : decode cX7_readWeight 65 = .ok (.iastore, 1) := by decide +kernel
theorem dX7_readWeight_66 : decode cX7_readWeight 66 = .ok (.return_, 1) := by decide +kernel
theorem dX7_readMark_0 : decode cX7_readMark 0 = .ok (.aload_n 0, 1) := by decide +kernel
theorem dX7_readMark_1 : decode cX7_readMark 1 = .ok (.iload_n 2, 1) := by decide +kernel
theorem dX7_readMark_2 : decode cX7_readMark 2 = .ok (.aload_n 0, 1) := by decide +kernel
theorem dX7_readMark_3 : decode cX7_readMark 3 = .ok (.getfield 12, 3) := by decide +kernel
theorem dX7_readMark_6 : decode cX7_readMark 6 = .ok (.getfield 120, 3) := by decide +kernel
theorem dX7_readMark_9 : decode cX7_readMark 9 = .ok (.iconst 1, 1) := by decide +kernel
theorem dX7_readMark_10 : decode cX7_readMark 10 = .ok (.isub, 1) := by decide +kernel
theorem dX7_readMark_11 : decode cX7_readMark 11 = .ok (.invokevirtual 157, 3) := by decide +kernel
theorem dX7_readMark_14 : decode cX7_readMark 14 = .ok (.ifCond .ne 4, 3) := by decide +kernel
theorem dX7_readMark_17 : decode cX7_readMark 17 = .ok (.return_, 1) := by decide +kernel
theorem dX7_readMark_18 : decode cX7_readMark 18 = .ok (.aload_n 1, 1) := by decide +kernel
theorem dX7_readMark_19 : decode cX7_readMark 19 = .ok (.aload_n 0, 1) := by decide +kernel
theorem dX7_readMark_20 : decode cX7_readMark 20 = .ok (.getfield 161, 3) := by decide +kernel
theorem dX7_readMark_23 : decode cX7_readMark 23 = .ok (.iaload, 1) := by decide +kernel
theorem dX7_readMark_24 : decode cX7_readMark 24 = .ok (.iconst 1, 1) := by decide +kernel
theorem dX7_readMark_25 : decode cX7_readMark 25 = .ok (.if_icmp .ne 15, 3) := by decide +kernel
theorem dX7_readMark_28 : decode cX7_readMark 28 = .ok (.aload_n 0, 1) := by decide +kernel
theorem dX7_readMark_29 : decode cX7_readMark 29 = .ok (.iconst 1, 1) := by decide +kernel
theorem dX7_readMark_30 : decode cX7_readMark 30 = .ok (.aload_n 0, 1) := by decide +kernel
theorem dX7_readMark_31 : decode cX7_readMark 31 = .ok (.getfield 170, 3) := by decide +kernel
theorem dX7_readMark_34 : decode cX7_readMark 34 = .ok (.invokevirtual 58, 3) := by decide +kernel
theorem dX7_readMark_37 : decode cX7_readMark 37 = .ok (.goto 10, 3) := by decide +kernel
theorem dX7_readMark_40 : decode cX7_readMark 40 = .ok (.aload_n 1, 1) := by decide +kernel
theorem dX7_readMark_41 : decode cX7_readMark 41 = .ok (.aload_n 0, 1) := by decide +kernel
theorem dX7_readMark_42 : decode cX7_readMark 42 = .ok (.getfield 161, 3) := by decide +kernel
theorem dX7_readMark_45 : decode cX7_readMark 45 = .ok (.iconst 1, 1) := by decide +kernel
theorem dX7_readMark_46 : decode cX7_readMark 46 = .ok (.iastore, 1) := by decide +kernel
theorem dX7_readMark_47 : decode cX7_readMark 47 = .ok (.return_, 1) := by decide +kernel
theorem dX7_readNumber_0 : decode cX7_readNumber 0 = .ok (.aload_n 0, 1) := by decide +kernel
theorem dX7_readNumber_1 : decode cX7_readNumber 1 = .ok (.invokevirtual 40, 3) := by decide +kernel
theorem dX7_readNumber_4 : decode cX7_readNumber 4 = .ok (.aload_n 0, 1) := by decide +kernel
theorem dX7_readNumber_5 : decode cX7_readNumber 5 = .ok (.aload_n 0, 1) := by decide +kernel
theorem dX7_readNumber_6 : decode cX7_readNumber 6 = .ok (.getfield 43, 3) := by decide +kernel
theorem dX7_readNumber_9 : decode cX7_readNumber 9 = .ok (.putfield 170, 3) := by decide +kernel
theorem dX7_readNumber_12 : decode cX7_readNumber 12 = .ok (.aload_n 0, 1) := by decide +kernel
theorem dX7_readNumber_13 : decode cX7_readNumber 13 = .ok (.iconst 0, 1) := by decide +kernel
theorem dX7_readNumber_14 : decode cX7_readNumber 14 = .ok (.putfield 161, 3) := by decide +kernel
theorem dX7_readNumber_17 : decode cX7_readNumber 17 = .ok (.aload_n 0, 1) := by decide +kernel
theorem dX7_readNumber_18 : decode cX7_readNumber 18 = .ok (.getfield 43, 3) := by decide +kernel
theorem dX7_readNumber_21 : decode cX7_readNumber 21 = .ok (.aload_n 0, 1) := by decide +kernel
theorem dX7_readNumber_22 : decode cX7_readNumber 22 = .ok (.getfield 46, 3) := by decide +kernel
theorem dX7_readNumber_25 : decode cX7_readNumber 25 = .ok (.if_icmp .ge 64, 3) := by decide +kernel
theorem dX7_readNumber_28 : decode cX7_readNumber 28 = .ok (.aload_n 0, 1) := by decide +kernel
theorem dX7_readNumber_29 : decode cX7_readNumber 29 = .ok (.bipush 48, 2) := by decide +kernel
theorem dX7_readNumber_31 : decode cX7_readNumber 31 = .ok (.bipush 57, 2) := by decide +kernel
theorem dX7_readNumber_33 : decode cX7_readNumber 33 = .ok (.invokevirtual 92, 3) := by decide +kernel
theorem dX7_readNumber_36 : decode cX7_readNumber 36 = .ok (.ifCond .eq 53, 3) := by decide +kernel
theorem dX7_readNumber_39 : decode cX7_readNumber 39 = .ok (.aload_n 0, 1) := by decide +kernel
theorem dX7_readNumber_40 : decode cX7_readNumber 40 = .ok (.getfield 43, 3) := by decide +kernel
theorem dX7_readNumber_43 : decode cX7_readNumber 43 = .ok (.aload_n 0, 1) := by decide +kernel
theorem dX7_readNumber_44 : decode cX7_readNumber 44 = .ok (.getfield 170, 3) := by decide +kernel
theorem dX7_readNumber_47 : decode cX7_readNumber 47 = .ok (.isub, 1) := by decide +kernel
theorem dX7_readNumber_48 : decode cX7_readNumber 48 = .ok (.iconst 3, 1) := by decide +kernel
theorem dX7_readNumber_49 : decode cX7_readNumber 49 = .ok (.if_icmp .ge 27, 3) := by decide +kernel
theorem dX7_readNumber_52 : decode cX7_readNumber 52 = .ok (.aload_n 0, 1) := by decide +kernel
theorem dX7_readNumber_53 : decode cX7_readNumber 53 = .ok (.aload_n 0, 1) := by decide +kernel
theorem dX7_readNumber_54 : decode cX7_readNumber 54 = .ok (.getfield 161, 3) := by decide +kernel
theorem dX7_readNumber_57 : decode cX7_readNumber 57 = .ok (.bipush 10, 2) := by decide +kernel
theorem dX7_readNumber_59 : decode cX7_readNumber 59 = .ok (.imul, 1) := by decide +kernel
theorem dX7_readNumber_60 : decode cX7_readNumber 60 = .ok (.aload_n 0, 1) := by decide +kernel
theorem dX7_readNumber_61 : decode cX7_readNumber 61 = .ok (.getfield 18, 3) := by decide +kernel
theorem dX7_readNumber_64 : decode cX7_readNumber 64 = .ok (.aload_n 0, 1) := by decide +kernel
theorem dX7_readNumber_65 : decode cX7_readNumber 65 = .ok (.getfield 43, 3) := by decide +kernel
theorem dX7_readNumber_68 : decode cX7_readNumber 68 = .ok (.iaload, 1) := by decide +kernel
theorem dX7_readNumber_69 : decode cX7_readNumber 69 = .ok (.iadd, 1) := by decide +kernel
theorem dX7_readNumber_70 : decode cX7_readNumber 70 = .ok (.bipush 48, 2) := by decide +kernel
theorem dX7_readNumber_72 : decode cX7_readNumber 72 = .ok (.isub, 1) := by decide +kernel
theorem dX7_readNumber_73 : decode cX7_readNumber 73 = .ok (.putfield 161, 3) := by decide +kernel
theorem dX7_readNumber_76 : decode cX7_readNumber 76 = .ok (.aload_n 0, 1) := by decide +kernel
theorem dX7_readNumber_77 : decode cX7_readNumber 77 = .ok (.dup, 1) := by decide +kernel
theorem dX7_readNumber_78 : decode cX7_readNumber 78 = .ok (.getfield 43, 3) := by decide +kernel
theorem dX7_readNumber_81 : decode cX7_readNumber 81 = .ok (.iconst 1, 1) := by decide +kernel
theorem dX7_readNumber_82 : decode cX7_readNumber 82 = .ok (.iadd, 1) := by decide +kernel
theorem dX7_readNumber_83 : decode cX7_readNumber 83 = .ok (.putfield 43, 3) := by decide +kernel
theorem dX7_readNumber_86 : decode cX7_readNumber 86 = .ok (.goto (-69), 3) := by decide +kernel
theorem dX7_readNumber_89 : decode cX7_readNumber 89 = .ok (.aload_n 0, 1) := by decide +kernel
theorem dX7_readNumber_90 : decode cX7_readNumber 90 = .ok (.getfield 43, 3) := by decide +kernel
theorem dX7_readNumber_93 : decode cX7_readNumber 93 = .ok (.aload_n 0, 1) := by decide +kernel
theorem dX7_readNumber_94 : decode cX7_readNumber 94 = .ok (.getfield 170, 3) := by decide +kernel
theorem dX7_readNumber_97 : decode cX7_readNumber 97 = .ok (.if_icmp .ne 15, 3) := by decide +kernel
theorem dX7_readNumber_100 : decode cX7_readNumber 100 = .ok (.aload_n 0, 1) := by decide +kernel
theorem dX7_readNumber_101 : decode cX7_readNumber 101 = .ok (.iconst 1, 1) := by decide +kernel
theorem dX7_readNumber_102 : decode cX7_readNumber 102 = .ok (.aload_n 0, 1) := by decide +kernel
theorem dX7_readNumber_103 : decode cX7_readNumber 103 = .ok (.getfield 43, 3) := by decide +kernel
theorem dX7_readNumber_106 : decode cX7_readNumber 106 = .ok (.invokevirtual 58, 3) := by decide +kernel
theorem dX7_readNumber_109 : decode cX7_readNumber 109 = .ok (.goto 41, 3) := by decide +kernel
theorem dX7_readNumber_112 : decode cX7_readNumber 112 = .ok (.aload_n 0, 1) := by decide +kernel
theorem dX7_readNumber_113 : decode cX7_readNumber 113 = .ok (.getfield 43, 3) := by decide +kernel
theorem dX7_readNumber_116 : decode cX7_readNumber 116 = .ok (.aload_n 0, 1) := by decide +kernel
theorem dX7_readNumber_117 : decode cX7_readNumber 117 = .ok (.getfield 170, 3) := by decide +kernel
theorem dX7_readNumber_120 : decode cX7_readNumber 120 = .ok (.isub, 1) := by decide +kernel
theorem dX7_readNumber_121 : decode cX7_readNumber 121 = .ok (.iconst 3, 1) := by decide +kernel
theorem dX7_readNumber_122 : decode cX7_readNumber 122 = .ok (.if_icmp .gt 19, 3) := by decide +kernel
theorem dX7_readNumber_125 : decode cX7_readNumber 125 = .ok (.aload_n 0, 1) := by decide +kernel
theorem dX7_readNumber_126 : decode cX7_readNumber 126 = .ok (.getfield 161, 3) := by decide +kernel
theorem dX7_readNumber_129 : decode cX7_readNumber 129 = .ok (.iload_n 1, 1) := by decide +kernel
theorem dX7_readNumber_130 : decode cX7_readNumber 130 = .ok (.if_icmp .lt 11, 3) := by decide +kernel
theorem dX7_readNumber_133 : decode cX7_readNumber 133 = .ok (.aload_n 0, 1) := by decide +kernel
theorem dX7_readNumber_134 : decode cX7_readNumber 134 = .ok (.getfield 161, 3) := by decide +kernel
theorem dX7_readNumber_137 : decode cX7_readNumber 137 = .ok (.iload_n 2, 1) := by decide +kernel
theorem dX7_readNumber_138 : decode cX7_readNumber 138 = .ok (.if_icmp .le 12, 3) := by decide +kernel
theorem dX7_readNumber_141 : decode cX7_readNumber 141 = .ok (.aload_n 0, 1) := by decide +kernel
theorem dX7_readNumber_142 : decode cX7_readNumber 142 = .ok (.iconst 2, 1) := by decide +kernel
theorem dX7_readNumber_143 : decode cX7_readNumber 143 = .ok (.aload_n 0, 1) := by decide +kernel
theorem dX7_readNumber_144 : decode cX7_readNumber 144 = .ok (.getfield 170, 3) := by decide +kernel
theorem dX7_readNumber_147 : decode cX7_readNumber 147 = .ok (.invokevirtual 58, 3) := by decide +kernel
theorem dX7_readNumber_150 : decode cX7_readNumber 150 = .ok (.aload_n 0, 1) := by decide +kernel
theorem dX7_readNumber_151 : decode cX7_readNumber 151 = .ok (.getfield 49, 3) := by decide +kernel
theorem dX7_readNumber_154 : decode cX7_readNumber 154 = .ok (.ifCond .ne 7, 3) := by decide +kernel
theorem dX7_readNumber_157 : decode cX7_readNumber 157 = .ok (.iconst 1, 1) := by decide +kernel
theorem dX7_readNumber_158 : decode cX7_readNumber 158 = .ok (.goto 4, 3) := by decide +kernel
theorem dX7_readNumber_161 : decode cX7_readNumber 161 = .ok (.iconst 0, 1) := by decide +kernel
theorem dX7_readNumber_162 : decode cX7_readNumber 162 = .ok (.ireturn, 1) := by decide +kernel
theorem dX7_readLineEnd_0 : decode cX7_readLineEnd 0 = .ok (.aload_n 0, 1) := by decide +kernel
theorem dX7_readLineEnd_1 : decode cX7_readLineEnd 1 = .ok (.invokevirtual 40, 3) := by decide +kernel
theorem dX7_readLineEnd_4 : decode cX7_readLineEnd 4 = .ok (.aload_n 0, 1) := by decide +kernel
theorem dX7_readLineEnd_5 : decode cX7_readLineEnd 5 = .ok (.bipush 59, 2) := by decide +kernel
theorem dX7_readLineEnd_7 : decode cX7_readLineEnd 7 = .ok (.bipush 59, 2) := by decide +kernel
theorem dX7_readLineEnd_9 : decode cX7_readLineEnd 9 = .ok (.invokevirtual 92, 3) := by decide +kernel
theorem dX7_readLineEnd_12 : decode cX7_readLineEnd 12 = .ok (.ifCond .eq 16, 3) := by decide +kernel
theorem dX7_readLineEnd_15 : decode cX7_readLineEnd 15 = .ok (.aload_n 0, 1) := by decide +kernel
theorem dX7_readLineEnd_16 : decode cX7_readLineEnd 16 = .ok (.dup, 1) := by decide +kernel
theorem dX7_readLineEnd_17 : decode cX7_readLineEnd 17 = .ok (.getfield 43, 3) := by decide +kernel
theorem dX7_readLineEnd_20 : decode cX7_readLineEnd 20 = .ok (.iconst 1, 1) := by decide +kernel
theorem dX7_readLineEnd_21 : decode cX7_readLineEnd 21 = .ok (.iadd, 1) := by decide +kernel
theorem dX7_readLineEnd_22 : decode cX7_readLineEnd 22 = .ok (.putfield 43, 3) := by decide +kernel
theorem dX7_readLineEnd_25 : decode cX7_readLineEnd 25 = .ok (.goto 12, 3) := by decide +kernel
theorem dX7_readLineEnd_28 : decode cX7_readLineEnd 28 = .ok (.aload_n 0, 1) := by decide +kernel
theorem dX7_readLineEnd_29 : decode cX7_readLineEnd 29 = .ok (.iconst 1, 1) := by decide +kernel
theorem dX7_readLineEnd_30 : decode cX7_readLineEnd 30 = .ok (.aload_n 0, 1) := by decide +kernel
theorem dX7_readLineEnd_31 : decode cX7_readLineEnd 31 = .ok (.getfield 43, 3) := by decide +kernel
theorem dX7_readLineEnd_34 : decode cX7_readLineEnd 34 = .ok (.invokevirtual 58, 3) := by decide +kernel
theorem dX7_readLineEnd_37 : decode cX7_readLineEnd 37 = .ok (.return_, 1) := by decide +kernel
theorem dX7_readFrame_0 : decode cX7_readFrame 0 = .ok (.aload_n 0, 1) := by decide +kernel
theorem dX7_readFrame_1 : decode cX7_readFrame 1 = .ok (.getfield 12, 3) := by decide +kernel
theorem dX7_readFrame_4 : decode cX7_readFrame 4 = .ok (.getfield 120, 3) := by decide +kernel
theorem dX7_readFrame_7 : decode cX7_readFrame 7 = .ok (.bipush 24, 2) := by decide +kernel
theorem dX7_readFrame_9 : decode cX7_readFrame 9 = .ok (.if_icmp .lt 10, 3) := by decide +kernel
theorem dX7_readFrame_12 : decode cX7_readFrame 12 = .ok (.aload_n 0, 1) := by decide +kernel
theorem dX7_readFrame_13 : decode cX7_readFrame 13 = .ok (.iconst 5, 1) := by decide +kernel
theorem dX7_readFrame_14 : decode cX7_readFrame 14 = .ok (.iload_n 1, 1) := by decide +kernel
theorem dX7_readFrame_15 : decode cX7_readFrame 15 = .ok (.invokevirtual 58, 3) := by decide +kernel
theorem dX7_readFrame_18 : decode cX7_readFrame 18 = .ok (.return_, 1) := by decide +kernel
theorem dX7_readFrame_19 : decode cX7_readFrame 19 = .ok (.iconst 0, 1) := by decide +kernel
theorem dX7_readFrame_20 : decode cX7_readFrame 20 = .ok (.istore_n 2, 1) := by decide +kernel
theorem dX7_readFrame_21 : decode cX7_readFrame 21 = .ok (.iconst 0, 1) := by decide +kernel
theorem dX7_readFrame_22 : decode cX7_readFrame 22 = .ok (.istore_n 3, 1) := by decide +kernel
theorem dX7_readFrame_23 : decode cX7_readFrame 23 = .ok (.iload_n 3, 1) := by decide +kernel
theorem dX7_readFrame_24 : decode cX7_readFrame 24 = .ok (.sipush 900, 3) := by decide +kernel
theorem dX7_readFrame_27 : decode cX7_readFrame 27 = .ok (.if_icmp .ge 49, 3) := by decide +kernel
theorem dX7_readFrame_30 : decode cX7_readFrame 30 = .ok (.aload_n 0, 1) := by decide +kernel
theorem dX7_readFrame_31 : decode cX7_readFrame 31 = .ok (.getfield 49, 3) := by decide +kernel
theorem dX7_readFrame_34 : decode cX7_readFrame 34 = .ok (.ifCond .ne 42, 3) := by decide +kernel
theorem dX7_readFrame_37 : decode cX7_readFrame 37 = .ok (.aload_n 0, 1) := by decide +kernel
theorem dX7_readFrame_38 : decode cX7_readFrame 38 = .ok (.invokevirtual 40, 3) := by decide +kernel
theorem dX7_readFrame_41 : decode cX7_readFrame 41 = .ok (.iload_n 3, 1) := by decide +kernel
theorem dX7_readFrame_42 : decode cX7_readFrame 42 = .ok (.ifCond .le 20, 3) := by decide +kernel
theorem dX7_readFrame_45 : decode cX7_readFrame 45 = .ok (.aload_n 0, 1) := by decide +kernel
theorem dX7_readFrame_46 : decode cX7_readFrame 46 = .ok (.bipush 59, 2) := by decide +kernel
theorem dX7_readFrame_48 : decode cX7_readFrame 48 = .ok (.bipush 59, 2) := by decide +kernel
theorem dX7_readFrame_50 : decode cX7_readFrame 50 = .ok (.invokevirtual 92, 3) := by decide +kernel
theorem dX7_readFrame_53 : decode cX7_readFrame 53 = .ok (.ifCond .eq 9, 3) := by decide +kernel
theorem dX7_readFrame_56 : decode cX7_readFrame 56 = .ok (.aload_n 0, 1) := by decide +kernel
theorem dX7_readFrame_57 : decode cX7_readFrame 57 = .ok (.iload_n 2, 1) := by decide +kernel
theorem dX7_readFrame_58 : decode cX7_readFrame 58 = .ok (.invokevirtual 176, 3) := by decide +kernel
theorem dX7_readFrame_61 : decode cX7_readFrame 61 = .ok (.return_, 1) := by decide +kernel
theorem dX7_readFrame_62 : decode cX7_readFrame 62 = .ok (.iload_n 2, 1) := by decide +kernel
theorem dX7_readFrame_63 : decode cX7_readFrame 63 = .ok (.aload_n 0, 1) := by decide +kernel
theorem dX7_readFrame_64 : decode cX7_readFrame 64 = .ok (.iload_n 2, 1) := by decide +kernel
theorem dX7_readFrame_65 : decode cX7_readFrame 65 = .ok (.invokevirtual 179, 3) := by decide +kernel
theorem dX7_readFrame_68 : decode cX7_readFrame 68 = .ok (.iadd, 1) := by decide +kernel
theorem dX7_readFrame_69 : decode cX7_readFrame 69 = .ok (.istore_n 2, 1) := by decide +kernel
theorem dX7_readFrame_70 : decode cX7_readFrame 70 = .ok (.iinc 3 1, 3) := by decide +kernel
theorem dX7_readFrame_73 : decode cX7_readFrame 73 = .ok (.goto (-50), 3) := by decide +kernel
theorem dX7_readFrame_76 : decode cX7_readFrame 76 = .ok (.return_, 1) := by decide +kernel
theorem dX7_endFrame_0 : decode cX7_endFrame 0 = .ok (.iload_n 1, 1) := by decide +kernel
theorem dX7_endFrame_1 : decode cX7_endFrame 1 = .ok (.aload_n 0, 1) := by decide +kernel
theorem dX7_endFrame_2 : decode cX7_endFrame 2 = .ok (.getfield 12, 3) := by decide +kernel
theorem dX7_endFrame_5 : decode cX7_endFrame 5 = .ok (.invokevirtual 183, 3) := by decide +kernel
theorem dX7_endFrame_8 : decode cX7_endFrame 8 = .ok (.if_icmp .ge 15, 3) := by decide +kernel
theorem dX7_endFrame_11 : decode cX7_endFrame 11 = .ok (.aload_n 0, 1) := by decide +kernel
theorem dX7_endFrame_12 : decode cX7_endFrame 12 = .ok (.iconst 4, 1) := by decide +kernel
theorem dX7_endFrame_13 : decode cX7_endFrame 13 = .ok (.aload_n 0, 1) := by decide +kernel
theorem dX7_endFrame_14 : decode cX7_endFrame 14 = .ok (.getfield 43, 3) := by decide +kernel
theorem dX7_endFrame_17 : decode cX7_endFrame 17 = .ok (.invokevirtual 58, 3) := by decide +kernel
theorem dX7_endFrame_20 : decode cX7_endFrame 20 = .ok (.goto 26, 3) := by decide +kernel
theorem dX7_endFrame_23 : decode cX7_endFrame 23 = .ok (.aload_n 0, 1) := by decide +kernel
theorem dX7_endFrame_24 : decode cX7_endFrame 24 = .ok (.dup, 1) := by decide +kernel
theorem dX7_endFrame_25 : decode cX7_endFrame 25 = .ok (.getfield 43, 3) := by decide +kernel
theorem dX7_endFrame_28 : decode cX7_endFrame 28 = .ok (.iconst 1, 1) := by decide +kernel
theorem dX7_endFrame_29 : decode cX7_endFrame 29 = .ok (.iadd, 1) := by decide +kernel
theorem dX7_endFrame_30 : decode cX7_endFrame 30 = .ok (.putfield 43, 3) := by decide +kernel
theorem dX7_endFrame_33 : decode cX7_endFrame 33 = .ok (.aload_n 0, 1) := by decide +kernel
theorem dX7_endFrame_34 : decode cX7_endFrame 34 = .ok (.getfield 12, 3) := by decide +kernel
theorem dX7_endFrame_37 : decode cX7_endFrame 37 = .ok (.dup, 1) := by decide +kernel
theorem dX7_endFrame_38 : decode cX7_endFrame 38 = .ok (.getfield 120, 3) := by decide +kernel
theorem dX7_endFrame_41 : decode cX7_endFrame 41 = .ok (.iconst 1, 1) := by decide +kernel
theorem dX7_endFrame_42 : decode cX7_endFrame 42 = .ok (.iadd, 1) := by decide +kernel
theorem dX7_endFrame_43 : decode cX7_endFrame 43 = .ok (.putfield 120, 3) := by decide +kernel
theorem dX7_endFrame_46 : decode cX7_endFrame 46 = .ok (.return_, 1) := by decide +kernel
theorem dX7_readRun_0 : decode cX7_readRun 0 = .ok (.aload_n 0, 1) := by decide +kernel
theorem dX7_readRun_1 : decode cX7_readRun 1 = .ok (.bipush 97, 2) := by decide +kernel
theorem dX7_readRun_3 : decode cX7_readRun 3 = .ok (.bipush 112, 2) := by decide +kernel
theorem dX7_readRun_5 : decode cX7_readRun 5 = .ok (.invokevirtual 92, 3) := by decide +kernel
theorem dX7_readRun_8 : decode cX7_readRun 8 = .ok (.ifCond .ne 14, 3) := by decide +kernel
theorem dX7_readRun_11 : decode cX7_readRun 11 = .ok (.aload_n 0, 1) := by decide +kernel
theorem dX7_readRun_12 : decode cX7_readRun 12 = .ok (.iconst 1, 1) := by decide +kernel
theorem dX7_readRun_13 : decode cX7_readRun 13 = .ok (.aload_n 0, 1) := by decide +kernel
theorem dX7_readRun_14 : decode cX7_readRun 14 = .ok (.getfield 43, 3) := by decide +kernel
theorem dX7_readRun_17 : decode cX7_readRun 17 = .ok (.invokevirtual 58, 3) := by decide +kernel
theorem dX7_readRun_20 : decode cX7_readRun 20 = .ok (.iconst 0, 1) := by decide +kernel
theorem dX7_readRun_21 : decode cX7_readRun 21 = .ok (.ireturn, 1) := by decide +kernel
theorem dX7_readRun_22 : decode cX7_readRun 22 = .ok (.aload_n 0, 1) := by decide +kernel
theorem dX7_readRun_23 : decode cX7_readRun 23 = .ok (.getfield 43, 3) := by decide +kernel
theorem dX7_readRun_26 : decode cX7_readRun 26 = .ok (.istore_n 2, 1) := by decide +kernel
theorem dX7_readRun_27 : decode cX7_readRun 27 = .ok (.aload_n 0, 1) := by decide +kernel
theorem dX7_readRun_28 : decode cX7_readRun 28 = .ok (.getfield 18, 3) := by decide +kernel
theorem dX7_readRun_31 : decode cX7_readRun 31 = .ok (.aload_n 0, 1) := by decide +kernel
theorem dX7_readRun_32 : decode cX7_readRun 32 = .ok (.getfield 43, 3) := by decide +kernel
theorem dX7_readRun_35 : decode cX7_readRun 35 = .ok (.iaload, 1) := by decide +kernel
theorem dX7_readRun_36 : decode cX7_readRun 36 = .ok (.bipush 97, 2) := by decide +kernel
theorem dX7_readRun_38 : decode cX7_readRun 38 = .ok (.isub, 1) := by decide +kernel
theorem dX7_readRun_39 : decode cX7_readRun 39 = .ok (.istore_n 3, 1) := by decide +kernel
theorem dX7_readRun_40 : decode cX7_readRun 40 = .ok (.iconst 1, 1) := by decide +kernel
theorem dX7_readRun_41 : decode cX7_readRun 41 = .ok (.istore 4, 2) := by decide +kernel
theorem dX7_readRun_43 : decode cX7_readRun 43 = .ok (.aload_n 0, 1) := by decide +kernel
theorem dX7_readRun_44 : decode cX7_readRun 44 = .ok (.dup, 1) := by decide +kernel
theorem dX7_readRun_45 : decode cX7_readRun 45 = .ok (.getfield 43, 3) := by decide +kernel
theorem dX7_readRun_48 : decode cX7_readRun 48 = .ok (.iconst 1, 1) := by decide +kernel
theorem dX7_readRun_49 : decode cX7_readRun 49 = .ok (.iadd, 1) := by decide +kernel
theorem dX7_readRun_50 : decode cX7_readRun 50 = .ok (.putfield 43, 3) := by decide +kernel
theorem dX7_readRun_53 : decode cX7_readRun 53 = .ok (.aload_n 0, 1) := by decide +kernel
theorem dX7_readRun_54 : decode cX7_readRun 54 = .ok (.invokevirtual 40, 3) := by decide +kernel
theorem dX7_readRun_57 : decode cX7_readRun 57 = .ok (.aload_n 0, 1) := by decide +kernel
theorem dX7_readRun_58 : decode cX7_readRun 58 = .ok (.bipush 48, 2) := by decide +kernel
theorem dX7_readRun_60 : decode cX7_readRun 60 = .ok (.bipush 57, 2) := by decide +kernel
theorem dX7_readRun_62 : decode cX7_readRun 62 = .ok (.invokevirtual 92, 3) := by decide +kernel
theorem dX7_readRun_65 : decode cX7_readRun 65 = .ok (.ifCond .eq 21, 3) := by decide +kernel
theorem dX7_readRun_68 : decode cX7_readRun 68 = .ok (.aload_n 0, 1) := by decide +kernel
theorem dX7_readRun_69 : decode cX7_readRun 69 = .ok (.iconst 1, 1) := by decide +kernel
theorem dX7_readRun_70 : decode cX7_readRun 70 = .ok (.bipush 64, 2) := by decide +kernel
theorem dX7_readRun_72 : decode cX7_readRun 72 = .ok (.invokevirtual 157, 3) := by decide +kernel
theorem dX7_readRun_75 : decode cX7_readRun 75 = .ok (.ifCond .ne 5, 3) := by decide +kernel
theorem dX7_readRun_78 : decode cX7_readRun 78 = .ok (.iconst 0, 1) := by decide +kernel
theorem dX7_readRun_79 : decode cX7_readRun 79 = .ok (.ireturn, 1) := by decide +kernel
theorem dX7_readRun_80 : decode cX7_readRun 80 = .ok (.aload_n 0, 1) := by decide +kernel
theorem dX7_readRun_81 : decode cX7_readRun 81 = .ok (.getfield 161, 3) := by decide +kernel
theorem dX7_readRun_84 : decode cX7_readRun 84 = .ok (.istore 4, 2) := by decide +kernel
theorem dX7_readRun_86 : decode cX7_readRun 86 = .ok (.iload_n 1, 1) := by decide +kernel
theorem dX7_readRun_87 : decode cX7_readRun 87 = .ok (.iload 4, 2) := by decide +kernel
theorem dX7_readRun_89 : decode cX7_readRun 89 = .ok (.iadd, 1) := by decide +kernel
theorem dX7_readRun_90 : decode cX7_readRun 90 = .ok (.aload_n 0, 1) := by decide +kernel
theorem dX7_readRun_91 : decode cX7_readRun 91 = .ok (.getfield 12, 3) := by decide +kernel
theorem dX7_readRun_94 : decode cX7_readRun 94 = .ok (.invokevirtual 183, 3) := by decide +kernel
theorem dX7_readRun_97 : decode cX7_readRun 97 = .ok (.if_icmp .le 11, 3) := by decide +kernel
theorem dX7_readRun_100 : decode cX7_readRun 100 = .ok (.aload_n 0, 1) := by decide +kernel
theorem dX7_readRun_101 : decode cX7_readRun 101 = .ok (.iconst 3, 1) := by decide +kernel
theorem dX7_readRun_102 : decode cX7_readRun 102 = .ok (.iload_n 2, 1) := by decide +kernel
theorem dX7_readRun_103 : decode cX7_readRun 103 = .ok (.invokevirtual 58, 3) := by decide +kernel
theorem dX7_readRun_106 : decode cX7_readRun 106 = .ok (.iconst 0, 1) := by decide +kernel
theorem dX7_readRun_107 : decode cX7_readRun 107 = .ok (.ireturn, 1) := by decide +kernel
theorem dX7_readRun_108 : decode cX7_readRun 108 = .ok (.iload_n 1, 1) := by decide +kernel
theorem dX7_readRun_109 : decode cX7_readRun 109 = .ok (.istore 5, 2) := by decide +kernel
theorem dX7_readRun_111 : decode cX7_readRun 111 = .ok (.iload 5, 2) := by decide +kernel
theorem dX7_readRun_113 : decode cX7_readRun 113 = .ok (.iload_n 1, 1) := by decide +kernel
theorem dX7_readRun_114 : decode cX7_readRun 114 = .ok (.iload 4, 2) := by decide +kernel
theorem dX7_readRun_116 : decode cX7_readRun 116 = .ok (.iadd, 1) := by decide +kernel
theorem dX7_readRun_117 : decode cX7_readRun 117 = .ok (.if_icmp .ge 31, 3) := by decide +kernel
theorem dX7_readRun_120 : decode cX7_readRun 120 = .ok (.aload_n 0, 1) := by decide +kernel
theorem dX7_readRun_121 : decode cX7_readRun 121 = .ok (.getfield 12, 3) := by decide +kernel
theorem dX7_readRun_124 : decode cX7_readRun 124 = .ok (.getfield 186, 3) := by decide +kernel
theorem dX7_readRun_127 : decode cX7_readRun 127 = .ok (.aload_n 0, 1) := by decide +kernel
theorem dX7_readRun_128 : decode cX7_readRun 128 = .ok (.getfield 12, 3) := by decide +kernel
theorem dX7_readRun_131 : decode cX7_readRun 131 = .ok (.getfield 120, 3) := by decide +kernel
theorem dX7_readRun_134 : decode cX7_readRun 134 = .ok (.bipush 64, 2) := by decide +kernel
theorem dX7_readRun_136 : decode cX7_readRun 136 = .ok (.imul, 1) := by decide +kernel
theorem dX7_readRun_137 : decode cX7_readRun 137 = .ok (.iload 5, 2) := by decide +kernel
theorem dX7_readRun_139 : decode cX7_readRun 139 = .ok (.iadd, 1) := by decide +kernel
theorem dX7_readRun_140 : decode cX7_readRun 140 = .ok (.iload_n 3, 1) := by decide +kernel
theorem dX7_readRun_141 : decode cX7_readRun 141 = .ok (.iastore, 1) := by decide +kernel
theorem dX7_readRun_142 : decode cX7_readRun 142 = .ok (.iinc 5 1, 3) := by decide +kernel
theorem dX7_readRun_145 : decode cX7_readRun 145 = .ok (.goto (-34), 3) := by decide +kernel
theorem dX7_readRun_148 : decode cX7_readRun 148 = .ok (.iload 4, 2) := by decide +kernel
theorem dX7_readRun_150 : decode cX7_readRun 150 = .ok (.ireturn, 1) := by decide +kernel
theorem dX8_init_0 : decode cX8_init 0 = .ok (.aload_n 0, 1) := by decide +kernel
theorem dX8_init_1 : decode cX8_init 1 = .ok (.invokespecial 3, 3) := by decide +kernel
theorem dX8_init_4 : decode cX8_init 4 = .ok (.aload_n 0, 1) := by decide +kernel
theorem dX8_init_5 : decode cX8_init 5 = .ok (.bipush 24, 2) := by decide +kernel
theorem dX8_init_7 : decode cX8_init 7 = .ok (.newarray .int, 2) := by decide +kernel
theorem dX8_init_9 : decode cX8_init 9 = .ok (.putfield 9, 3) := by decide +kernel
theorem dX8_init_12 : decode cX8_init 12 = .ok (.aload_n 0, 1) := by decide +kernel
theorem dX8_init_13 : decode cX8_init 13 = .ok (.bipush 25, 2) := by decide +kernel
theorem dX8_init_15 : decode cX8_init 15 = .ok (.newarray .int, 2) := by decide +kernel
theorem dX8_init_17 : decode cX8_init 17 = .ok (.putfield 15, 3) := by decide +kernel
theorem dX8_init_20 : decode cX8_init 20 = .ok (.aload_n 0, 1) := by decide +kernel
theorem dX8_init_21 : decode cX8_init 21 = .ok (.bipush 24, 2) := by decide +kernel
theorem dX8_init_23 : decode cX8_init 23 = .ok (.newarray .int, 2) := by decide +kernel
theorem dX8_init_25 : decode cX8_init 25 = .ok (.putfield 18, 3) := by decide +kernel
theorem dX8_init_28 : decode cX8_init 28 = .ok (.return_, 1) := by decide +kernel
theorem dX8_find_0 : decode cX8_find 0 = .ok (.aload_n 0, 1) := by decide +kernel
theorem dX8_find_1 : decode cX8_find 1 = .ok (.iconst 0, 1) := by decide +kernel
theorem dX8_find_2 : decode cX8_find 2 = .ok (.putfield 21, 3) := by decide +kernel
theorem dX8_find_5 : decode cX8_find 5 = .ok (.iconst 0, 1) := by decide +kernel
theorem dX8_find_6 : decode cX8_find 6 = .ok (.istore_n 3, 1) := by decide +kernel
theorem dX8_find_7 : decode cX8_find 7 = .ok (.iload_n 3, 1) := by decide +kernel
theorem dX8_find_8 : decode cX8_find 8 = .ok (.aload_n 1, 1) := by decide +kernel
theorem dX8_find_9 : decode cX8_find 9 = .ok (.getfield 25, 3) := by decide +kernel
theorem dX8_find_12 : decode cX8_find 12 = .ok (.if_icmp .ge 50, 3) := by decide +kernel
theorem dX8_find_15 : decode cX8_find 15 = .ok (.aload_n 1, 1) := by decide +kernel
theorem dX8_find_16 : decode cX8_find 16 = .ok (.aload_n 2, 1) := by decide +kernel
theorem dX8_find_17 : decode cX8_find 17 = .ok (.iload_n 3, 1) := by decide +kernel
theorem dX8_find_18 : decode cX8_find 18 = .ok (.invokestatic 30, 3) := by decide +kernel
theorem dX8_find_21 : decode cX8_find 21 = .ok (.ifCond .eq 23, 3) := by decide +kernel
theorem dX8_find_24 : decode cX8_find 24 = .ok (.aload_n 0, 1) := by decide +kernel
theorem dX8_find_25 : decode cX8_find 25 = .ok (.getfield 15, 3) := by decide +kernel
theorem dX8_find_28 : decode cX8_find 28 = .ok (.aload_n 0, 1) := by decide +kernel
theorem dX8_find_29 : decode cX8_find 29 = .ok (.getfield 21, 3) := by decide +kernel
theorem dX8_find_32 : decode cX8_find 32 = .ok (.iload_n 3, 1) := by decide +kernel
theorem dX8_find_33 : decode cX8_find 33 = .ok (.iastore, 1) := by decide +kernel
theorem dX8_find_34 : decode cX8_find 34 = .ok (.aload_n 0, 1) := by decide +kernel
theorem dX8_find_35 : decode cX8_find 35 = .ok (.dup, 1) := by decide +kernel
theorem dX8_find_36 : decode cX8_find 36 = .ok (.getfield 21, 3) := by decide +kernel
theorem dX8_find_39 : decode cX8_find 39 = .ok (.iconst 1, 1) := by decide +kernel
theorem dX8_find_40 : decode cX8_find 40 = .ok (.iadd, 1) := by decide +kernel
theorem dX8_find_41 : decode cX8_find 41 = .ok (.putfield 21, 3) := by decide +kernel
theorem dX8_find_44 : decode cX8_find 44 = .ok (.aload_n 0, 1) := by decide +kernel
theorem dX8_find_45 : decode cX8_find 45 = .ok (.getfield 9, 3) := by decide +kernel
theorem dX8_find_48 : decode cX8_find 48 = .ok (.iload_n 3, 1) := by decide +kernel
theorem dX8_find_49 : decode cX8_find 49 = .ok (.aload_n 0, 1) := by decide +kernel
theorem dX8_find_50 : decode cX8_find 50 = .ok (.getfield 21, 3) := by decide +kernel
theorem dX8_find_53 : decode cX8_find 53 = .ok (.iconst 1, 1) := by decide +kernel
theorem dX8_find_54 : decode cX8_find 54 = .ok (.isub, 1) := by decide +kernel
theorem dX8_find_55 : decode cX8_find 55 = .ok (.iastore, 1) := by decide +kernel
theorem dX8_find_56 : decode cX8_find 56 = .ok (.iinc 3 1, 3) := by decide +kernel
theorem dX8_find_59 : decode cX8_find 59 = .ok (.goto (-52), 3) := by decide +kernel
theorem dX8_find_62 : decode cX8_find 62 = .ok (.aload_n 0, 1) := by decide +kernel
theorem dX8_find_63 : decode cX8_find 63 = .ok (.getfield 15, 3) := by decide +kernel
theorem dX8_find_66 : decode cX8_find 66 = .ok (.aload_n 0, 1) := by decide +kernel
theorem dX8_find_67 : decode cX8_find 67 = .ok (.getfield 21, 3) := by decide +kernel
theorem dX8_find_70 : decode cX8_find 70 = .ok (.aload_n 1, 1) := by decide +kernel
theorem dX8_find_71 : decode cX8_find 71 = .ok (.getfield 25, 3) := by decide +kernel
theorem dX8_find_74 : decode cX8_find 74 = .ok (.iastore, 1) := by decide +kernel
theorem dX8_find_75 : decode cX8_find 75 = .ok (.return_, 1) := by decide +kernel
theorem dX8_isFirst_0 : decode cX8_isFirst 0 = .ok (.iload_n 2, 1) := by decide +kernel
theorem dX8_isFirst_1 : decode cX8_isFirst 1 = .ok (.ifCond .eq 13, 3) := by decide +kernel
theorem dX8_isFirst_4 : decode cX8_isFirst 4 = .ok (.aload_n 0, 1) := by decide +kernel
theorem dX8_isFirst_5 : decode cX8_isFirst 5 = .ok (.getfield 34, 3) := by decide +kernel
theorem dX8_isFirst_8 : decode cX8_isFirst 8 = .ok (.iload_n 2, 1) := by decide +kernel
theorem dX8_isFirst_9 : decode cX8_isFirst 9 = .ok (.iaload, 1) := by decide +kernel
theorem dX8_isFirst_10 : decode cX8_isFirst 10 = .ok (.iconst 1, 1) := by decide +kernel
theorem dX8_isFirst_11 : decode cX8_isFirst 11 = .ok (.if_icmp .ne 5, 3) := by decide +kernel
theorem dX8_isFirst_14 : decode cX8_isFirst 14 = .ok (.iconst 1, 1) := by decide +kernel
theorem dX8_isFirst_15 : decode cX8_isFirst 15 = .ok (.ireturn, 1) := by decide +kernel
theorem dX8_isFirst_16 : decode cX8_isFirst 16 = .ok (.aload_n 0, 1) := by decide +kernel
theorem dX8_isFirst_17 : decode cX8_isFirst 17 = .ok (.getfield 37, 3) := by decide +kernel
theorem dX8_isFirst_20 : decode cX8_isFirst 20 = .ok (.iconst 4, 1) := by decide +kernel
theorem dX8_isFirst_21 : decode cX8_isFirst 21 = .ok (.iaload, 1) := by decide +kernel
theorem dX8_isFirst_22 : decode cX8_isFirst 22 = .ok (.istore_n 3, 1) := by decide +kernel
theorem dX8_isFirst_23 : decode cX8_isFirst 23 = .ok (.iload_n 3, 1) := by decide +kernel
theorem dX8_isFirst_24 : decode cX8_isFirst 24 = .ok (.ifCond .le 19, 3) := by decide +kernel
theorem dX8_isFirst_27 : decode cX8_isFirst 27 = .ok (.aload_n 1, 1) := by decide +kernel
theorem dX8_isFirst_28 : decode cX8_isFirst 28 = .ok (.iload_n 2, 1) := by decide +kernel
theorem dX8_isFirst_29 : decode cX8_isFirst 29 = .ok (.iconst 1, 1) := by decide +kernel
theorem dX8_isFirst_30 : decode cX8_isFirst 30 = .ok (.isub, 1) := by decide +kernel
theorem dX8_isFirst_31 : decode cX8_isFirst 31 = .ok (.iload_n 2, 1) := by decide +kernel
theorem dX8_isFirst_32 : decode cX8_isFirst 32 = .ok (.invokevirtual 40, 3) := by decide +kernel
theorem dX8_isFirst_35 : decode cX8_isFirst 35 = .ok (.iload_n 3, 1) := by decide +kernel
theorem dX8_isFirst_36 : decode cX8_isFirst 36 = .ok (.if_icmp .le 7, 3) := by decide +kernel
theorem dX8_isFirst_39 : decode cX8_isFirst 39 = .ok (.iconst 1, 1) := by decide +kernel
theorem dX8_isFirst_40 : decode cX8_isFirst 40 = .ok (.goto 4, 3) := by decide +kernel
theorem dX8_isFirst_43 : decode cX8_isFirst 43 = .ok (.iconst 0, 1) := by decide +kernel
theorem dX8_isFirst_44 : decode cX8_isFirst 44 = .ok (.ireturn, 1) := by decide +kernel
theorem dX8_begins_0 : decode cX8_begins 0 = .ok (.aload_n 0, 1) := by decide +kernel
theorem dX8_begins_1 : decode cX8_begins 1 = .ok (.getfield 15, 3) := by decide +kernel
theorem dX8_begins_4 : decode cX8_begins 4 = .ok (.aload_n 0, 1) := by decide +kernel
theorem dX8_begins_5 : decode cX8_begins 5 = .ok (.getfield 9, 3) := by decide +kernel
theorem dX8_begins_8 : decode cX8_begins 8 = .ok (.iload_n 1, 1) := by decide +kernel
theorem dX8_begins_9 : decode cX8_begins 9 = .ok (.iaload, 1) := by decide +kernel
theorem dX8_begins_10 : decode cX8_begins 10 = .ok (.iaload, 1) := by decide +kernel
theorem dX8_begins_11 : decode cX8_begins 11 = .ok (.iload_n 1, 1) := by decide +kernel
theorem dX8_begins_12 : decode cX8_begins 12 = .ok (.if_icmp .ne 7, 3) := by decide +kernel
theorem dX8_begins_15 : decode cX8_begins 15 = .ok (.iconst 1, 1) := by decide +kernel
theorem dX8_begins_16 : decode cX8_begins 16 = .ok (.goto 4, 3) := by decide +kernel
theorem dX8_begins_19 : decode cX8_begins 19 = .ok (.iconst 0, 1) := by decide +kernel
theorem dX8_begins_20 : decode cX8_begins 20 = .ok (.ireturn, 1) := by decide +kernel
theorem dX8_start_0 : decode cX8_start 0 = .ok (.aload_n 0, 1) := by decide +kernel
theorem dX8_start_1 : decode cX8_start 1 = .ok (.getfield 15, 3) := by decide +kernel
theorem dX8_start_4 : decode cX8_start 4 = .ok (.aload_n 0, 1) := by decide +kernel
theorem dX8_start_5 : decode cX8_start 5 = .ok (.getfield 9, 3) := by decide +kernel
theorem dX8_start_8 : decode cX8_start 8 = .ok (.iload_n 1, 1) := by decide +kernel
theorem dX8_start_9 : decode cX8_start 9 = .ok (.iaload, 1) := by decide +kernel
theorem dX8_start_10 : decode cX8_start 10 = .ok (.iaload, 1) := by decide +kernel
theorem dX8_start_11 : decode cX8_start 11 = .ok (.ireturn, 1) := by decide +kernel
theorem dX8_last_0 : decode cX8_last 0 = .ok (.aload_n 0, 1) := by decide +kernel
theorem dX8_last_1 : decode cX8_last 1 = .ok (.getfield 15, 3) := by decide +kernel
theorem dX8_last_4 : decode cX8_last 4 = .ok (.aload_n 0, 1) := by decide +kernel
theorem dX8_last_5 : decode cX8_last 5 = .ok (.getfield 9, 3) := by decide +kernel
theorem dX8_last_8 : decode cX8_last 8 = .ok (.iload_n 1, 1) := by decide +kernel
theorem dX8_last_9 : decode cX8_last 9 = .ok (.iaload, 1) := by decide +kernel
theorem dX8_last_10 : decode cX8_last 10 = .ok (.iconst 1, 1) := by decide +kernel
theorem dX8_last_11 : decode cX8_last 11 = .ok (.iadd, 1) := by decide +kernel
theorem dX8_last_12 : decode cX8_last 12 = .ok (.iaload, 1) := by decide +kernel
theorem dX8_last_13 : decode cX8_last 13 = .ok (.iconst 1, 1) := by decide +kernel
theorem dX8_last_14 : decode cX8_last 14 = .ok (.isub, 1) := by decide +kernel
theorem dX8_last_15 : decode cX8_last 15 = .ok (.ireturn, 1) := by decide +kernel
theorem dX8_keyFrame_0 : decode cX8_keyFrame 0 = .ok (.aload_n 0, 1) := by decide +kernel
theorem dX8_keyFrame_1 : decode cX8_keyFrame 1 = .ok (.getfield 15, 3) := by decide +kernel
theorem dX8_keyFrame_4 : decode cX8_keyFrame 4 = .ok (.iload_n 1, 1) := by decide +kernel
theorem dX8_keyFrame_5 : decode cX8_keyFrame 5 = .ok (.iaload, 1) := by decide +kernel
theorem dX8_keyFrame_6 : decode cX8_keyFrame 6 = .ok (.istore_n 3, 1) := by decide +kernel
theorem dX8_keyFrame_7 : decode cX8_keyFrame 7 = .ok (.aload_n 0, 1) := by decide +kernel
theorem dX8_keyFrame_8 : decode cX8_keyFrame 8 = .ok (.getfield 15, 3) := by decide +kernel
theorem dX8_keyFrame_11 : decode cX8_keyFrame 11 = .ok (.iload_n 1, 1) := by decide +kernel
theorem dX8_keyFrame_12 : decode cX8_keyFrame 12 = .ok (.iconst 1, 1) := by decide +kernel
theorem dX8_keyFrame_13 : decode cX8_keyFrame 13 = .ok (.iadd, 1) := by decide +kernel
theorem dX8_keyFrame_14 : decode cX8_keyFrame 14 = .ok (.iaload, 1) := by decide +kernel
theorem dX8_keyFrame_15 : decode cX8_keyFrame 15 = .ok (.istore 4, 2) := by decide +kernel
theorem dX8_keyFrame_17 : decode cX8_keyFrame 17 = .ok (.iload_n 3, 1) := by decide +kernel
theorem dX8_keyFrame_18 : decode cX8_keyFrame 18 = .ok (.istore 5, 2) := by decide +kernel
theorem dX8_keyFrame_20 : decode cX8_keyFrame 20 = .ok (.iload 5, 2) := by decide +kernel
theorem dX8_keyFrame_22 : decode cX8_keyFrame 22 = .ok (.iload 4, 2) := by decide +kernel
theorem dX8_keyFrame_24 : decode cX8_keyFrame 24 = .ok (.if_icmp .ge 67, 3) := by decide +kernel
theorem dX8_keyFrame_27 : decode cX8_keyFrame 27 = .ok (.aload_n 0, 1) := by decide +kernel
theorem dX8_keyFrame_28 : decode cX8_keyFrame 28 = .ok (.getfield 18, 3) := by decide +kernel
theorem dX8_keyFrame_31 : decode cX8_keyFrame 31 = .ok (.iload 5, 2) := by decide +kernel
theorem dX8_keyFrame_33 : decode cX8_keyFrame 33 = .ok (.iconst 0, 1) := by decide +kernel
theorem dX8_keyFrame_34 : decode cX8_keyFrame 34 = .ok (.iastore, 1) := by decide +kernel
theorem dX8_keyFrame_35 : decode cX8_keyFrame 35 = .ok (.iload_n 3, 1) := by decide +kernel
theorem dX8_keyFrame_36 : decode cX8_keyFrame 36 = .ok (.istore 6, 2) := by decide +kernel
theorem dX8_keyFrame_38 : decode cX8_keyFrame 38 = .ok (.iload 6, 2) := by decide +kernel
theorem dX8_keyFrame_40 : decode cX8_keyFrame 40 = .ok (.iload 5, 2) := by decide +kernel
theorem dX8_keyFrame_42 : decode cX8_keyFrame 42 = .ok (.if_icmp .ge 43, 3) := by decide +kernel
theorem dX8_keyFrame_45 : decode cX8_keyFrame 45 = .ok (.aload_n 2, 1) := by decide +kernel
theorem dX8_keyFrame_46 : decode cX8_keyFrame 46 = .ok (.iload 6, 2) := by decide +kernel
theorem dX8_keyFrame_48 : decode cX8_keyFrame 48 = .ok (.iload 5, 2) := by decide +kernel
theorem dX8_keyFrame_50 : decode cX8_keyFrame 50 = .ok (.invokevirtual 40, 3) := by decide +kernel
theorem dX8_keyFrame_53 : decode cX8_keyFrame 53 = .ok (.istore 7, 2) := by decide +kernel
theorem dX8_keyFrame_55 : decode cX8_keyFrame 55 = .ok (.aload_n 0, 1) := by decide +kernel
theorem dX8_keyFrame_56 : decode cX8_keyFrame 56 = .ok (.getfield 18, 3) := by decide +kernel
theorem dX8_keyFrame_59 : decode cX8_keyFrame 59 = .ok (.iload 6, 2) := by decide +kernel
theorem dX8_keyFrame_61 : decode cX8_keyFrame 61 = .ok (.dup2, 1) := by decide +kernel
theorem dX8_keyFrame_62 : decode cX8_keyFrame 62 = .ok (.iaload, 1) := by decide +kernel
theorem dX8_keyFrame_63 : decode cX8_keyFrame 63 = .ok (.iload 7, 2) := by decide +kernel
theorem dX8_keyFrame_65 : decode cX8_keyFrame 65 = .ok (.iadd, 1) := by decide +kernel
theorem dX8_keyFrame_66 : decode cX8_keyFrame 66 = .ok (.iastore, 1) := by decide +kernel
theorem dX8_keyFrame_67 : decode cX8_keyFrame 67 = .ok (.aload_n 0, 1) := by decide +kernel
theorem dX8_keyFrame_68 : decode cX8_keyFrame 68 = .ok (.getfield 18, 3) := by decide +kernel
theorem dX8_keyFrame_71 : decode cX8_keyFrame 71 = .ok (.iload 5, 2) := by decide +kernel
theorem dX8_keyFrame_73 : decode cX8_keyFrame 73 = .ok (.dup2, 1) := by decide +kernel
theorem dX8_keyFrame_74 : decode cX8_keyFrame 74 = .ok (.iaload, 1) := by decide +kernel
theorem dX8_keyFrame_75 : decode cX8_keyFrame 75 = .ok (.iload 7, 2) := by decide +kernel
theorem dX8_keyFrame_77 : decode cX8_keyFrame 77 = .ok (.iadd, 1) := by decide +kernel
theorem dX8_keyFrame_78 : decode cX8_keyFrame 78 = .ok (.iastore, 1) := by decide +kernel
theorem dX8_keyFrame_79 : decode cX8_keyFrame 79 = .ok (.iinc 6 1, 3) := by decide +kernel
theorem dX8_keyFrame_82 : decode cX8_keyFrame 82 = .ok (.goto (-44), 3) := by decide +kernel
theorem dX8_keyFrame_85 : decode cX8_keyFrame 85 = .ok (.iinc 5 1, 3) := by decide +kernel
theorem dX8_keyFrame_88 : decode cX8_keyFrame 88 = .ok (.goto (-68), 3) := by decide +kernel
theorem dX8_keyFrame_91 : decode cX8_keyFrame 91 = .ok (.iload_n 3, 1) := by decide +kernel
theorem dX8_keyFrame_92 : decode cX8_keyFrame 92 = .ok (.istore 5, 2) := by decide +kernel
theorem dX8_keyFrame_94 : decode cX8_keyFrame 94 = .ok (.iload_n 3, 1) := by decide +kernel
theorem dX8_keyFrame_95 : decode cX8_keyFrame 95 = .ok (.iconst 1, 1) := by decide +kernel
theorem dX8_keyFrame_96 : decode cX8_keyFrame 96 = .ok (.iadd, 1) := by decide +kernel
theorem dX8_keyFrame_97 : decode cX8_keyFrame 97 = .ok (.istore 6, 2) := by decide +kernel
theorem dX8_keyFrame_99 : decode cX8_keyFrame 99 = .ok (.iload 6, 2) := by decide +kernel
theorem dX8_keyFrame_101 : decode cX8_keyFrame 101 = .ok (.iload 4, 2) := by decide +kernel
theorem dX8_keyFrame_103 : decode cX8_keyFrame 103 = .ok (.if_icmp .ge 35, 3) := by decide +kernel
theorem dX8_keyFrame_106 : decode cX8_keyFrame 106 = .ok (.aload_n 0, 1) := by decide +kernel
theorem dX8_keyFrame_107 : decode cX8_keyFrame 107 = .ok (.getfield 18, 3) := by decide +kernel
theorem dX8_keyFrame_110 : decode cX8_keyFrame 110 = .ok (.iload 6, 2) := by decide +kernel
theorem dX8_keyFrame_112 : decode cX8_keyFrame 112 = .ok (.iaload, 1) := by decide +kernel
theorem dX8_keyFrame_113 : decode cX8_keyFrame 113 = .ok (.aload_n 0, 1) := by decide +kernel
theorem dX8_keyFrame_114 : decode cX8_keyFrame 114 = .ok (.getfield 18, 3) := by decide +kernel
theorem dX8_keyFrame_117 : decode cX8_keyFrame 117 = .ok (.iload 5, 2) := by decide +kernel
theorem dX8_keyFrame_119 : decode cX8_keyFrame 119 = .ok (.iaload, 1) := by decide +kernel
theorem dX8_keyFrame_120 : decode cX8_keyFrame 120 = .ok (.if_icmp .ge 8, 3) := by decide +kernel
theorem dX8_keyFrame_123 : decode cX8_keyFrame 123 = .ok (.iload 6, 2) := by decide +kernel
theorem dX8_keyFrame_125 : decode cX8_keyFrame 125 = .ok (.goto 5, 3) := by decide +kernel
theorem dX8_keyFrame_128 : decode cX8_keyFrame 128 = .ok (.iload 5, 2) := by decide +kernel
theorem dX8_keyFrame_130 : decode cX8_keyFrame 130 = .ok (.istore 5, 2) := by decide +kernel
theorem dX8_keyFrame_132 : decode cX8_keyFrame 132 = .ok (.iinc 6 1, 3) := by decide +kernel
theorem dX8_keyFrame_135 : decode cX8_keyFrame 135 = .ok (.goto (-36), 3) := by decide +kernel
theorem dX8_keyFrame_138 : decode cX8_keyFrame 138 = .ok (.iload 5, 2) := by decide +kernel
theorem dX8_keyFrame_140 : decode cX8_keyFrame 140 = .ok (.ireturn, 1) := by decide +kernel
theorem dX9_init_0 : decode cX9_init 0 = .ok (.aload_n 0, 1) := by decide +kernel
theorem dX9_init_1 : decode cX9_init 1 = .ok (.invokespecial 3, 3) := by decide +kernel
theorem dX9_init_4 : decode cX9_init 4 = .ok (.aload_n 0, 1) := by decide +kernel
theorem dX9_init_5 : decode cX9_init 5 = .ok (.sipush 384, 3) := by decide +kernel
theorem dX9_init_8 : decode cX9_init 8 = .ok (.newarray .int, 2) := by decide +kernel
theorem dX9_init_10 : decode cX9_init 10 = .ok (.putfield 9, 3) := by decide +kernel
theorem dX9_init_13 : decode cX9_init 13 = .ok (.return_, 1) := by decide +kernel
theorem dX9_read_0 : decode cX9_read 0 = .ok (.aload_n 0, 1) := by decide +kernel
theorem dX9_read_1 : decode cX9_read 1 = .ok (.getfield 9, 3) := by decide +kernel
theorem dX9_read_4 : decode cX9_read 4 = .ok (.iconst 0, 1) := by decide +kernel
theorem dX9_read_5 : decode cX9_read 5 = .ok (.invokestatic 15, 3) := by decide +kernel
theorem dX9_read_8 : decode cX9_read 8 = .ok (.iconst 0, 1) := by decide +kernel
theorem dX9_read_9 : decode cX9_read 9 = .ok (.istore 4, 2) := by decide +kernel
theorem dX9_read_11 : decode cX9_read 11 = .ok (.iload 4, 2) := by decide +kernel
theorem dX9_read_13 : decode cX9_read 13 = .ok (.iload_n 2, 1) := by decide +kernel
theorem dX9_read_14 : decode cX9_read 14 = .ok (.if_icmp .ge 94, 3) := by decide +kernel
theorem dX9_read_17 : decode cX9_read 17 = .ok (.iload 4, 2) := by decide +kernel
theorem dX9_read_19 : decode cX9_read 19 = .ok (.bipush 16, 2) := by decide +kernel
theorem dX9_read_21 : decode cX9_read 21 = .ok (.imul, 1) := by decide +kernel
theorem dX9_read_22 : decode cX9_read 22 = .ok (.istore 5, 2) := by decide +kernel
theorem dX9_read_24 : decode cX9_read 24 = .ok (.iconst 0, 1) := by decide +kernel
theorem dX9_read_25 : decode cX9_read 25 = .ok (.istore 6, 2) := by decide +kernel
theorem dX9_read_27 : decode cX9_read 27 = .ok (.iload 6, 2) := by decide +kernel
theorem dX9_read_29 : decode cX9_read 29 = .ok (.iload_n 3, 1) := by decide +kernel
theorem dX9_read_30 : decode cX9_read 30 = .ok (.if_icmp .ge 31, 3) := by decide +kernel
theorem dX9_read_33 : decode cX9_read 33 = .ok (.aload_n 0, 1) := by decide +kernel
theorem dX9_read_34 : decode cX9_read 34 = .ok (.getfield 9, 3) := by decide +kernel
theorem dX9_read_37 : decode cX9_read 37 = .ok (.iload 5, 2) := by decide +kernel
theorem dX9_read_39 : decode cX9_read 39 = .ok (.aload_n 1, 1) := by decide +kernel
theorem dX9_read_40 : decode cX9_read 40 = .ok (.iload 4, 2) := by decide +kernel
theorem dX9_read_42 : decode cX9_read 42 = .ok (.bipush 64, 2) := by decide +kernel
theorem dX9_read_44 : decode cX9_read 44 = .ok (.imul, 1) := by decide +kernel
theorem dX9_read_45 : decode cX9_read 45 = .ok (.iload 6, 2) := by decide +kernel
theorem dX9_read_47 : decode cX9_read 47 = .ok (.iadd, 1) := by decide +kernel
theorem dX9_read_48 : decode cX9_read 48 = .ok (.iaload, 1) := by decide +kernel
theorem dX9_read_49 : decode cX9_read 49 = .ok (.iadd, 1) := by decide +kernel
theorem dX9_read_50 : decode cX9_read 50 = .ok (.dup2, 1) := by decide +kernel
theorem dX9_read_51 : decode cX9_read 51 = .ok (.iaload, 1) := by decide +kernel
theorem dX9_read_52 : decode cX9_read 52 = .ok (.iconst 1, 1) := by decide +kernel
theorem dX9_read_53 : decode cX9_read 53 = .ok (.iadd, 1) := by decide +kernel
theorem dX9_read_54 : decode cX9_read 54 = .ok (.iastore, 1) := by decide +kernel
theorem dX9_read_55 : decode cX9_read 55 = .ok (.iinc 6 1, 3) := by decide +kernel
theorem dX9_read_58 : decode cX9_read 58 = .ok (.goto (-31), 3) := by decide +kernel
theorem dX9_read_61 : decode cX9_read 61 = .ok (.iconst 1, 1) := by decide +kernel
theorem dX9_read_62 : decode cX9_read 62 = .ok (.istore 6, 2) := by decide +kernel
theorem dX9_read_64 : decode cX9_read 64 = .ok (.iload 6, 2) := by decide +kernel
theorem dX9_read_66 : decode cX9_read 66 = .ok (.bipush 16, 2) := by decide +kernel
theorem dX9_read_68 : decode cX9_read 68 = .ok (.if_icmp .ge 34, 3) := by decide +kernel
theorem dX9_read_71 : decode cX9_read 71 = .ok (.aload_n 0, 1) := by decide +kernel
theorem dX9_read_72 : decode cX9_read 72 = .ok (.getfield 9, 3) := by decide +kernel
theorem dX9_read_75 : decode cX9_read 75 = .ok (.iload 5, 2) := by decide +kernel
theorem dX9_read_77 : decode cX9_read 77 = .ok (.iload 6, 2) := by decide +kernel
theorem dX9_read_79 : decode cX9_read 79 = .ok (.iadd, 1) := by decide +kernel
theorem dX9_read_80 : decode cX9_read 80 = .ok (.dup2, 1) := by decide +kernel
theorem dX9_read_81 : decode cX9_read 81 = .ok (.iaload, 1) := by decide +kernel
theorem dX9_read_82 : decode cX9_read 82 = .ok (.aload_n 0, 1) := by decide +kernel
theorem dX9_read_83 : decode cX9_read 83 = .ok (.getfield 9, 3) := by decide +kernel
theorem dX9_read_86 : decode cX9_read 86 = .ok (.iload 5, 2) := by decide +kernel
theorem dX9_read_88 : decode cX9_read 88 = .ok (.iload 6, 2) := by decide +kernel
theorem dX9_read_90 : decode cX9_read 90 = .ok (.iadd, 1) := by decide +kernel
theorem dX9_read_91 : decode cX9_read 91 = .ok (.iconst 1, 1) := by decide +kernel
theorem dX9_read_92 : decode cX9_read 92 = .ok (.isub, 1) := by decide +kernel
theorem dX9_read_93 : decode cX9_read 93 = .ok (.iaload, 1) := by decide +kernel
theorem dX9_read_94 : decode cX9_read 94 = .ok (.iadd, 1) := by decide +kernel
theorem dX9_read_95 : decode cX9_read 95 = .ok (.iastore, 1) := by decide +kernel
theorem dX9_read_96 : decode cX9_read 96 = .ok (.iinc 6 1, 3) := by decide +kernel
theorem dX9_read_99 : decode cX9_read 99 = .ok (.goto (-35), 3) := by decide +kernel
theorem dX9_read_102 : decode cX9_read 102 = .ok (.iinc 4 1, 3) := by decide +kernel
theorem dX9_read_105 : decode cX9_read 105 = .ok (.goto (-94), 3) := by decide +kernel
theorem dX9_read_108 : decode cX9_read 108 = .ok (.return_, 1) := by decide +kernel
theorem dX9_number_0 : decode cX9_number 0 = .ok (.iload_n 2, 1) := by decide +kernel
theorem dX9_number_1 : decode cX9_number 1 = .ok (.ifCond .ne 7, 3) := by decide +kernel
theorem dX9_number_4 : decode cX9_number 4 = .ok (.iconst 0, 1) := by decide +kernel
theorem dX9_number_5 : decode cX9_number 5 = .ok (.goto 16, 3) := by decide +kernel
theorem dX9_number_8 : decode cX9_number 8 = .ok (.aload_n 0, 1) := by decide +kernel
theorem dX9_number_9 : decode cX9_number 9 = .ok (.getfield 9, 3) := by decide +kernel
theorem dX9_number_12 : decode cX9_number 12 = .ok (.iload_n 1, 1) := by decide +kernel
theorem dX9_number_13 : decode cX9_number 13 = .ok (.bipush 16, 2) := by decide +kernel
theorem dX9_number_15 : decode cX9_number 15 = .ok (.imul, 1) := by decide +kernel
theorem dX9_number_16 : decode cX9_number 16 = .ok (.iload_n 2, 1) := by decide +kernel
theorem dX9_number_17 : decode cX9_number 17 = .ok (.iadd, 1) := by decide +kernel
theorem dX9_number_18 : decode cX9_number 18 = .ok (.iconst 1, 1) := by decide +kernel
theorem dX9_number_19 : decode cX9_number 19 = .ok (.isub, 1) := by decide +kernel
theorem dX9_number_20 : decode cX9_number 20 = .ok (.iaload, 1) := by decide +kernel
theorem dX9_number_21 : decode cX9_number 21 = .ok (.istore_n 3, 1) := by decide +kernel
theorem dX9_number_22 : decode cX9_number 22 = .ok (.aload_n 0, 1) := by decide +kernel
theorem dX9_number_23 : decode cX9_number 23 = .ok (.getfield 9, 3) := by decide +kernel
theorem dX9_number_26 : decode cX9_number 26 = .ok (.iload_n 1, 1) := by decide +kernel
theorem dX9_number_27 : decode cX9_number 27 = .ok (.bipush 16, 2) := by decide +kernel
theorem dX9_number_29 : decode cX9_number 29 = .ok (.imul, 1) := by decide +kernel
theorem dX9_number_30 : decode cX9_number 30 = .ok (.iload_n 2, 1) := by decide +kernel
theorem dX9_number_31 : decode cX9_number 31 = .ok (.iadd, 1) := by decide +kernel
theorem dX9_number_32 : decode cX9_number 32 = .ok (.iaload, 1) := by decide +kernel
theorem dX9_number_33 : decode cX9_number 33 = .ok (.iload_n 3, 1) := by decide +kernel
theorem dX9_number_34 : decode cX9_number 34 = .ok (.isub, 1) := by decide +kernel
theorem dX9_number_35 : decode cX9_number 35 = .ok (.ireturn, 1) := by decide +kernel
theorem dX9_mean_0 : decode cX9_mean 0 = .ok (.iconst 0, 1) := by decide +kernel
theorem dX9_mean_1 : decode cX9_mean 1 = .ok (.istore_n 2, 1) := by decide +kernel
theorem dX9_mean_2 : decode cX9_mean 2 = .ok (.iconst 1, 1) := by decide +kernel
theorem dX9_mean_3 : decode cX9_mean 3 = .ok (.istore_n 3, 1) := by decide +kernel
theorem dX9_mean_4 : decode cX9_mean 4 = .ok (.iload_n 3, 1) := by decide +kernel
theorem dX9_mean_5 : decode cX9_mean 5 = .ok (.bipush 16, 2) := by decide +kernel
theorem dX9_mean_7 : decode cX9_mean 7 = .ok (.if_icmp .ge 20, 3) := by decide +kernel
theorem dX9_mean_10 : decode cX9_mean 10 = .ok (.iload_n 2, 1) := by decide +kernel
theorem dX9_mean_11 : decode cX9_mean 11 = .ok (.iload_n 3, 1) := by decide +kernel
theorem dX9_mean_12 : decode cX9_mean 12 = .ok (.aload_n 0, 1) := by decide +kernel
theorem dX9_mean_13 : decode cX9_mean 13 = .ok (.iload_n 1, 1) := by decide +kernel
theorem dX9_mean_14 : decode cX9_mean 14 = .ok (.iload_n 3, 1) := by decide +kernel
theorem dX9_mean_15 : decode cX9_mean 15 = .ok (.invokevirtual 21, 3) := by decide +kernel
theorem dX9_mean_18 : decode cX9_mean 18 = .ok (.imul, 1) := by decide +kernel
theorem dX9_mean_19 : decode cX9_mean 19 = .ok (.iadd, 1) := by decide +kernel
theorem dX9_mean_20 : decode cX9_mean 20 = .ok (.istore_n 2, 1) := by decide +kernel
theorem dX9_mean_21 : decode cX9_mean 21 = .ok (.iinc 3 1, 3) := by decide +kernel
theorem dX9_mean_24 : decode cX9_mean 24 = .ok (.goto (-20), 3) := by decide +kernel
theorem dX9_mean_27 : decode cX9_mean 27 = .ok (.iload_n 2, 1) := by decide +kernel
theorem dX9_mean_28 : decode cX9_mean 28 = .ok (.ireturn, 1) := by decide +kernel
theorem dX9_shades_0 : decode cX9_shades 0 = .ok (.iconst 0, 1) := by decide +kernel
theorem dX9_shades_1 : decode cX9_shades 1 = .ok (.istore_n 2, 1) := by decide +kernel
theorem dX9_shades_2 : decode cX9_shades 2 = .ok (.iconst 0, 1) := by decide +kernel
theorem dX9_shades_3 : decode cX9_shades 3 = .ok (.istore_n 3, 1) := by decide +kernel
theorem dX9_shades_4 : decode cX9_shades 4 = .ok (.iload_n 3, 1) := by decide +kernel
theorem dX9_shades_5 : decode cX9_shades 5 = .ok (.bipush 16, 2) := by decide +kernel
theorem dX9_shades_7 : decode cX9_shades 7 = .ok (.if_icmp .ge 26, 3) := by decide +kernel
theorem dX9_shades_10 : decode cX9_shades 10 = .ok (.iload_n 2, 1) := by decide +kernel
theorem dX9_shades_11 : decode cX9_shades 11 = .ok (.aload_n 0, 1) := by decide +kernel
theorem dX9_shades_12 : decode cX9_shades 12 = .ok (.iload_n 1, 1) := by decide +kernel
theorem dX9_shades_13 : decode cX9_shades 13 = .ok (.iload_n 3, 1) := by decide +kernel
theorem dX9_shades_14 : decode cX9_shades 14 = .ok (.invokevirtual 21, 3) := by decide +kernel
theorem dX9_shades_17 : decode cX9_shades 17 = .ok (.ifCond .le 7, 3) := by decide +kernel
theorem dX9_shades_20 : decode cX9_shades 20 = .ok (.iconst 1, 1) := by decide +kernel
theorem dX9_shades_21 : decode cX9_shades 21 = .ok (.goto 4, 3) := by decide +kernel
theorem dX9_shades_24 : decode cX9_shades 24 = .ok (.iconst 0, 1) := by decide +kernel
theorem dX9_shades_25 : decode cX9_shades 25 = .ok (.iadd, 1) := by decide +kernel
theorem dX9_shades_26 : decode cX9_shades 26 = .ok (.istore_n 2, 1) := by decide +kernel
theorem dX9_shades_27 : decode cX9_shades 27 = .ok (.iinc 3 1, 3) := by decide +kernel
theorem dX9_shades_30 : decode cX9_shades 30 = .ok (.goto (-26), 3) := by decide +kernel
theorem dX9_shades_33 : decode cX9_shades 33 = .ok (.iload_n 2, 1) := by decide +kernel
theorem dX9_shades_34 : decode cX9_shades 34 = .ok (.ireturn, 1) := by decide +kernel
theorem dX9_gap_0 : decode cX9_gap 0 = .ok (.iconst 0, 1) := by decide +kernel
theorem dX9_gap_1 : decode cX9_gap 1 = .ok (.istore_n 3, 1) := by decide +kernel
theorem dX9_gap_2 : decode cX9_gap 2 = .ok (.iconst 0, 1) := by decide +kernel
theorem dX9_gap_3 : decode cX9_gap 3 = .ok (.istore 4, 2) := by decide +kernel
theorem dX9_gap_5 : decode cX9_gap 5 = .ok (.iload 4, 2) := by decide +kernel
theorem dX9_gap_7 : decode cX9_gap 7 = .ok (.bipush 16, 2) := by decide +kernel
theorem dX9_gap_9 : decode cX9_gap 9 = .ok (.if_icmp .ge 52, 3) := by decide +kernel
theorem dX9_gap_12 : decode cX9_gap 12 = .ok (.aload_n 0, 1) := by decide +kernel
theorem dX9_gap_13 : decode cX9_gap 13 = .ok (.getfield 9, 3) := by decide +kernel
theorem dX9_gap_16 : decode cX9_gap 16 = .ok (.iload_n 1, 1) := by decide +kernel
theorem dX9_gap_17 : decode cX9_gap 17 = .ok (.bipush 16, 2) := by decide +kernel
theorem dX9_gap_19 : decode cX9_gap 19 = .ok (.imul, 1) := by decide +kernel
theorem dX9_gap_20 : decode cX9_gap 20 = .ok (.iload 4, 2) := by decide +kernel
theorem dX9_gap_22 : decode cX9_gap 22 = .ok (.iadd, 1) := by decide +kernel
theorem dX9_gap_23 : decode cX9_gap 23 = .ok (.iaload, 1) := by decide +kernel
theorem dX9_gap_24 : decode cX9_gap 24 = .ok (.aload_n 0, 1) := by decide +kernel
theorem dX9_gap_25 : decode cX9_gap 25 = .ok (.getfield 9, 3) := by decide +kernel
theorem dX9_gap_28 : decode cX9_gap 28 = .ok (.iload_n 2, 1) := by decide +kernel
theorem dX9_gap_29 : decode cX9_gap 29 = .ok (.bipush 16, 2) := by decide +kernel
theorem dX9_gap_31 : decode cX9_gap 31 = .ok (.imul, 1) := by decide +kernel
theorem dX9_gap_32 : decode cX9_gap 32 = .ok (.iload 4, 2) := by decide +kernel
theorem dX9_gap_34 : decode cX9_gap 34 = .ok (.iadd, 1) := by decide +kernel
theorem dX9_gap_35 : decode cX9_gap 35 = .ok (.iaload, 1) := by decide +kernel
theorem dX9_gap_36 : decode cX9_gap 36 = .ok (.isub, 1) := by decide +kernel
theorem dX9_gap_37 : decode cX9_gap 37 = .ok (.istore 5, 2) := by decide +kernel
theorem dX9_gap_39 : decode cX9_gap 39 = .ok (.iload_n 3, 1) := by decide +kernel
theorem dX9_gap_40 : decode cX9_gap 40 = .ok (.iload 5, 2) := by decide +kernel
theorem dX9_gap_42 : decode cX9_gap 42 = .ok (.ifCond .ge 9, 3) := by decide +kernel
theorem dX9_gap_45 : decode cX9_gap 45 = .ok (.iload 5, 2) := by decide +kernel
theorem dX9_gap_47 : decode cX9_gap 47 = .ok (.ineg, 1) := by decide +kernel
theorem dX9_gap_48 : decode cX9_gap 48 = .ok (.goto 5, 3) := by decide +kernel
theorem dX9_gap_51 : decode cX9_gap 51 = .ok (.iload 5, 2) := by decide +kernel
theorem dX9_gap_53 : decode cX9_gap 53 = .ok (.iadd, 1) := by decide +kernel
theorem dX9_gap_54 : decode cX9_gap 54 = .ok (.istore_n 3, 1) := by decide +kernel
theorem dX9_gap_55 : decode cX9_gap 55 = .ok (.iinc 4 1, 3) := by decide +kernel
theorem dX9_gap_58 : decode cX9_gap 58 = .ok (.goto (-53), 3) := by decide +kernel
theorem dX9_gap_61 : decode cX9_gap 61 = .ok (.iload_n 3, 1) := by decide +kernel
theorem dX9_gap_62 : decode cX9_gap 62 = .ok (.ireturn, 1) := by decide +kernel
theorem dX9_isNew_0 : decode cX9_isNew 0 = .ok (.iconst 0, 1) := by decide +kernel
theorem dX9_isNew_1 : decode cX9_isNew 1 = .ok (.istore_n 2, 1) := by decide +kernel
theorem dX9_isNew_2 : decode cX9_isNew 2 = .ok (.iload_n 2, 1) := by decide +kernel
theorem dX9_isNew_3 : decode cX9_isNew 3 = .ok (.iload_n 1, 1) := by decide +kernel
theorem dX9_isNew_4 : decode cX9_isNew 4 = .ok (.if_icmp .ge 20, 3) := by decide +kernel
theorem dX9_isNew_7 : decode cX9_isNew 7 = .ok (.aload_n 0, 1) := by decide +kernel
theorem dX9_isNew_8 : decode cX9_isNew 8 = .ok (.iload_n 2, 1) := by decide +kernel
theorem dX9_isNew_9 : decode cX9_isNew 9 = .ok (.iload_n 1, 1) := by decide +kernel
theorem dX9_isNew_10 : decode cX9_isNew 10 = .ok (.invokevirtual 25, 3) := by decide +kernel
theorem dX9_isNew_13 : decode cX9_isNew 13 = .ok (.ifCond .ne 5, 3) := by decide +kernel
theorem dX9_isNew_16 : decode cX9_isNew 16 = .ok (.iconst 0, 1) := by decide +kernel
theorem dX9_isNew_17 : decode cX9_isNew 17 = .ok (.ireturn, 1) := by decide +kernel
theorem dX9_isNew_18 : decode cX9_isNew 18 = .ok (.iinc 2 1, 3) := by decide +kernel
theorem dX9_isNew_21 : decode cX9_isNew 21 = .ok (.goto (-19), 3) := by decide +kernel
theorem dX9_isNew_24 : decode cX9_isNew 24 = .ok (.iconst 1, 1) := by decide +kernel
theorem dX9_isNew_25 : decode cX9_isNew 25 = .ok (.ireturn, 1) := by decide +kernel
theorem dX11_init_0 : decode cX11_init 0 = .ok (.aload_n 0, 1) := by decide +kernel
theorem dX11_init_1 : decode cX11_init 1 = .ok (.invokespecial 1, 3) := by decide +kernel
theorem dX11_init_4 : decode cX11_init 4 = .ok (.aload_n 0, 1) := by decide +kernel
theorem dX11_init_5 : decode cX11_init 5 = .ok (.new 7, 3) := by decide +kernel
theorem dX11_init_8 : decode cX11_init 8 = .ok (.dup, 1) := by decide +kernel
theorem dX11_init_9 : decode cX11_init 9 = .ok (.invokespecial 9, 3) := by decide +kernel
theorem dX11_init_12 : decode cX11_init 12 = .ok (.putfield 10, 3) := by decide +kernel
theorem dX11_init_15 : decode cX11_init 15 = .ok (.aload_n 0, 1) := by decide +kernel
theorem dX11_init_16 : decode cX11_init 16 = .ok (.new 16, 3) := by decide +kernel
theorem dX11_init_19 : decode cX11_init 19 = .ok (.dup, 1) := by decide +kernel
theorem dX11_init_20 : decode cX11_init 20 = .ok (.invokespecial 18, 3) := by decide +kernel
theorem dX11_init_23 : decode cX11_init 23 = .ok (.putfield 19, 3) := by decide +kernel
theorem dX11_init_26 : decode cX11_init 26 = .ok (.aload_n 0, 1) := by decide +kernel
theorem dX11_init_27 : decode cX11_init 27 = .ok (.new 23, 3) := by decide +kernel
theorem dX11_init_30 : decode cX11_init 30 = .ok (.dup, 1) := by decide +kernel
theorem dX11_init_31 : decode cX11_init 31 = .ok (.invokespecial 25, 3) := by decide +kernel
theorem dX11_init_34 : decode cX11_init 34 = .ok (.putfield 26, 3) := by decide +kernel
theorem dX11_init_37 : decode cX11_init 37 = .ok (.aload_n 0, 1) := by decide +kernel
theorem dX11_init_38 : decode cX11_init 38 = .ok (.new 30, 3) := by decide +kernel
theorem dX11_init_41 : decode cX11_init 41 = .ok (.dup, 1) := by decide +kernel
theorem dX11_init_42 : decode cX11_init 42 = .ok (.invokespecial 32, 3) := by decide +kernel
theorem dX11_init_45 : decode cX11_init 45 = .ok (.putfield 33, 3) := by decide +kernel
theorem dX11_init_48 : decode cX11_init 48 = .ok (.aload_n 0, 1) := by decide +kernel
theorem dX11_init_49 : decode cX11_init 49 = .ok (.new 7, 3) := by decide +kernel
theorem dX11_init_52 : decode cX11_init 52 = .ok (.dup, 1) := by decide +kernel
theorem dX11_init_53 : decode cX11_init 53 = .ok (.invokespecial 9, 3) := by decide +kernel
theorem dX11_init_56 : decode cX11_init 56 = .ok (.putfield 37, 3) := by decide +kernel
theorem dX11_init_59 : decode cX11_init 59 = .ok (.aload_n 0, 1) := by decide +kernel
theorem dX11_init_60 : decode cX11_init 60 = .ok (.new 16, 3) := by decide +kernel
theorem dX11_init_63 : decode cX11_init 63 = .ok (.dup, 1) := by decide +kernel
theorem dX11_init_64 : decode cX11_init 64 = .ok (.invokespecial 18, 3) := by decide +kernel
theorem dX11_init_67 : decode cX11_init 67 = .ok (.putfield 40, 3) := by decide +kernel
theorem dX11_init_70 : decode cX11_init 70 = .ok (.aload_n 0, 1) := by decide +kernel
theorem dX11_init_71 : decode cX11_init 71 = .ok (.new 43, 3) := by decide +kernel
theorem dX11_init_74 : decode cX11_init 74 = .ok (.dup, 1) := by decide +kernel
theorem dX11_init_75 : decode cX11_init 75 = .ok (.invokespecial 45, 3) := by decide +kernel
theorem dX11_init_78 : decode cX11_init 78 = .ok (.putfield 46, 3) := by decide +kernel
theorem dX11_init_81 : decode cX11_init 81 = .ok (.aload_n 0, 1) := by decide +kernel
theorem dX11_init_82 : decode cX11_init 82 = .ok (.new 50, 3) := by decide +kernel
theorem dX11_init_85 : decode cX11_init 85 = .ok (.dup, 1) := by decide +kernel
theorem dX11_init_86 : decode cX11_init 86 = .ok (.invokespecial 52, 3) := by decide +kernel
theorem dX11_init_89 : decode cX11_init 89 = .ok (.putfield 53, 3) := by decide +kernel
theorem dX11_init_92 : decode cX11_init 92 = .ok (.aload_n 0, 1) := by decide +kernel
theorem dX11_init_93 : decode cX11_init 93 = .ok (.new 57, 3) := by decide +kernel
theorem dX11_init_96 : decode cX11_init 96 = .ok (.dup, 1) := by decide +kernel
theorem dX11_init_97 : decode cX11_init 97 = .ok (.invokespecial 59, 3) := by decide +kernel
theorem dX11_init_100 : decode cX11_init 100 = .ok (.putfield 60, 3) := by decide +kernel
theorem dX11_init_103 : decode cX11_init 103 = .ok (.return_, 1) := by decide +kernel
theorem dX11_feed_0 : decode cX11_feed 0 = .ok (.aload_n 0, 1) := by decide +kernel
theorem dX11_feed_1 : decode cX11_feed 1 = .ok (.getfield 26, 3) := by decide +kernel
theorem dX11_feed_4 : decode cX11_feed 4 = .ok (.getfield 64, 3) := by decide +kernel
theorem dX11_feed_7 : decode cX11_feed 7 = .ok (.bipush 20, 2) := by decide +kernel
theorem dX11_feed_9 : decode cX11_feed 9 = .ok (.iadd, 1) := by decide +kernel
theorem dX11_feed_10 : decode cX11_feed 10 = .ok (.sipush 900, 3) := by decide +kernel
theorem dX11_feed_13 : decode cX11_feed 13 = .ok (.if_icmp .le 6, 3) := by decide +kernel
theorem dX11_feed_16 : decode cX11_feed 16 = .ok (.bipush (-4), 2) := by decide +kernel
theorem dX11_feed_18 : decode cX11_feed 18 = .ok (.ireturn, 1) := by decide +kernel
theorem dX11_feed_19 : decode cX11_feed 19 = .ok (.aload_n 0, 1) := by decide +kernel
theorem dX11_feed_20 : decode cX11_feed 20 = .ok (.getfield 26, 3) := by decide +kernel
theorem dX11_feed_23 : decode cX11_feed 23 = .ok (.iload_n 1, 1) := by decide +kernel
theorem dX11_feed_24 : decode cX11_feed 24 = .ok (.invokevirtual 68, 3) := by decide +kernel
theorem dX11_feed_27 : decode cX11_feed 27 = .ok (.aload_n 0, 1) := by decide +kernel
theorem dX11_feed_28 : decode cX11_feed 28 = .ok (.getfield 26, 3) := by decide +kernel
theorem dX11_feed_31 : decode cX11_feed 31 = .ok (.iload_n 2, 1) := by decide +kernel
theorem dX11_feed_32 : decode cX11_feed 32 = .ok (.invokevirtual 68, 3) := by decide +kernel
theorem dX11_feed_35 : decode cX11_feed 35 = .ok (.aload_n 0, 1) := by decide +kernel
theorem dX11_feed_36 : decode cX11_feed 36 = .ok (.getfield 26, 3) := by decide +kernel
theorem dX11_feed_39 : decode cX11_feed 39 = .ok (.iload_n 3, 1) := by decide +kernel
theorem dX11_feed_40 : decode cX11_feed 40 = .ok (.invokevirtual 68, 3) := by decide +kernel
theorem dX11_feed_43 : decode cX11_feed 43 = .ok (.aload_n 0, 1) := by decide +kernel
theorem dX11_feed_44 : decode cX11_feed 44 = .ok (.getfield 26, 3) := by decide +kernel
theorem dX11_feed_47 : decode cX11_feed 47 = .ok (.iload 4, 2) := by decide +kernel
theorem dX11_feed_49 : decode cX11_feed 49 = .ok (.invokevirtual 68, 3) := by decide +kernel
theorem dX11_feed_52 : decode cX11_feed 52 = .ok (.aload_n 0, 1) := by decide +kernel
theorem dX11_feed_53 : decode cX11_feed 53 = .ok (.getfield 26, 3) := by decide +kernel
theorem dX11_feed_56 : decode cX11_feed 56 = .ok (.iload 5, 2) := by decide +kernel
theorem dX11_feed_58 : decode cX11_feed 58 = .ok (.invokevirtual 68, 3) := by decide +kernel
theorem dX11_feed_61 : decode cX11_feed 61 = .ok (.aload_n 0, 1) := by decide +kernel
theorem dX11_feed_62 : decode cX11_feed 62 = .ok (.getfield 26, 3) := by decide +kernel
theorem dX11_feed_65 : decode cX11_feed 65 = .ok (.getfield 64, 3) := by decide +kernel
theorem dX11_feed_68 : decode cX11_feed 68 = .ok (.ireturn, 1) := by decide +kernel
theorem dX11_tell_0 : decode cX11_tell 0 = .ok (.iload_n 1, 1) := by decide +kernel
theorem dX11_tell_1 : decode cX11_tell 1 = .ok (.ifCond .lt 14, 3) := by decide +kernel
theorem dX11_tell_4 : decode cX11_tell 4 = .ok (.iload_n 1, 1) := by decide +kernel
theorem dX11_tell_5 : decode cX11_tell 5 = .ok (.aload_n 0, 1) := by decide +kernel
theorem dX11_tell_6 : decode cX11_tell 6 = .ok (.getfield 26, 3) := by decide +kernel
theorem dX11_tell_9 : decode cX11_tell 9 = .ok (.getfield 64, 3) := by decide +kernel
theorem dX11_tell_12 : decode cX11_tell 12 = .ok (.if_icmp .le 6, 3) := by decide +kernel
theorem dX11_tell_15 : decode cX11_tell 15 = .ok (.bipush (-3), 2) := by decide +kernel
theorem dX11_tell_17 : decode cX11_tell 17 = .ok (.ireturn, 1) := by decide +kernel
theorem dX11_tell_18 : decode cX11_tell 18 = .ok (.aload_n 0, 1) := by decide +kernel
theorem dX11_tell_19 : decode cX11_tell 19 = .ok (.getfield 26, 3) := by decide +kernel
theorem dX11_tell_22 : decode cX11_tell 22 = .ok (.iload_n 1, 1) := by decide +kernel
theorem dX11_tell_23 : decode cX11_tell 23 = .ok (.invokevirtual 72, 3) := by decide +kernel
theorem dX11_tell_26 : decode cX11_tell 26 = .ok (.aload_n 0, 1) := by decide +kernel
theorem dX11_tell_27 : decode cX11_tell 27 = .ok (.getfield 26, 3) := by decide +kernel
theorem dX11_tell_30 : decode cX11_tell 30 = .ok (.getfield 75, 3) := by decide +kernel
theorem dX11_tell_33 : decode cX11_tell 33 = .ok (.ifCond .eq 14, 3) := by decide +kernel
theorem dX11_tell_36 : decode cX11_tell 36 = .ok (.bipush (-30), 2) := by decide +kernel
theorem dX11_tell_38 : decode cX11_tell 38 = .ok (.aload_n 0, 1) := by decide +kernel
theorem dX11_tell_39 : decode cX11_tell 39 = .ok (.getfield 26, 3) := by decide +kernel
theorem dX11_tell_42 : decode cX11_tell 42 = .ok (.getfield 75, 3) := by decide +kernel
theorem dX11_tell_45 : decode cX11_tell 45 = .ok (.isub, 1) := by decide +kernel
theorem dX11_tell_46 : decode cX11_tell 46 = .ok (.ireturn, 1) := by decide +kernel
theorem dX11_tell_47 : decode cX11_tell 47 = .ok (.aload_n 0, 1) := by decide +kernel
theorem dX11_tell_48 : decode cX11_tell 48 = .ok (.getfield 10, 3) := by decide +kernel
theorem dX11_tell_51 : decode cX11_tell 51 = .ok (.aload_n 0, 1) := by decide +kernel
theorem dX11_tell_52 : decode cX11_tell 52 = .ok (.getfield 26, 3) := by decide +kernel
theorem dX11_tell_55 : decode cX11_tell 55 = .ok (.getfield 78, 3) := by decide +kernel
theorem dX11_tell_58 : decode cX11_tell 58 = .ok (.invokevirtual 79, 3) := by decide +kernel
theorem dX11_tell_61 : decode cX11_tell 61 = .ok (.aload_n 0, 1) := by decide +kernel
theorem dX11_tell_62 : decode cX11_tell 62 = .ok (.getfield 33, 3) := by decide +kernel
theorem dX11_tell_65 : decode cX11_tell 65 = .ok (.iconst 0, 1) := by decide +kernel
theorem dX11_tell_66 : decode cX11_tell 66 = .ok (.putfield 83, 3) := by decide +kernel
theorem dX11_tell_69 : decode cX11_tell 69 = .ok (.aload_n 0, 1) := by decide +kernel
theorem dX11_tell_70 : decode cX11_tell 70 = .ok (.invokevirtual 86, 3) := by decide +kernel
theorem dX11_tell_73 : decode cX11_tell 73 = .ok (.aload_n 0, 1) := by decide +kernel
theorem dX11_tell_74 : decode cX11_tell 74 = .ok (.getfield 10, 3) := by decide +kernel
theorem dX11_tell_77 : decode cX11_tell 77 = .ok (.getfield 89, 3) := by decide +kernel
theorem dX11_tell_80 : decode cX11_tell 80 = .ok (.ireturn, 1) := by decide +kernel
theorem dX11_fault_0 : decode cX11_fault 0 = .ok (.iload_n 1, 1) := by decide +kernel
theorem dX11_fault_1 : decode cX11_fault 1 = .ok (.lookupswitch 43 #[(0, 27), (1, 35)], 27) := by decide +kernel
theorem dX11_fault_28 : decode cX11_fault 28 = .ok (.aload_n 0, 1) := by decide +kernel
theorem dX11_fault_29 : decode cX11_fault 29 = .ok (.getfield 26, 3) := by decide +kernel
theorem dX11_fault_32 : decode cX11_fault 32 = .ok (.getfield 75, 3) := by decide +kernel
theorem dX11_fault_35 : decode cX11_fault 35 = .ok (.ireturn, 1) := by decide +kernel
theorem dX11_fault_36 : decode cX11_fault 36 = .ok (.aload_n 0, 1) := by decide +kernel
theorem dX11_fault_37 : decode cX11_fault 37 = .ok (.getfield 26, 3) := by decide +kernel
theorem dX11_fault_40 : decode cX11_fault 40 = .ok (.getfield 92, 3) := by decide +kernel
theorem dX11_fault_43 : decode cX11_fault 43 = .ok (.ireturn, 1) := by decide +kernel
theorem dX11_fault_44 : decode cX11_fault 44 = .ok (.iconst (-1), 1) := by decide +kernel
theorem dX11_fault_45 : decode cX11_fault 45 = .ok (.ireturn, 1) := by decide +kernel
theorem dX11_set_0 : decode cX11_set 0 = .ok (.iload_n 1, 1) := by decide +kernel
theorem dX11_set_1 : decode cX11_set 1 = .ok (.invokestatic 95, 3) := by decide +kernel
theorem dX11_set_4 : decode cX11_set 4 = .ok (.ifCond .ne 6, 3) := by decide +kernel
theorem dX11_set_7 : decode cX11_set 7 = .ok (.bipush (-2), 2) := by decide +kernel
theorem dX11_set_9 : decode cX11_set 9 = .ok (.ireturn, 1) := by decide +kernel
theorem dX11_set_10 : decode cX11_set 10 = .ok (.aload_n 0, 1) := by decide +kernel
theorem dX11_set_11 : decode cX11_set 11 = .ok (.getfield 10, 3) := by decide +kernel
theorem dX11_set_14 : decode cX11_set 14 = .ok (.iload_n 1, 1) := by decide +kernel
theorem dX11_set_15 : decode cX11_set 15 = .ok (.iload_n 2, 1) := by decide +kernel
theorem dX11_set_16 : decode cX11_set 16 = .ok (.invokevirtual 99, 3) := by decide +kernel
theorem dX11_set_19 : decode cX11_set 19 = .ok (.ifCond .ne 6, 3) := by decide +kernel
theorem dX11_set_22 : decode cX11_set 22 = .ok (.bipush (-3), 2) := by decide +kernel
theorem dX11_set_24 : decode cX11_set 24 = .ok (.ireturn, 1) := by decide +kernel
theorem dX11_set_25 : decode cX11_set 25 = .ok (.aload_n 0, 1) := by decide +kernel
theorem dX11_set_26 : decode cX11_set 26 = .ok (.getfield 10, 3) := by decide +kernel
theorem dX11_set_29 : decode cX11_set 29 = .ok (.getfield 103, 3) := by decide +kernel
theorem dX11_set_32 : decode cX11_set 32 = .ok (.iload_n 1, 1) := by decide +kernel
theorem dX11_set_33 : decode cX11_set 33 = .ok (.iaload, 1) := by decide +kernel
theorem dX11_set_34 : decode cX11_set 34 = .ok (.istore_n 3, 1) := by decide +kernel
theorem dX11_set_35 : decode cX11_set 35 = .ok (.aload_n 0, 1) := by decide +kernel
theorem dX11_set_36 : decode cX11_set 36 = .ok (.invokevirtual 107, 3) := by decide +kernel
theorem dX11_set_39 : decode cX11_set 39 = .ok (.aload_n 0, 1) := by decide +kernel
theorem dX11_set_40 : decode cX11_set 40 = .ok (.getfield 10, 3) := by decide +kernel
theorem dX11_set_43 : decode cX11_set 43 = .ok (.getfield 103, 3) := by decide +kernel
theorem dX11_set_46 : decode cX11_set 46 = .ok (.iload_n 1, 1) := by decide +kernel
theorem dX11_set_47 : decode cX11_set 47 = .ok (.iload_n 2, 1) := by decide +kernel
theorem dX11_set_48 : decode cX11_set 48 = .ok (.iastore, 1) := by decide +kernel
theorem dX11_set_49 : decode cX11_set 49 = .ok (.iload_n 3, 1) := by decide +kernel
theorem dX11_set_50 : decode cX11_set 50 = .ok (.ireturn, 1) := by decide +kernel
theorem dX11_weight_0 : decode cX11_weight 0 = .ok (.iload_n 1, 1) := by decide +kernel
theorem dX11_weight_1 : decode cX11_weight 1 = .ok (.ifCond .lt 8, 3) := by decide +kernel
theorem dX11_weight_4 : decode cX11_weight 4 = .ok (.iload_n 1, 1) := by decide +kernel
theorem dX11_weight_5 : decode cX11_weight 5 = .ok (.iconst 4, 1) := by decide +kernel
theorem dX11_weight_6 : decode cX11_weight 6 = .ok (.if_icmp .lt 6, 3) := by decide +kernel
theorem dX11_weight_9 : decode cX11_weight 9 = .ok (.bipush (-2), 2) := by decide +kernel
theorem dX11_weight_11 : decode cX11_weight 11 = .ok (.ireturn, 1) := by decide +kernel
theorem dX11_weight_12 : decode cX11_weight 12 = .ok (.iload_n 2, 1) := by decide +kernel
theorem dX11_weight_13 : decode cX11_weight 13 = .ok (.iconst 1, 1) := by decide +kernel
theorem dX11_weight_14 : decode cX11_weight 14 = .ok (.if_icmp .lt 9, 3) := by decide +kernel
theorem dX11_weight_17 : decode cX11_weight 17 = .ok (.iload_n 2, 1) := by decide +kernel
theorem dX11_weight_18 : decode cX11_weight 18 = .ok (.bipush 9, 2) := by decide +kernel
theorem dX11_weight_20 : decode cX11_weight 20 = .ok (.if_icmp .le 6, 3) := by decide +kernel
theorem dX11_weight_23 : decode cX11_weight 23 = .ok (.bipush (-3), 2) := by decide +kernel
theorem dX11_weight_25 : decode cX11_weight 25 = .ok (.ireturn, 1) := by decide +kernel
theorem dX11_weight_26 : decode cX11_weight 26 = .ok (.aload_n 0, 1) := by decide +kernel
theorem dX11_weight_27 : decode cX11_weight 27 = .ok (.getfield 10, 3) := by decide +kernel
theorem dX11_weight_30 : decode cX11_weight 30 = .ok (.getfield 110, 3) := by decide +kernel
theorem dX11_weight_33 : decode cX11_weight 33 = .ok (.iload_n 1, 1) := by decide +kernel
theorem dX11_weight_34 : decode cX11_weight 34 = .ok (.iaload, 1) := by decide +kernel
theorem dX11_weight_35 : decode cX11_weight 35 = .ok (.istore_n 3, 1) := by decide +kernel
theorem dX11_weight_36 : decode cX11_weight 36 = .ok (.aload_n 0, 1) := by decide +kernel
theorem dX11_weight_37 : decode cX11_weight 37 = .ok (.invokevirtual 107, 3) := by decide +kernel
theorem dX11_weight_40 : decode cX11_weight 40 = .ok (.aload_n 0, 1) := by decide +kernel
theorem dX11_weight_41 : decode cX11_weight 41 = .ok (.getfield 10, 3) := by decide +kernel
theorem dX11_weight_44 : decode cX11_weight 44 = .ok (.getfield 110, 3) := by decide +kernel
theorem dX11_weight_47 : decode cX11_weight 47 = .ok (.iload_n 1, 1) := by decide +kernel
theorem dX11_weight_48 : decode cX11_weight 48 = .ok (.iload_n 2, 1) := by decide +kernel
theorem dX11_weight_49 : decode cX11_weight 49 = .ok (.iastore, 1) := by decide +kernel
theorem dX11_weight_50 : decode cX11_weight 50 = .ok (.iload_n 3, 1) := by decide +kernel
theorem dX11_weight_51 : decode cX11_weight 51 = .ok (.ireturn, 1) := by decide +kernel
theorem dX11_cut_0 : decode cX11_cut 0 = .ok (.iload_n 1, 1) := by decide +kernel
theorem dX11_cut_1 : decode cX11_cut 1 = .ok (.ifCond .eq 14, 3) := by decide +kernel
theorem dX11_cut_4 : decode cX11_cut 4 = .ok (.aload_n 0, 1) := by decide +kernel
theorem dX11_cut_5 : decode cX11_cut 5 = .ok (.getfield 10, 3) := by decide +kernel
theorem dX11_cut_8 : decode cX11_cut 8 = .ok (.iload_n 1, 1) := by decide +kernel
theorem dX11_cut_9 : decode cX11_cut 9 = .ok (.invokevirtual 113, 3) := by decide +kernel
theorem dX11_cut_12 : decode cX11_cut 12 = .ok (.ifCond .ne 6, 3) := by decide +kernel
theorem dX11_cut_15 : decode cX11_cut 15 = .ok (.bipush (-2), 2) := by decide +kernel
theorem dX11_cut_17 : decode cX11_cut 17 = .ok (.ireturn, 1) := by decide +kernel
theorem dX11_cut_18 : decode cX11_cut 18 = .ok (.aload_n 0, 1) := by decide +kernel
theorem dX11_cut_19 : decode cX11_cut 19 = .ok (.invokevirtual 107, 3) := by decide +kernel
theorem dX11_cut_22 : decode cX11_cut 22 = .ok (.aload_n 0, 1) := by decide +kernel
theorem dX11_cut_23 : decode cX11_cut 23 = .ok (.getfield 10, 3) := by decide +kernel
theorem dX11_cut_26 : decode cX11_cut 26 = .ok (.getfield 116, 3) := by decide +kernel
theorem dX11_cut_29 : decode cX11_cut 29 = .ok (.iload_n 1, 1) := by decide +kernel
theorem dX11_cut_30 : decode cX11_cut 30 = .ok (.iconst 1, 1) := by decide +kernel
theorem dX11_cut_31 : decode cX11_cut 31 = .ok (.aload_n 0, 1) := by decide +kernel
theorem dX11_cut_32 : decode cX11_cut 32 = .ok (.getfield 10, 3) := by decide +kernel
theorem dX11_cut_35 : decode cX11_cut 35 = .ok (.getfield 116, 3) := by decide +kernel
theorem dX11_cut_38 : decode cX11_cut 38 = .ok (.iload_n 1, 1) := by decide +kernel
theorem dX11_cut_39 : decode cX11_cut 39 = .ok (.iaload, 1) := by decide +kernel
theorem dX11_cut_40 : decode cX11_cut 40 = .ok (.isub, 1) := by decide +kernel
theorem dX11_cut_41 : decode cX11_cut 41 = .ok (.iastore, 1) := by decide +kernel
theorem dX11_cut_42 : decode cX11_cut 42 = .ok (.aload_n 0, 1) := by decide +kernel
theorem dX11_cut_43 : decode cX11_cut 43 = .ok (.invokevirtual 119, 3) := by decide +kernel
theorem dX11_cut_46 : decode cX11_cut 46 = .ok (.getfield 123, 3) := by decide +kernel
theorem dX11_cut_49 : decode cX11_cut 49 = .ok (.getfield 127, 3) := by decide +kernel
theorem dX11_cut_52 : decode cX11_cut 52 = .ok (.ireturn, 1) := by decide +kernel
theorem dX11_skip_0 : decode cX11_skip 0 = .ok (.aload_n 0, 1) := by decide +kernel
theorem dX11_skip_1 : decode cX11_skip 1 = .ok (.getfield 10, 3) := by decide +kernel
theorem dX11_skip_4 : decode cX11_skip 4 = .ok (.iload_n 1, 1) := by decide +kernel
theorem dX11_skip_5 : decode cX11_skip 5 = .ok (.invokevirtual 113, 3) := by decide +kernel
theorem dX11_skip_8 : decode cX11_skip 8 = .ok (.ifCond .ne 6, 3) := by decide +kernel
theorem dX11_skip_11 : decode cX11_skip 11 = .ok (.bipush (-2), 2) := by decide +kernel
theorem dX11_skip_13 : decode cX11_skip 13 = .ok (.ireturn, 1) := by decide +kernel
theorem dX11_skip_14 : decode cX11_skip 14 = .ok (.aload_n 0, 1) := by decide +kernel
theorem dX11_skip_15 : decode cX11_skip 15 = .ok (.invokevirtual 107, 3) := by decide +kernel
theorem dX11_skip_18 : decode cX11_skip 18 = .ok (.aload_n 0, 1) := by decide +kernel
theorem dX11_skip_19 : decode cX11_skip 19 = .ok (.getfield 10, 3) := by decide +kernel
theorem dX11_skip_22 : decode cX11_skip 22 = .ok (.getfield 130, 3) := by decide +kernel
theorem dX11_skip_25 : decode cX11_skip 25 = .ok (.iload_n 1, 1) := by decide +kernel
theorem dX11_skip_26 : decode cX11_skip 26 = .ok (.iconst 1, 1) := by decide +kernel
theorem dX11_skip_27 : decode cX11_skip 27 = .ok (.aload_n 0, 1) := by decide +kernel
theorem dX11_skip_28 : decode cX11_skip 28 = .ok (.getfield 10, 3) := by decide +kernel
theorem dX11_skip_31 : decode cX11_skip 31 = .ok (.getfield 130, 3) := by decide +kernel
theorem dX11_skip_34 : decode cX11_skip 34 = .ok (.iload_n 1, 1) := by decide +kernel
theorem dX11_skip_35 : decode cX11_skip 35 = .ok (.iaload, 1) := by decide +kernel
theorem dX11_skip_36 : decode cX11_skip 36 = .ok (.isub, 1) := by decide +kernel
theorem dX11_skip_37 : decode cX11_skip 37 = .ok (.iastore, 1) := by decide +kernel
theorem dX11_skip_38 : decode cX11_skip 38 = .ok (.aload_n 0, 1) := by decide +kernel
theorem dX11_skip_39 : decode cX11_skip 39 = .ok (.getfield 10, 3) := by decide +kernel
theorem dX11_skip_42 : decode cX11_skip 42 = .ok (.aload_n 0, 1) := by decide +kernel
theorem dX11_skip_43 : decode cX11_skip 43 = .ok (.getfield 10, 3) := by decide +kernel
theorem dX11_skip_46 : decode cX11_skip 46 = .ok (.getfield 130, 3) := by decide +kernel
theorem dX11_skip_49 : decode cX11_skip 49 = .ok (.invokevirtual 133, 3) := by decide +kernel
theorem dX11_skip_52 : decode cX11_skip 52 = .ok (.ireturn, 1) := by decide +kernel
theorem dX11_dot_0 : decode cX11_dot 0 = .ok (.aload_n 0, 1) := by decide +kernel
theorem dX11_dot_1 : decode cX11_dot 1 = .ok (.getfield 10, 3) := by decide +kernel
theorem dX11_dot_4 : decode cX11_dot 4 = .ok (.iload_n 1, 1) := by decide +kernel
theorem dX11_dot_5 : decode cX11_dot 5 = .ok (.invokevirtual 113, 3) := by decide +kernel
theorem dX11_dot_8 : decode cX11_dot 8 = .ok (.ifCond .eq 14, 3) := by decide +kernel
theorem dX11_dot_11 : decode cX11_dot 11 = .ok (.aload_n 0, 1) := by decide +kernel
theorem dX11_dot_12 : decode cX11_dot 12 = .ok (.getfield 10, 3) := by decide +kernel
theorem dX11_dot_15 : decode cX11_dot 15 = .ok (.iload_n 2, 1) := by decide +kernel
theorem dX11_dot_16 : decode cX11_dot 16 = .ok (.invokevirtual 137, 3) := by decide +kernel
theorem dX11_dot_19 : decode cX11_dot 19 = .ok (.ifCond .ne 6, 3) := by decide +kernel
theorem dX11_dot_22 : decode cX11_dot 22 = .ok (.bipush (-2), 2) := by decide +kernel
theorem dX11_dot_24 : decode cX11_dot 24 = .ok (.ireturn, 1) := by decide +kernel
theorem dX11_dot_25 : decode cX11_dot 25 = .ok (.iload_n 3, 1) := by decide +kernel
theorem dX11_dot_26 : decode cX11_dot 26 = .ok (.invokestatic 140, 3) := by decide +kernel
theorem dX11_dot_29 : decode cX11_dot 29 = .ok (.ifCond .ne 6, 3) := by decide +kernel
theorem dX11_dot_32 : decode cX11_dot 32 = .ok (.bipush (-3), 2) := by decide +kernel
theorem dX11_dot_34 : decode cX11_dot 34 = .ok (.ireturn, 1) := by decide +kernel
theorem dX11_dot_35 : decode cX11_dot 35 = .ok (.aload_n 0, 1) := by decide +kernel
theorem dX11_dot_36 : decode cX11_dot 36 = .ok (.getfield 10, 3) := by decide +kernel
theorem dX11_dot_39 : decode cX11_dot 39 = .ok (.getfield 143, 3) := by decide +kernel
theorem dX11_dot_42 : decode cX11_dot 42 = .ok (.iload_n 1, 1) := by decide +kernel
theorem dX11_dot_43 : decode cX11_dot 43 = .ok (.bipush 64, 2) := by decide +kernel
theorem dX11_dot_45 : decode cX11_dot 45 = .ok (.imul, 1) := by decide +kernel
theorem dX11_dot_46 : decode cX11_dot 46 = .ok (.iload_n 2, 1) := by decide +kernel
theorem dX11_dot_47 : decode cX11_dot 47 = .ok (.iadd, 1) := by decide +kernel
theorem dX11_dot_48 : decode cX11_dot 48 = .ok (.iaload, 1) := by decide +kernel
theorem dX11_dot_49 : decode cX11_dot 49 = .ok (.istore 4, 2) := by decide +kernel
theorem dX11_dot_51 : decode cX11_dot 51 = .ok (.aload_n 0, 1) := by decide +kernel
theorem dX11_dot_52 : decode cX11_dot 52 = .ok (.invokevirtual 107, 3) := by decide +kernel
theorem dX11_dot_55 : decode cX11_dot 55 = .ok (.aload_n 0, 1) := by decide +kernel
theorem dX11_dot_56 : decode cX11_dot 56 = .ok (.getfield 10, 3) := by decide +kernel
theorem dX11_dot_59 : decode cX11_dot 59 = .ok (.getfield 143, 3) := by decide +kernel
theorem dX11_dot_62 : decode cX11_dot 62 = .ok (.iload_n 1, 1) := by decide +kernel
theorem dX11_dot_63 : decode cX11_dot 63 = .ok (.bipush 64, 2) := by decide +kernel
theorem dX11_dot_65 : decode cX11_dot 65 = .ok (.imul, 1) := by decide +kernel
theorem dX11_dot_66 : decode cX11_dot 66 = .ok (.iload_n 2, 1) := by decide +kernel
theorem dX11_dot_67 : decode cX11_dot 67 = .ok (.iadd, 1) := by decide +kernel
theorem dX11_dot_68 : decode cX11_dot 68 = .ok (.iload_n 3, 1) := by decide +kernel
theorem dX11_dot_69 : decode cX11_dot 69 = .ok (.iastore, 1) := by decide +kernel
theorem dX11_dot_70 : decode cX11_dot 70 = .ok (.iload 4, 2) := by decide +kernel
theorem dX11_dot_72 : decode cX11_dot 72 = .ok (.ireturn, 1) := by decide +kernel
theorem dX11_take_0 : decode cX11_take 0 = .ok (.aload_n 0, 1) := by decide +kernel
theorem dX11_take_1 : decode cX11_take 1 = .ok (.invokevirtual 146, 3) := by decide +kernel
theorem dX11_take_4 : decode cX11_take 4 = .ok (.astore_n 1, 1) := by decide +kernel
theorem dX11_take_5 : decode cX11_take 5 = .ok (.aload_n 1, 1) := by decide +kernel
theorem dX11_take_6 : decode cX11_take 6 = .ok (.aload_n 0, 1) := by decide +kernel
theorem dX11_take_7 : decode cX11_take 7 = .ok (.getfield 10, 3) := by decide +kernel
theorem dX11_take_10 : decode cX11_take 10 = .ok (.invokevirtual 149, 3) := by decide +kernel
theorem dX11_take_13 : decode cX11_take 13 = .ok (.istore_n 2, 1) := by decide +kernel
theorem dX11_take_14 : decode cX11_take 14 = .ok (.aload_n 0, 1) := by decide +kernel
theorem dX11_take_15 : decode cX11_take 15 = .ok (.invokevirtual 107, 3) := by decide +kernel
theorem dX11_take_18 : decode cX11_take 18 = .ok (.aload_n 0, 1) := by decide +kernel
theorem dX11_take_19 : decode cX11_take 19 = .ok (.getfield 10, 3) := by decide +kernel
theorem dX11_take_22 : decode cX11_take 22 = .ok (.aload_n 1, 1) := by decide +kernel
theorem dX11_take_23 : decode cX11_take 23 = .ok (.getfield 153, 3) := by decide +kernel
theorem dX11_take_26 : decode cX11_take 26 = .ok (.invokevirtual 154, 3) := by decide +kernel
theorem dX11_take_29 : decode cX11_take 29 = .ok (.iload_n 2, 1) := by decide +kernel
theorem dX11_take_30 : decode cX11_take 30 = .ok (.ireturn, 1) := by decide +kernel
theorem dX11_undo_0 : decode cX11_undo 0 = .ok (.aload_n 0, 1) := by decide +kernel
theorem dX11_undo_1 : decode cX11_undo 1 = .ok (.getfield 33, 3) := by decide +kernel
theorem dX11_undo_4 : decode cX11_undo 4 = .ok (.getfield 83, 3) := by decide +kernel
theorem dX11_undo_7 : decode cX11_undo 7 = .ok (.ifCond .ne 6, 3) := by decide +kernel
theorem dX11_undo_10 : decode cX11_undo 10 = .ok (.bipush (-5), 2) := by decide +kernel
theorem dX11_undo_12 : decode cX11_undo 12 = .ok (.ireturn, 1) := by decide +kernel
theorem dX11_undo_13 : decode cX11_undo 13 = .ok (.aload_n 0, 1) := by decide +kernel
theorem dX11_undo_14 : decode cX11_undo 14 = .ok (.getfield 33, 3) := by decide +kernel
theorem dX11_undo_17 : decode cX11_undo 17 = .ok (.aload_n 0, 1) := by decide +kernel
theorem dX11_undo_18 : decode cX11_undo 18 = .ok (.getfield 10, 3) := by decide +kernel
theorem dX11_undo_21 : decode cX11_undo 21 = .ok (.invokevirtual 158, 3) := by decide +kernel
theorem dX11_undo_24 : decode cX11_undo 24 = .ok (.aload_n 0, 1) := by decide +kernel
theorem dX11_undo_25 : decode cX11_undo 25 = .ok (.invokevirtual 86, 3) := by decide +kernel
theorem dX11_undo_28 : decode cX11_undo 28 = .ok (.aload_n 0, 1) := by decide +kernel
theorem dX11_undo_29 : decode cX11_undo 29 = .ok (.getfield 33, 3) := by decide +kernel
theorem dX11_undo_32 : decode cX11_undo 32 = .ok (.getfield 83, 3) := by decide +kernel
theorem dX11_undo_35 : decode cX11_undo 35 = .ok (.ireturn, 1) := by decide +kernel
theorem dX11_shade_0 : decode cX11_shade 0 = .ok (.aload_n 0, 1) := by decide +kernel
theorem dX11_shade_1 : decode cX11_shade 1 = .ok (.getfield 10, 3) := by decide +kernel
theorem dX11_shade_4 : decode cX11_shade 4 = .ok (.iload_n 1, 1) := by decide +kernel
theorem dX11_shade_5 : decode cX11_shade 5 = .ok (.invokevirtual 113, 3) := by decide +kernel
theorem dX11_shade_8 : decode cX11_shade 8 = .ok (.ifCond .eq 14, 3) := by decide +kernel
theorem dX11_shade_11 : decode cX11_shade 11 = .ok (.aload_n 0, 1) := by decide +kernel
theorem dX11_shade_12 : decode cX11_shade 12 = .ok (.getfield 10, 3) := by decide +kernel
theorem dX11_shade_15 : decode cX11_shade 15 = .ok (.iload_n 2, 1) := by decide +kernel
theorem dX11_shade_16 : decode cX11_shade 16 = .ok (.invokevirtual 137, 3) := by decide +kernel
theorem dX11_shade_19 : decode cX11_shade 19 = .ok (.ifCond .ne 13, 3) := by decide +kernel
theorem dX11_shade_22 : decode cX11_shade 22 = .ok (.new 161, 3) := by decide +kernel
theorem dX11_shade_25 : decode cX11_shade 25 = .ok (.dup, 1) := by decide +kernel
theorem dX11_shade_26 : decode cX11_shade 26 = .ok (.ldc 163, 2) := by decide +kernel
theorem dX11_shade_28 : decode cX11_shade 28 = .ok (.invokespecial 165, 3) := by decide +kernel
theorem dX11_shade_31 : decode cX11_shade 31 = .ok (.athrow, 1) := by decide +kernel
theorem dX11_shade_32 : decode cX11_shade 32 = .ok (.iload_n 3, 1) := by decide +kernel
theorem dX11_shade_33 : decode cX11_shade 33 = .ok (.ifCond .eq 13, 3) := by decide +kernel
theorem dX11_shade_36 : decode cX11_shade 36 = .ok (.aload_n 0, 1) := by decide +kernel
theorem dX11_shade_37 : decode cX11_shade 37 = .ok (.invokevirtual 146, 3) := by decide +kernel
theorem dX11_shade_40 : decode cX11_shade 40 = .ok (.getfield 153, 3) := by decide +kernel
theorem dX11_shade_43 : decode cX11_shade 43 = .ok (.goto 10, 3) := by decide +kernel
theorem dX11_shade_46 : decode cX11_shade 46 = .ok (.aload_n 0, 1) := by decide +kernel
theorem dX11_shade_47 : decode cX11_shade 47 = .ok (.getfield 10, 3) := by decide +kernel
theorem dX11_shade_50 : decode cX11_shade 50 = .ok (.getfield 143, 3) := by decide +kernel
theorem dX11_shade_53 : decode cX11_shade 53 = .ok (.astore 4, 2) := by decide +kernel
theorem dX11_shade_55 : decode cX11_shade 55 = .ok (.aload 4, 2) := by decide +kernel
theorem dX11_shade_57 : decode cX11_shade 57 = .ok (.iload_n 1, 1) := by decide +kernel
theorem dX11_shade_58 : decode cX11_shade 58 = .ok (.bipush 64, 2) := by decide +kernel
theorem dX11_shade_60 : decode cX11_shade 60 = .ok (.imul, 1) := by decide +kernel
theorem dX11_shade_61 : decode cX11_shade 61 = .ok (.iload_n 2, 1) := by decide +kernel
theorem dX11_shade_62 : decode cX11_shade 62 = .ok (.iadd, 1) := by decide +kernel
theorem dX11_shade_63 : decode cX11_shade 63 = .ok (.iaload, 1) := by decide +kernel
theorem dX11_shade_64 : decode cX11_shade 64 = .ok (.ireturn, 1) := by decide +kernel
theorem dX11_level_0 : decode cX11_level 0 = .ok (.aload_n 0, 1) := by decide +kernel
theorem dX11_level_1 : decode cX11_level 1 = .ok (.getfield 10, 3) := by decide +kernel
theorem dX11_level_4 : decode cX11_level 4 = .ok (.iload_n 1, 1) := by decide +kernel
theorem dX11_level_5 : decode cX11_level 5 = .ok (.invokevirtual 113, 3) := by decide +kernel
theorem dX11_level_8 : decode cX11_level 8 = .ok (.ifCond .eq 12, 3) := by decide +kernel
theorem dX11_level_11 : decode cX11_level 11 = .ok (.iload_n 3, 1) := by decide +kernel
theorem dX11_level_12 : decode cX11_level 12 = .ok (.ifCond .lt 8, 3) := by decide +kernel
theorem dX11_level_15 : decode cX11_level 15 = .ok (.iload_n 3, 1) := by decide +kernel
theorem dX11_level_16 : decode cX11_level 16 = .ok (.iconst 4, 1) := by decide +kernel
theorem dX11_level_17 : decode cX11_level 17 = .ok (.if_icmp .le 6, 3) := by decide +kernel
theorem dX11_level_20 : decode cX11_level 20 = .ok (.bipush (-2), 2) := by decide +kernel
theorem dX11_level_22 : decode cX11_level 22 = .ok (.ireturn, 1) := by decide +kernel
theorem dX11_level_23 : decode cX11_level 23 = .ok (.iload_n 2, 1) := by decide +kernel
theorem dX11_level_24 : decode cX11_level 24 = .ok (.invokestatic 140, 3) := by decide +kernel
theorem dX11_level_27 : decode cX11_level 27 = .ok (.ifCond .ne 6, 3) := by decide +kernel
theorem dX11_level_30 : decode cX11_level 30 = .ok (.bipush (-3), 2) := by decide +kernel
theorem dX11_level_32 : decode cX11_level 32 = .ok (.ireturn, 1) := by decide +kernel
theorem dX11_level_33 : decode cX11_level 33 = .ok (.iload_n 3, 1) := by decide +kernel
theorem dX11_level_34 : decode cX11_level 34 = .ok (.tableswitch 91 0 3 #[30, 43, 61, 76], 30) := by decide +kernel
theorem dX11_level_64 : decode cX11_level 64 = .ok (.aload_n 0, 1) := by decide +kernel
theorem dX11_level_65 : decode cX11_level 65 = .ok (.invokevirtual 119, 3) := by decide +kernel
theorem dX11_level_68 : decode cX11_level 68 = .ok (.getfield 168, 3) := by decide +kernel
theorem dX11_level_71 : decode cX11_level 71 = .ok (.iload_n 1, 1) := by decide +kernel
theorem dX11_level_72 : decode cX11_level 72 = .ok (.iload_n 2, 1) := by decide +kernel
theorem dX11_level_73 : decode cX11_level 73 = .ok (.invokevirtual 172, 3) := by decide +kernel
theorem dX11_level_76 : decode cX11_level 76 = .ok (.ireturn, 1) := by decide +kernel
theorem dX11_level_77 : decode cX11_level 77 = .ok (.aload_n 0, 1) := by decide +kernel
theorem dX11_level_78 : decode cX11_level 78 = .ok (.invokevirtual 119, 3) := by decide +kernel
theorem dX11_level_81 : decode cX11_level 81 = .ok (.getfield 168, 3) := by decide +kernel
theorem dX11_level_84 : decode cX11_level 84 = .ok (.getfield 178, 3) := by decide +kernel
theorem dX11_level_87 : decode cX11_level 87 = .ok (.iload_n 1, 1) := by decide +kernel
theorem dX11_level_88 : decode cX11_level 88 = .ok (.bipush 16, 2) := by decide +kernel
theorem dX11_level_90 : decode cX11_level 90 = .ok (.imul, 1) := by decide +kernel
theorem dX11_level_91 : decode cX11_level 91 = .ok (.iload_n 2, 1) := by decide +kernel
theorem dX11_level_92 : decode cX11_level 92 = .ok (.iadd, 1) := by decide +kernel
theorem dX11_level_93 : decode cX11_level 93 = .ok (.iaload, 1) := by decide +kernel
theorem dX11_level_94 : decode cX11_level 94 = .ok (.ireturn, 1) := by decide +kernel
theorem dX11_level_95 : decode cX11_level 95 = .ok (.aload_n 0, 1) := by decide +kernel
theorem dX11_level_96 : decode cX11_level 96 = .ok (.invokevirtual 146, 3) := by decide +kernel
theorem dX11_level_99 : decode cX11_level 99 = .ok (.getfield 181, 3) := by decide +kernel
theorem dX11_level_102 : decode cX11_level 102 = .ok (.iload_n 1, 1) := by decide +kernel
theorem dX11_level_103 : decode cX11_level 103 = .ok (.bipush 16, 2) := by decide +kernel
theorem dX11_level_105 : decode cX11_level 105 = .ok (.imul, 1) := by decide +kernel
theorem dX11_level_106 : decode cX11_level 106 = .ok (.iload_n 2, 1) := by decide +kernel
theorem dX11_level_107 : decode cX11_level 107 = .ok (.iadd, 1) := by decide +kernel
theorem dX11_level_108 : decode cX11_level 108 = .ok (.iaload, 1) := by decide +kernel
theorem dX11_level_109 : decode cX11_level 109 = .ok (.ireturn, 1) := by decide +kernel
theorem dX11_level_110 : decode cX11_level 110 = .ok (.aload_n 0, 1) := by decide +kernel
theorem dX11_level_111 : decode cX11_level 111 = .ok (.invokevirtual 146, 3) := by decide +kernel
theorem dX11_level_114 : decode cX11_level 114 = .ok (.getfield 184, 3) := by decide +kernel
theorem dX11_level_117 : decode cX11_level 117 = .ok (.iload_n 1, 1) := by decide +kernel
theorem dX11_level_118 : decode cX11_level 118 = .ok (.bipush 16, 2) := by decide +kernel
theorem dX11_level_120 : decode cX11_level 120 = .ok (.imul, 1) := by decide +kernel
theorem dX11_level_121 : decode cX11_level 121 = .ok (.iload_n 2, 1) := by decide +kernel
theorem dX11_level_122 : decode cX11_level 122 = .ok (.iadd, 1) := by decide +kernel
theorem dX11_level_123 : decode cX11_level 123 = .ok (.iaload, 1) := by decide +kernel
theorem dX11_level_124 : decode cX11_level 124 = .ok (.ireturn, 1) := by decide +kernel
theorem dX11_level_125 : decode cX11_level 125 = .ok (.aload_n 0, 1) := by decide +kernel
theorem dX11_level_126 : decode cX11_level 126 = .ok (.invokevirtual 146, 3) := by decide +kernel
theorem dX11_level_129 : decode cX11_level 129 = .ok (.getfield 187, 3) := by decide +kernel
theorem dX11_level_132 : decode cX11_level 132 = .ok (.iload_n 1, 1) := by decide +kernel
theorem dX11_level_133 : decode cX11_level 133 = .ok (.iload_n 2, 1) := by decide +kernel
theorem dX11_level_134 : decode cX11_level 134 = .ok (.invokevirtual 172, 3) := by decide +kernel
theorem dX11_level_137 : decode cX11_level 137 = .ok (.ireturn, 1) := by decide +kernel
theorem dX11_frame_0 : decode cX11_frame 0 = .ok (.aload_n 0, 1) := by decide +kernel
theorem dX11_frame_1 : decode cX11_frame 1 = .ok (.getfield 10, 3) := by decide +kernel
theorem dX11_frame_4 : decode cX11_frame 4 = .ok (.iload_n 1, 1) := by decide +kernel
theorem dX11_frame_5 : decode cX11_frame 5 = .ok (.invokevirtual 113, 3) := by decide +kernel
theorem dX11_frame_8 : decode cX11_frame 8 = .ok (.ifCond .ne 6, 3) := by decide +kernel
theorem dX11_frame_11 : decode cX11_frame 11 = .ok (.bipush (-2), 2) := by decide +kernel
theorem dX11_frame_13 : decode cX11_frame 13 = .ok (.ireturn, 1) := by decide +kernel
theorem dX11_frame_14 : decode cX11_frame 14 = .ok (.iload_n 2, 1) := by decide +kernel
theorem dX11_frame_15 : decode cX11_frame 15 = .ok (.tableswitch 166 0 8 #[49, 61, 74, 84, 104, 117, 129, 141, 153], 49) := by decide +kernel
theorem dX11_frame_64 : decode cX11_frame 64 = .ok (.aload_n 0, 1) := by decide +kernel
theorem dX11_frame_65 : decode cX11_frame 65 = .ok (.invokevirtual 119, 3) := by decide +kernel
theorem dX11_frame_68 : decode cX11_frame 68 = .ok (.getfield 168, 3) := by decide +kernel
theorem dX11_frame_71 : decode cX11_frame 71 = .ok (.iload_n 1, 1) := by decide +kernel
theorem dX11_frame_72 : decode cX11_frame 72 = .ok (.invokevirtual 190, 3) := by decide +kernel
theorem dX11_frame_75 : decode cX11_frame 75 = .ok (.ireturn, 1) := by decide +kernel
theorem dX11_frame_76 : decode cX11_frame 76 = .ok (.aload_n 0, 1) := by decide +kernel
theorem dX11_frame_77 : decode cX11_frame 77 = .ok (.invokevirtual 119, 3) := by decide +kernel
theorem dX11_frame_80 : decode cX11_frame 80 = .ok (.getfield 123, 3) := by decide +kernel
theorem dX11_frame_83 : decode cX11_frame 83 = .ok (.getfield 194, 3) := by decide +kernel
theorem dX11_frame_86 : decode cX11_frame 86 = .ok (.iload_n 1, 1) := by decide +kernel
theorem dX11_frame_87 : decode cX11_frame 87 = .ok (.iaload, 1) := by decide +kernel
theorem dX11_frame_88 : decode cX11_frame 88 = .ok (.ireturn, 1) := by decide +kernel
theorem dX11_frame_89 : decode cX11_frame 89 = .ok (.aload_n 0, 1) := by decide +kernel
theorem dX11_frame_90 : decode cX11_frame 90 = .ok (.getfield 10, 3) := by decide +kernel
theorem dX11_frame_93 : decode cX11_frame 93 = .ok (.getfield 130, 3) := by decide +kernel
theorem dX11_frame_96 : decode cX11_frame 96 = .ok (.iload_n 1, 1) := by decide +kernel
theorem dX11_frame_97 : decode cX11_frame 97 = .ok (.iaload, 1) := by decide +kernel
theorem dX11_frame_98 : decode cX11_frame 98 = .ok (.ireturn, 1) := by decide +kernel
theorem dX11_frame_99 : decode cX11_frame 99 = .ok (.aload_n 0, 1) := by decide +kernel
theorem dX11_frame_100 : decode cX11_frame 100 = .ok (.invokevirtual 119, 3) := by decide +kernel
theorem dX11_frame_103 : decode cX11_frame 103 = .ok (.getfield 123, 3) := by decide +kernel
theorem dX11_frame_106 : decode cX11_frame 106 = .ok (.iload_n 1, 1) := by decide +kernel
theorem dX11_frame_107 : decode cX11_frame 107 = .ok (.invokevirtual 197, 3) := by decide +kernel
theorem dX11_frame_110 : decode cX11_frame 110 = .ok (.ifCond .eq 7, 3) := by decide +kernel
theorem dX11_frame_113 : decode cX11_frame 113 = .ok (.iconst 1, 1) := by decide +kernel
theorem dX11_frame_114 : decode cX11_frame 114 = .ok (.goto 4, 3) := by decide +kernel
theorem dX11_frame_117 : decode cX11_frame 117 = .ok (.iconst 0, 1) := by decide +kernel
theorem dX11_frame_118 : decode cX11_frame 118 = .ok (.ireturn, 1) := by decide +kernel
theorem dX11_frame_119 : decode cX11_frame 119 = .ok (.aload_n 0, 1) := by decide +kernel
theorem dX11_frame_120 : decode cX11_frame 120 = .ok (.invokevirtual 119, 3) := by decide +kernel
theorem dX11_frame_123 : decode cX11_frame 123 = .ok (.aload_n 0, 1) := by decide +kernel
theorem dX11_frame_124 : decode cX11_frame 124 = .ok (.getfield 10, 3) := by decide +kernel
theorem dX11_frame_127 : decode cX11_frame 127 = .ok (.iload_n 1, 1) := by decide +kernel
theorem dX11_frame_128 : decode cX11_frame 128 = .ok (.invokevirtual 200, 3) := by decide +kernel
theorem dX11_frame_131 : decode cX11_frame 131 = .ok (.ireturn, 1) := by decide +kernel
theorem dX11_frame_132 : decode cX11_frame 132 = .ok (.aload_n 0, 1) := by decide +kernel
theorem dX11_frame_133 : decode cX11_frame 133 = .ok (.invokevirtual 119, 3) := by decide +kernel
theorem dX11_frame_136 : decode cX11_frame 136 = .ok (.getfield 168, 3) := by decide +kernel
theorem dX11_frame_139 : decode cX11_frame 139 = .ok (.iload_n 1, 1) := by decide +kernel
theorem dX11_frame_140 : decode cX11_frame 140 = .ok (.invokevirtual 204, 3) := by decide +kernel
theorem dX11_frame_143 : decode cX11_frame 143 = .ok (.ireturn, 1) := by decide +kernel
theorem dX11_frame_144 : decode cX11_frame 144 = .ok (.aload_n 0, 1) := by decide +kernel
theorem dX11_frame_145 : decode cX11_frame 145 = .ok (.invokevirtual 146, 3) := by decide +kernel
theorem dX11_frame_148 : decode cX11_frame 148 = .ok (.getfield 187, 3) := by decide +kernel
theorem dX11_frame_151 : decode cX11_frame 151 = .ok (.iload_n 1, 1) := by decide +kernel
theorem dX11_frame_152 : decode cX11_frame 152 = .ok (.invokevirtual 204, 3) := by decide +kernel
theorem dX11_frame_155 : decode cX11_frame 155 = .ok (.ireturn, 1) := by decide +kernel
theorem dX11_frame_156 : decode cX11_frame 156 = .ok (.aload_n 0, 1) := by decide +kernel
theorem dX11_frame_157 : decode cX11_frame 157 = .ok (.invokevirtual 146, 3) := by decide +kernel
theorem dX11_frame_160 : decode cX11_frame 160 = .ok (.getfield 187, 3) := by decide +kernel
theorem dX11_frame_163 : decode cX11_frame 163 = .ok (.iload_n 1, 1) := by decide +kernel
theorem dX11_frame_164 : decode cX11_frame 164 = .ok (.invokevirtual 190, 3) := by decide +kernel
theorem dX11_frame_167 : decode cX11_frame 167 = .ok (.ireturn, 1) := by decide +kernel
theorem dX11_frame_168 : decode cX11_frame 168 = .ok (.aload_n 0, 1) := by decide +kernel
theorem dX11_frame_169 : decode cX11_frame 169 = .ok (.invokevirtual 146, 3) := by decide +kernel
theorem dX11_frame_172 : decode cX11_frame 172 = .ok (.aload_n 0, 1) := by decide +kernel
theorem dX11_frame_173 : decode cX11_frame 173 = .ok (.getfield 10, 3) := by decide +kernel
theorem dX11_frame_176 : decode cX11_frame 176 = .ok (.iload_n 1, 1) := by decide +kernel
theorem dX11_frame_177 : decode cX11_frame 177 = .ok (.invokevirtual 207, 3) := by decide +kernel
theorem dX11_frame_180 : decode cX11_frame 180 = .ok (.ireturn, 1) := by decide +kernel
theorem dX11_frame_181 : decode cX11_frame 181 = .ok (.bipush (-2), 2) := by decide +kernel
theorem dX11_frame_183 : decode cX11_frame 183 = .ok (.ireturn, 1) := by decide +kernel
theorem dX11_apart_0 : decode cX11_apart 0 = .ok (.aload_n 0, 1) := by decide +kernel
theorem dX11_apart_1 : decode cX11_apart 1 = .ok (.getfield 10, 3) := by decide +kernel
theorem dX11_apart_4 : decode cX11_apart 4 = .ok (.iload_n 1, 1) := by decide +kernel
theorem dX11_apart_5 : decode cX11_apart 5 = .ok (.invokevirtual 113, 3) := by decide +kernel
theorem dX11_apart_8 : decode cX11_apart 8 = .ok (.ifCond .eq 14, 3) := by decide +kernel
theorem dX11_apart_11 : decode cX11_apart 11 = .ok (.aload_n 0, 1) := by decide +kernel
theorem dX11_apart_12 : decode cX11_apart 12 = .ok (.getfield 10, 3) := by decide +kernel
theorem dX11_apart_15 : decode cX11_apart 15 = .ok (.iload_n 2, 1) := by decide +kernel
theorem dX11_apart_16 : decode cX11_apart 16 = .ok (.invokevirtual 113, 3) := by decide +kernel
theorem dX11_apart_19 : decode cX11_apart 19 = .ok (.ifCond .ne 6, 3) := by decide +kernel
theorem dX11_apart_22 : decode cX11_apart 22 = .ok (.bipush (-2), 2) := by decide +kernel
theorem dX11_apart_24 : decode cX11_apart 24 = .ok (.ireturn, 1) := by decide +kernel
theorem dX11_apart_25 : decode cX11_apart 25 = .ok (.aload_n 0, 1) := by decide +kernel
theorem dX11_apart_26 : decode cX11_apart 26 = .ok (.iload_n 3, 1) := by decide +kernel
theorem dX11_apart_27 : decode cX11_apart 27 = .ok (.invokevirtual 210, 3) := by decide +kernel
theorem dX11_apart_30 : decode cX11_apart 30 = .ok (.iload_n 1, 1) := by decide +kernel
theorem dX11_apart_31 : decode cX11_apart 31 = .ok (.iload_n 2, 1) := by decide +kernel
theorem dX11_apart_32 : decode cX11_apart 32 = .ok (.invokevirtual 214, 3) := by decide +kernel
theorem dX11_apart_35 : decode cX11_apart 35 = .ok (.ireturn, 1) := by decide +kernel
theorem dX11_scene_0 : decode cX11_scene 0 = .ok (.iload_n 1, 1) := by decide +kernel
theorem dX11_scene_1 : decode cX11_scene 1 = .ok (.iconst (-1), 1) := by decide +kernel
theorem dX11_scene_2 : decode cX11_scene 2 = .ok (.if_icmp .ge 6, 3) := by decide +kernel
theorem dX11_scene_5 : decode cX11_scene 5 = .ok (.bipush (-3), 2) := by decide +kernel
theorem dX11_scene_7 : decode cX11_scene 7 = .ok (.ireturn, 1) := by decide +kernel
theorem dX11_scene_8 : decode cX11_scene 8 = .ok (.aload_n 0, 1) := by decide +kernel
theorem dX11_scene_9 : decode cX11_scene 9 = .ok (.invokevirtual 119, 3) := by decide +kernel
theorem dX11_scene_12 : decode cX11_scene 12 = .ok (.getfield 123, 3) := by decide +kernel
theorem dX11_scene_15 : decode cX11_scene 15 = .ok (.astore_n 2, 1) := by decide +kernel
theorem dX11_scene_16 : decode cX11_scene 16 = .ok (.iload_n 1, 1) := by decide +kernel
theorem dX11_scene_17 : decode cX11_scene 17 = .ok (.iconst (-1), 1) := by decide +kernel
theorem dX11_scene_18 : decode cX11_scene 18 = .ok (.if_icmp .ne 8, 3) := by decide +kernel
theorem dX11_scene_21 : decode cX11_scene 21 = .ok (.aload_n 2, 1) := by decide +kernel
theorem dX11_scene_22 : decode cX11_scene 22 = .ok (.getfield 127, 3) := by decide +kernel
theorem dX11_scene_25 : decode cX11_scene 25 = .ok (.ireturn, 1) := by decide +kernel
theorem dX11_scene_26 : decode cX11_scene 26 = .ok (.iload_n 1, 1) := by decide +kernel
theorem dX11_scene_27 : decode cX11_scene 27 = .ok (.aload_n 2, 1) := by decide +kernel
theorem dX11_scene_28 : decode cX11_scene 28 = .ok (.getfield 127, 3) := by decide +kernel
theorem dX11_scene_31 : decode cX11_scene 31 = .ok (.if_icmp .ge 12, 3) := by decide +kernel
theorem dX11_scene_34 : decode cX11_scene 34 = .ok (.aload_n 2, 1) := by decide +kernel
theorem dX11_scene_35 : decode cX11_scene 35 = .ok (.getfield 217, 3) := by decide +kernel
theorem dX11_scene_38 : decode cX11_scene 38 = .ok (.iload_n 1, 1) := by decide +kernel
theorem dX11_scene_39 : decode cX11_scene 39 = .ok (.iaload, 1) := by decide +kernel
theorem dX11_scene_40 : decode cX11_scene 40 = .ok (.goto 4, 3) := by decide +kernel
theorem dX11_scene_43 : decode cX11_scene 43 = .ok (.iconst (-1), 1) := by decide +kernel
theorem dX11_scene_44 : decode cX11_scene 44 = .ok (.ireturn, 1) := by decide +kernel
theorem dX11_rank_0 : decode cX11_rank 0 = .ok (.aload_n 0, 1) := by decide +kernel
theorem dX11_rank_1 : decode cX11_rank 1 = .ok (.getfield 10, 3) := by decide +kernel
theorem dX11_rank_4 : decode cX11_rank 4 = .ok (.iload_n 1, 1) := by decide +kernel
theorem dX11_rank_5 : decode cX11_rank 5 = .ok (.invokevirtual 113, 3) := by decide +kernel
theorem dX11_rank_8 : decode cX11_rank 8 = .ok (.ifCond .eq 14, 3) := by decide +kernel
theorem dX11_rank_11 : decode cX11_rank 11 = .ok (.aload_n 0, 1) := by decide +kernel
theorem dX11_rank_12 : decode cX11_rank 12 = .ok (.getfield 10, 3) := by decide +kernel
theorem dX11_rank_15 : decode cX11_rank 15 = .ok (.iload_n 2, 1) := by decide +kernel
theorem dX11_rank_16 : decode cX11_rank 16 = .ok (.invokevirtual 137, 3) := by decide +kernel
theorem dX11_rank_19 : decode cX11_rank 19 = .ok (.ifCond .ne 6, 3) := by decide +kernel
theorem dX11_rank_22 : decode cX11_rank 22 = .ok (.bipush (-2), 2) := by decide +kernel
theorem dX11_rank_24 : decode cX11_rank 24 = .ok (.ireturn, 1) := by decide +kernel
theorem dX11_rank_25 : decode cX11_rank 25 = .ok (.aload_n 0, 1) := by decide +kernel
theorem dX11_rank_26 : decode cX11_rank 26 = .ok (.invokevirtual 119, 3) := by decide +kernel
theorem dX11_rank_29 : decode cX11_rank 29 = .ok (.astore_n 3, 1) := by decide +kernel
theorem dX11_rank_30 : decode cX11_rank 30 = .ok (.aload_n 3, 1) := by decide +kernel
theorem dX11_rank_31 : decode cX11_rank 31 = .ok (.getfield 220, 3) := by decide +kernel
theorem dX11_rank_34 : decode cX11_rank 34 = .ok (.aload_n 0, 1) := by decide +kernel
theorem dX11_rank_35 : decode cX11_rank 35 = .ok (.getfield 10, 3) := by decide +kernel
theorem dX11_rank_38 : decode cX11_rank 38 = .ok (.iload_n 1, 1) := by decide +kernel
theorem dX11_rank_39 : decode cX11_rank 39 = .ok (.aload_n 3, 1) := by decide +kernel
theorem dX11_rank_40 : decode cX11_rank 40 = .ok (.getfield 168, 3) := by decide +kernel
theorem dX11_rank_43 : decode cX11_rank 43 = .ok (.invokevirtual 224, 3) := by decide +kernel
theorem dX11_rank_46 : decode cX11_rank 46 = .ok (.aload_n 3, 1) := by decide +kernel
theorem dX11_rank_47 : decode cX11_rank 47 = .ok (.getfield 220, 3) := by decide +kernel
theorem dX11_rank_50 : decode cX11_rank 50 = .ok (.iload_n 2, 1) := by decide +kernel
theorem dX11_rank_51 : decode cX11_rank 51 = .ok (.invokevirtual 230, 3) := by decide +kernel
theorem dX11_rank_54 : decode cX11_rank 54 = .ok (.ireturn, 1) := by decide +kernel
theorem dX11_inverse_0 : decode cX11_inverse 0 = .ok (.aload_n 0, 1) := by decide +kernel
theorem dX11_inverse_1 : decode cX11_inverse 1 = .ok (.getfield 10, 3) := by decide +kernel
theorem dX11_inverse_4 : decode cX11_inverse 4 = .ok (.iload_n 1, 1) := by decide +kernel
theorem dX11_inverse_5 : decode cX11_inverse 5 = .ok (.invokevirtual 113, 3) := by decide +kernel
theorem dX11_inverse_8 : decode cX11_inverse 8 = .ok (.ifCond .ne 6, 3) := by decide +kernel
theorem dX11_inverse_11 : decode cX11_inverse 11 = .ok (.bipush (-2), 2) := by decide +kernel
theorem dX11_inverse_13 : decode cX11_inverse 13 = .ok (.ireturn, 1) := by decide +kernel
theorem dX11_inverse_14 : decode cX11_inverse 14 = .ok (.iload_n 2, 1) := by decide +kernel
theorem dX11_inverse_15 : decode cX11_inverse 15 = .ok (.invokestatic 140, 3) := by decide +kernel
theorem dX11_inverse_18 : decode cX11_inverse 18 = .ok (.ifCond .ne 6, 3) := by decide +kernel
theorem dX11_inverse_21 : decode cX11_inverse 21 = .ok (.bipush (-3), 2) := by decide +kernel
theorem dX11_inverse_23 : decode cX11_inverse 23 = .ok (.ireturn, 1) := by decide +kernel
theorem dX11_inverse_24 : decode cX11_inverse 24 = .ok (.aload_n 0, 1) := by decide +kernel
theorem dX11_inverse_25 : decode cX11_inverse 25 = .ok (.invokevirtual 146, 3) := by decide +kernel
theorem dX11_inverse_28 : decode cX11_inverse 28 = .ok (.getfield 184, 3) := by decide +kernel
theorem dX11_inverse_31 : decode cX11_inverse 31 = .ok (.astore_n 3, 1) := by decide +kernel
theorem dX11_inverse_32 : decode cX11_inverse 32 = .ok (.iconst 0, 1) := by decide +kernel
theorem dX11_inverse_33 : decode cX11_inverse 33 = .ok (.istore 4, 2) := by decide +kernel
theorem dX11_inverse_35 : decode cX11_inverse 35 = .ok (.iload 4, 2) := by decide +kernel
theorem dX11_inverse_37 : decode cX11_inverse 37 = .ok (.bipush 16, 2) := by decide +kernel
theorem dX11_inverse_39 : decode cX11_inverse 39 = .ok (.if_icmp .ge 25, 3) := by decide +kernel
theorem dX11_inverse_42 : decode cX11_inverse 42 = .ok (.aload_n 3, 1) := by decide +kernel
theorem dX11_inverse_43 : decode cX11_inverse 43 = .ok (.iload_n 1, 1) := by decide +kernel
theorem dX11_inverse_44 : decode cX11_inverse 44 = .ok (.bipush 16, 2) := by decide +kernel
theorem dX11_inverse_46 : decode cX11_inverse 46 = .ok (.imul, 1) := by decide +kernel
theorem dX11_inverse_47 : decode cX11_inverse 47 = .ok (.iload 4, 2) := by decide +kernel
theorem dX11_inverse_49 : decode cX11_inverse 49 = .ok (.iadd, 1) := by decide +kernel
theorem dX11_inverse_50 : decode cX11_inverse 50 = .ok (.iaload, 1) := by decide +kernel
theorem dX11_inverse_51 : decode cX11_inverse 51 = .ok (.iload_n 2, 1) := by decide +kernel
theorem dX11_inverse_52 : decode cX11_inverse 52 = .ok (.if_icmp .lt 6, 3) := by decide +kernel
theorem dX11_inverse_55 : decode cX11_inverse 55 = .ok (.iload 4, 2) := by decide +kernel
theorem dX11_inverse_57 : decode cX11_inverse 57 = .ok (.ireturn, 1) := by decide +kernel
theorem dX11_inverse_58 : decode cX11_inverse 58 = .ok (.iinc 4 1, 3) := by decide +kernel
theorem dX11_inverse_61 : decode cX11_inverse 61 = .ok (.goto (-26), 3) := by decide +kernel
theorem dX11_inverse_64 : decode cX11_inverse 64 = .ok (.iconst (-1), 1) := by decide +kernel
theorem dX11_inverse_65 : decode cX11_inverse 65 = .ok (.ireturn, 1) := by decide +kernel
theorem dX11_flicker_0 : decode cX11_flicker 0 = .ok (.aload_n 0, 1) := by decide +kernel
theorem dX11_flicker_1 : decode cX11_flicker 1 = .ok (.getfield 19, 3) := by decide +kernel
theorem dX11_flicker_4 : decode cX11_flicker 4 = .ok (.aload_n 0, 1) := by decide +kernel
theorem dX11_flicker_5 : decode cX11_flicker 5 = .ok (.iload_n 1, 1) := by decide +kernel
theorem dX11_flicker_6 : decode cX11_flicker 6 = .ok (.invokevirtual 210, 3) := by decide +kernel
theorem dX11_flicker_9 : decode cX11_flicker 9 = .ok (.aload_n 0, 1) := by decide +kernel
theorem dX11_flicker_10 : decode cX11_flicker 10 = .ok (.getfield 10, 3) := by decide +kernel
theorem dX11_flicker_13 : decode cX11_flicker 13 = .ok (.getfield 89, 3) := by decide +kernel
theorem dX11_flicker_16 : decode cX11_flicker 16 = .ok (.invokevirtual 233, 3) := by decide +kernel
theorem dX11_flicker_19 : decode cX11_flicker 19 = .ok (.ireturn, 1) := by decide +kernel
theorem dX11_steady_0 : decode cX11_steady 0 = .ok (.aload_n 0, 1) := by decide +kernel
theorem dX11_steady_1 : decode cX11_steady 1 = .ok (.getfield 10, 3) := by decide +kernel
theorem dX11_steady_4 : decode cX11_steady 4 = .ok (.iload_n 1, 1) := by decide +kernel
theorem dX11_steady_5 : decode cX11_steady 5 = .ok (.invokevirtual 113, 3) := by decide +kernel
theorem dX11_steady_8 : decode cX11_steady 8 = .ok (.ifCond .ne 6, 3) := by decide +kernel
theorem dX11_steady_11 : decode cX11_steady 11 = .ok (.bipush (-2), 2) := by decide +kernel
theorem dX11_steady_13 : decode cX11_steady 13 = .ok (.ireturn, 1) := by decide +kernel
theorem dX11_steady_14 : decode cX11_steady 14 = .ok (.aload_n 0, 1) := by decide +kernel
theorem dX11_steady_15 : decode cX11_steady 15 = .ok (.invokevirtual 146, 3) := by decide +kernel
theorem dX11_steady_18 : decode cX11_steady 18 = .ok (.aload_n 0, 1) := by decide +kernel
theorem dX11_steady_19 : decode cX11_steady 19 = .ok (.getfield 10, 3) := by decide +kernel
theorem dX11_steady_22 : decode cX11_steady 22 = .ok (.iload_n 1, 1) := by decide +kernel
theorem dX11_steady_23 : decode cX11_steady 23 = .ok (.invokevirtual 207, 3) := by decide +kernel
theorem dX11_steady_26 : decode cX11_steady 26 = .ok (.ifCond .ne 7, 3) := by decide +kernel
theorem dX11_steady_29 : decode cX11_steady 29 = .ok (.iconst 1, 1) := by decide +kernel
theorem dX11_steady_30 : decode cX11_steady 30 = .ok (.goto 4, 3) := by decide +kernel
theorem dX11_steady_33 : decode cX11_steady 33 = .ok (.iconst 0, 1) := by decide +kernel
theorem dX11_steady_34 : decode cX11_steady 34 = .ok (.ireturn, 1) := by decide +kernel
theorem dX11_bestRadius_0 : decode cX11_bestRadius 0 = .ok (.aload_n 0, 1) := by decide +kernel
theorem dX11_bestRadius_1 : decode cX11_bestRadius 1 = .ok (.invokevirtual 237, 3) := by decide +kernel
theorem dX11_bestRadius_4 : decode cX11_bestRadius 4 = .ok (.iconst 0, 1) := by decide +kernel
theorem dX11_bestRadius_5 : decode cX11_bestRadius 5 = .ok (.istore_n 1, 1) := by decide +kernel
theorem dX11_bestRadius_6 : decode cX11_bestRadius 6 = .ok (.ldc 240, 2) := by decide +kernel
theorem dX11_bestRadius_8 : decode cX11_bestRadius 8 = .ok (.istore_n 2, 1) := by decide +kernel
theorem dX11_bestRadius_9 : decode cX11_bestRadius 9 = .ok (.iconst 0, 1) := by decide +kernel
theorem dX11_bestRadius_10 : decode cX11_bestRadius 10 = .ok (.istore_n 3, 1) := by decide +kernel
theorem dX11_bestRadius_11 : decode cX11_bestRadius 11 = .ok (.iload_n 3, 1) := by decide +kernel
theorem dX11_bestRadius_12 : decode cX11_bestRadius 12 = .ok (.getstatic 241, 3) := by decide +kernel
theorem dX11_bestRadius_15 : decode cX11_bestRadius 15 = .ok (.iconst 0, 1) := by decide +kernel
theorem dX11_bestRadius_16 : decode cX11_bestRadius 16 = .ok (.iaload, 1) := by decide +kernel
theorem dX11_bestRadius_17 : decode cX11_bestRadius 17 = .ok (.if_icmp .gt 28, 3) := by decide +kernel
theorem dX11_bestRadius_20 : decode cX11_bestRadius 20 = .ok (.aload_n 0, 1) := by decide +kernel
theorem dX11_bestRadius_21 : decode cX11_bestRadius 21 = .ok (.iconst 0, 1) := by decide +kernel
theorem dX11_bestRadius_22 : decode cX11_bestRadius 22 = .ok (.iload_n 3, 1) := by decide +kernel
theorem dX11_bestRadius_23 : decode cX11_bestRadius 23 = .ok (.invokevirtual 244, 3) := by decide +kernel
theorem dX11_bestRadius_26 : decode cX11_bestRadius 26 = .ok (.istore 4, 2) := by decide +kernel
theorem dX11_bestRadius_28 : decode cX11_bestRadius 28 = .ok (.iload 4, 2) := by decide +kernel
theorem dX11_bestRadius_30 : decode cX11_bestRadius 30 = .ok (.iload_n 2, 1) := by decide +kernel
theorem dX11_bestRadius_31 : decode cX11_bestRadius 31 = .ok (.if_icmp .ge 8, 3) := by decide +kernel
theorem dX11_bestRadius_34 : decode cX11_bestRadius 34 = .ok (.iload 4, 2) := by decide +kernel
theorem dX11_bestRadius_36 : decode cX11_bestRadius 36 = .ok (.istore_n 2, 1) := by decide +kernel
theorem dX11_bestRadius_37 : decode cX11_bestRadius 37 = .ok (.iload_n 3, 1) := by decide +kernel
theorem dX11_bestRadius_38 : decode cX11_bestRadius 38 = .ok (.istore_n 1, 1) := by decide +kernel
theorem dX11_bestRadius_39 : decode cX11_bestRadius 39 = .ok (.iinc 3 1, 3) := by decide +kernel
theorem dX11_bestRadius_42 : decode cX11_bestRadius 42 = .ok (.goto (-31), 3) := by decide +kernel
theorem dX11_bestRadius_45 : decode cX11_bestRadius 45 = .ok (.iload_n 1, 1) := by decide +kernel
theorem dX11_bestRadius_46 : decode cX11_bestRadius 46 = .ok (.ireturn, 1) := by decide +kernel
theorem dX11_leastStep_0 : decode cX11_leastStep 0 = .ok (.iload_n 1, 1) := by decide +kernel
theorem dX11_leastStep_1 : decode cX11_leastStep 1 = .ok (.ifCond .ge 6, 3) := by decide +kernel
theorem dX11_leastStep_4 : decode cX11_leastStep 4 = .ok (.bipush (-3), 2) := by decide +kernel
theorem dX11_leastStep_6 : decode cX11_leastStep 6 = .ok (.ireturn, 1) := by decide +kernel
theorem dX11_leastStep_7 : decode cX11_leastStep 7 = .ok (.aload_n 0, 1) := by decide +kernel
theorem dX11_leastStep_8 : decode cX11_leastStep 8 = .ok (.invokevirtual 237, 3) := by decide +kernel
theorem dX11_leastStep_11 : decode cX11_leastStep 11 = .ok (.iconst 0, 1) := by decide +kernel
theorem dX11_leastStep_12 : decode cX11_leastStep 12 = .ok (.istore_n 2, 1) := by decide +kernel
theorem dX11_leastStep_13 : decode cX11_leastStep 13 = .ok (.iload_n 2, 1) := by decide +kernel
theorem dX11_leastStep_14 : decode cX11_leastStep 14 = .ok (.getstatic 241, 3) := by decide +kernel
theorem dX11_leastStep_17 : decode cX11_leastStep 17 = .ok (.iconst 3, 1) := by decide +kernel
theorem dX11_leastStep_18 : decode cX11_leastStep 18 = .ok (.iaload, 1) := by decide +kernel
theorem dX11_leastStep_19 : decode cX11_leastStep 19 = .ok (.if_icmp .gt 21, 3) := by decide +kernel
theorem dX11_leastStep_22 : decode cX11_leastStep 22 = .ok (.aload_n 0, 1) := by decide +kernel
theorem dX11_leastStep_23 : decode cX11_leastStep 23 = .ok (.iconst 3, 1) := by decide +kernel
theorem dX11_leastStep_24 : decode cX11_leastStep 24 = .ok (.iload_n 2, 1) := by decide +kernel
theorem dX11_leastStep_25 : decode cX11_leastStep 25 = .ok (.invokevirtual 244, 3) := by decide +kernel
theorem dX11_leastStep_28 : decode cX11_leastStep 28 = .ok (.iload_n 1, 1) := by decide +kernel
theorem dX11_leastStep_29 : decode cX11_leastStep 29 = .ok (.if_icmp .gt 5, 3) := by decide +kernel
theorem dX11_leastStep_32 : decode cX11_leastStep 32 = .ok (.iload_n 2, 1) := by decide +kernel
theorem dX11_leastStep_33 : decode cX11_leastStep 33 = .ok (.ireturn, 1) := by decide +kernel
theorem dX11_leastStep_34 : decode cX11_leastStep 34 = .ok (.iinc 2 1, 3) := by decide +kernel
theorem dX11_leastStep_37 : decode cX11_leastStep 37 = .ok (.goto (-24), 3) := by decide +kernel
theorem dX11_leastStep_40 : decode cX11_leastStep 40 = .ok (.iconst (-1), 1) := by decide +kernel
theorem dX11_leastStep_41 : decode cX11_leastStep 41 = .ok (.ireturn, 1) := by decide +kernel
theorem dX11_flash_0 : decode cX11_flash 0 = .ok (.iload_n 1, 1) := by decide +kernel
theorem dX11_flash_1 : decode cX11_flash 1 = .ok (.ifCond .lt 8, 3) := by decide +kernel
theorem dX11_flash_4 : decode cX11_flash 4 = .ok (.iload_n 2, 1) := by decide +kernel
theorem dX11_flash_5 : decode cX11_flash 5 = .ok (.iconst (-1), 1) := by decide +kernel
theorem dX11_flash_6 : decode cX11_flash 6 = .ok (.if_icmp .ge 6, 3) := by decide +kernel
theorem dX11_flash_9 : decode cX11_flash 9 = .ok (.bipush (-3), 2) := by decide +kernel
theorem dX11_flash_11 : decode cX11_flash 11 = .ok (.ireturn, 1) := by decide +kernel
theorem dX11_flash_12 : decode cX11_flash 12 = .ok (.aload_n 0, 1) := by decide +kernel
theorem dX11_flash_13 : decode cX11_flash 13 = .ok (.invokevirtual 119, 3) := by decide +kernel
theorem dX11_flash_16 : decode cX11_flash 16 = .ok (.astore_n 3, 1) := by decide +kernel
theorem dX11_flash_17 : decode cX11_flash 17 = .ok (.iconst 0, 1) := by decide +kernel
theorem dX11_flash_18 : decode cX11_flash 18 = .ok (.istore 4, 2) := by decide +kernel
theorem dX11_flash_20 : decode cX11_flash 20 = .ok (.iconst 1, 1) := by decide +kernel
theorem dX11_flash_21 : decode cX11_flash 21 = .ok (.istore 5, 2) := by decide +kernel
theorem dX11_flash_23 : decode cX11_flash 23 = .ok (.iload 5, 2) := by decide +kernel
theorem dX11_flash_25 : decode cX11_flash 25 = .ok (.iconst 1, 1) := by decide +kernel
theorem dX11_flash_26 : decode cX11_flash 26 = .ok (.iadd, 1) := by decide +kernel
theorem dX11_flash_27 : decode cX11_flash 27 = .ok (.aload_n 0, 1) := by decide +kernel
theorem dX11_flash_28 : decode cX11_flash 28 = .ok (.getfield 10, 3) := by decide +kernel
theorem dX11_flash_31 : decode cX11_flash 31 = .ok (.getfield 89, 3) := by decide +kernel
theorem dX11_flash_34 : decode cX11_flash 34 = .ok (.if_icmp .ge 31, 3) := by decide +kernel
theorem dX11_flash_37 : decode cX11_flash 37 = .ok (.aload_n 3, 1) := by decide +kernel
theorem dX11_flash_38 : decode cX11_flash 38 = .ok (.iload 5, 2) := by decide +kernel
theorem dX11_flash_40 : decode cX11_flash 40 = .ok (.iload_n 1, 1) := by decide +kernel
theorem dX11_flash_41 : decode cX11_flash 41 = .ok (.invokevirtual 247, 3) := by decide +kernel
theorem dX11_flash_44 : decode cX11_flash 44 = .ok (.ifCond .eq 15, 3) := by decide +kernel
theorem dX11_flash_47 : decode cX11_flash 47 = .ok (.iload 4, 2) := by decide +kernel
theorem dX11_flash_49 : decode cX11_flash 49 = .ok (.iload_n 2, 1) := by decide +kernel
theorem dX11_flash_50 : decode cX11_flash 50 = .ok (.if_icmp .ne 6, 3) := by decide +kernel
theorem dX11_flash_53 : decode cX11_flash 53 = .ok (.iload 5, 2) := by decide +kernel
theorem dX11_flash_55 : decode cX11_flash 55 = .ok (.ireturn, 1) := by decide +kernel
theorem dX11_flash_56 : decode cX11_flash 56 = .ok (.iinc 4 1, 3) := by decide +kernel
theorem dX11_flash_59 : decode cX11_flash 59 = .ok (.iinc 5 1, 3) := by decide +kernel
theorem dX11_flash_62 : decode cX11_flash 62 = .ok (.goto (-39), 3) := by decide +kernel
theorem dX11_flash_65 : decode cX11_flash 65 = .ok (.iload_n 2, 1) := by decide +kernel
theorem dX11_flash_66 : decode cX11_flash 66 = .ok (.iconst (-1), 1) := by decide +kernel
theorem dX11_flash_67 : decode cX11_flash 67 = .ok (.if_icmp .ne 8, 3) := by decide +kernel
theorem dX11_flash_70 : decode cX11_flash 70 = .ok (.iload 4, 2) := by decide +kernel
theorem dX11_flash_72 : decode cX11_flash 72 = .ok (.goto 4, 3) := by decide +kernel
theorem dX11_flash_75 : decode cX11_flash 75 = .ok (.iconst (-1), 1) := by decide +kernel
theorem dX11_flash_76 : decode cX11_flash 76 = .ok (.ireturn, 1) := by decide +kernel
theorem dX11_period_0 : decode cX11_period 0 = .ok (.aload_n 0, 1) := by decide +kernel
theorem dX11_period_1 : decode cX11_period 1 = .ok (.invokevirtual 119, 3) := by decide +kernel
theorem dX11_period_4 : decode cX11_period 4 = .ok (.getfield 168, 3) := by decide +kernel
theorem dX11_period_7 : decode cX11_period 7 = .ok (.astore_n 1, 1) := by decide +kernel
theorem dX11_period_8 : decode cX11_period 8 = .ok (.iconst (-1), 1) := by decide +kernel
theorem dX11_period_9 : decode cX11_period 9 = .ok (.istore_n 2, 1) := by decide +kernel
theorem dX11_period_10 : decode cX11_period 10 = .ok (.iconst 0, 1) := by decide +kernel
theorem dX11_period_11 : decode cX11_period 11 = .ok (.istore_n 3, 1) := by decide +kernel
theorem dX11_period_12 : decode cX11_period 12 = .ok (.iconst 1, 1) := by decide +kernel
theorem dX11_period_13 : decode cX11_period 13 = .ok (.istore 4, 2) := by decide +kernel
theorem dX11_period_15 : decode cX11_period 15 = .ok (.iconst 1, 1) := by decide +kernel
theorem dX11_period_16 : decode cX11_period 16 = .ok (.istore 5, 2) := by decide +kernel
theorem dX11_period_18 : decode cX11_period 18 = .ok (.iload 5, 2) := by decide +kernel
theorem dX11_period_20 : decode cX11_period 20 = .ok (.bipush 8, 2) := by decide +kernel
theorem dX11_period_22 : decode cX11_period 22 = .ok (.if_icmp .gt 103, 3) := by decide +kernel
theorem dX11_period_25 : decode cX11_period 25 = .ok (.iload 5, 2) := by decide +kernel
theorem dX11_period_27 : decode cX11_period 27 = .ok (.aload_n 0, 1) := by decide +kernel
theorem dX11_period_28 : decode cX11_period 28 = .ok (.getfield 10, 3) := by decide +kernel
theorem dX11_period_31 : decode cX11_period 31 = .ok (.getfield 89, 3) := by decide +kernel
theorem dX11_period_34 : decode cX11_period 34 = .ok (.if_icmp .ge 91, 3) := by decide +kernel
theorem dX11_period_37 : decode cX11_period 37 = .ok (.iconst 0, 1) := by decide +kernel
theorem dX11_period_38 : decode cX11_period 38 = .ok (.istore 6, 2) := by decide +kernel
theorem dX11_period_40 : decode cX11_period 40 = .ok (.aload_n 0, 1) := by decide +kernel
theorem dX11_period_41 : decode cX11_period 41 = .ok (.getfield 10, 3) := by decide +kernel
theorem dX11_period_44 : decode cX11_period 44 = .ok (.getfield 89, 3) := by decide +kernel
theorem dX11_period_47 : decode cX11_period 47 = .ok (.iload 5, 2) := by decide +kernel
theorem dX11_period_49 : decode cX11_period 49 = .ok (.isub, 1) := by decide +kernel
theorem dX11_period_50 : decode cX11_period 50 = .ok (.istore 7, 2) := by decide +kernel
theorem dX11_period_52 : decode cX11_period 52 = .ok (.iconst 0, 1) := by decide +kernel
theorem dX11_period_53 : decode cX11_period 53 = .ok (.istore 8, 2) := by decide +kernel
theorem dX11_period_55 : decode cX11_period 55 = .ok (.iload 8, 2) := by decide +kernel
theorem dX11_period_57 : decode cX11_period 57 = .ok (.iload 7, 2) := by decide +kernel
theorem dX11_period_59 : decode cX11_period 59 = .ok (.if_icmp .ge 33, 3) := by decide +kernel
theorem dX11_period_62 : decode cX11_period 62 = .ok (.iload 6, 2) := by decide +kernel
theorem dX11_period_64 : decode cX11_period 64 = .ok (.aload_n 1, 1) := by decide +kernel
theorem dX11_period_65 : decode cX11_period 65 = .ok (.iload 8, 2) := by decide +kernel
theorem dX11_period_67 : decode cX11_period 67 = .ok (.invokevirtual 190, 3) := by decide +kernel
theorem dX11_period_70 : decode cX11_period 70 = .ok (.aload_n 1, 1) := by decide +kernel
theorem dX11_period_71 : decode cX11_period 71 = .ok (.iload 8, 2) := by decide +kernel
theorem dX11_period_73 : decode cX11_period 73 = .ok (.iload 5, 2) := by decide +kernel
theorem dX11_period_75 : decode cX11_period 75 = .ok (.iadd, 1) := by decide +kernel
theorem dX11_period_76 : decode cX11_period 76 = .ok (.invokevirtual 190, 3) := by decide +kernel
theorem dX11_period_79 : decode cX11_period 79 = .ok (.isub, 1) := by decide +kernel
theorem dX11_period_80 : decode cX11_period 80 = .ok (.invokestatic 250, 3) := by decide +kernel
theorem dX11_period_83 : decode cX11_period 83 = .ok (.iadd, 1) := by decide +kernel
theorem dX11_period_84 : decode cX11_period 84 = .ok (.istore 6, 2) := by decide +kernel
theorem dX11_period_86 : decode cX11_period 86 = .ok (.iinc 8 1, 3) := by decide +kernel
theorem dX11_period_89 : decode cX11_period 89 = .ok (.goto (-34), 3) := by decide +kernel
theorem dX11_period_92 : decode cX11_period 92 = .ok (.iload_n 2, 1) := by decide +kernel
theorem dX11_period_93 : decode cX11_period 93 = .ok (.iconst (-1), 1) := by decide +kernel
theorem dX11_period_94 : decode cX11_period 94 = .ok (.if_icmp .eq 15, 3) := by decide +kernel
theorem dX11_period_97 : decode cX11_period 97 = .ok (.iload 6, 2) := by decide +kernel
theorem dX11_period_99 : decode cX11_period 99 = .ok (.iload 4, 2) := by decide +kernel
theorem dX11_period_101 : decode cX11_period 101 = .ok (.imul, 1) := by decide +kernel
theorem dX11_period_102 : decode cX11_period 102 = .ok (.iload_n 3, 1) := by decide +kernel
theorem dX11_period_103 : decode cX11_period 103 = .ok (.iload 7, 2) := by decide +kernel
theorem dX11_period_105 : decode cX11_period 105 = .ok (.imul, 1) := by decide +kernel
theorem dX11_period_106 : decode cX11_period 106 = .ok (.if_icmp .ge 13, 3) := by decide +kernel
theorem dX11_period_109 : decode cX11_period 109 = .ok (.iload 5, 2) := by decide +kernel
theorem dX11_period_111 : decode cX11_period 111 = .ok (.istore_n 2, 1) := by decide +kernel
theorem dX11_period_112 : decode cX11_period 112 = .ok (.iload 6, 2) := by decide +kernel
theorem dX11_period_114 : decode cX11_period 114 = .ok (.istore_n 3, 1) := by decide +kernel
theorem dX11_period_115 : decode cX11_period 115 = .ok (.iload 7, 2) := by decide +kernel
theorem dX11_period_117 : decode cX11_period 117 = .ok (.istore 4, 2) := by decide +kernel
theorem dX11_period_119 : decode cX11_period 119 = .ok (.iinc 5 1, 3) := by decide +kernel
theorem dX11_period_122 : decode cX11_period 122 = .ok (.goto (-104), 3) := by decide +kernel
theorem dX11_period_125 : decode cX11_period 125 = .ok (.iload_n 2, 1) := by decide +kernel
theorem dX11_period_126 : decode cX11_period 126 = .ok (.ireturn, 1) := by decide +kernel
theorem dX11_rounds_0 : decode cX11_rounds 0 = .ok (.iload_n 1, 1) := by decide +kernel
theorem dX11_rounds_1 : decode cX11_rounds 1 = .ok (.ifCond .lt 9, 3) := by decide +kernel
theorem dX11_rounds_4 : decode cX11_rounds 4 = .ok (.iload_n 1, 1) := by decide +kernel
theorem dX11_rounds_5 : decode cX11_rounds 5 = .ok (.bipush 10, 2) := by decide +kernel
theorem dX11_rounds_7 : decode cX11_rounds 7 = .ok (.if_icmp .le 6, 3) := by decide +kernel
theorem dX11_rounds_10 : decode cX11_rounds 10 = .ok (.bipush (-3), 2) := by decide +kernel
theorem dX11_rounds_12 : decode cX11_rounds 12 = .ok (.ireturn, 1) := by decide +kernel
theorem dX11_rounds_13 : decode cX11_rounds 13 = .ok (.aload_n 0, 1) := by decide +kernel
theorem dX11_rounds_14 : decode cX11_rounds 14 = .ok (.invokevirtual 237, 3) := by decide +kernel
theorem dX11_rounds_17 : decode cX11_rounds 17 = .ok (.iconst 0, 1) := by decide +kernel
theorem dX11_rounds_18 : decode cX11_rounds 18 = .ok (.istore_n 2, 1) := by decide +kernel
theorem dX11_rounds_19 : decode cX11_rounds 19 = .ok (.iload_n 2, 1) := by decide +kernel
theorem dX11_rounds_20 : decode cX11_rounds 20 = .ok (.iload_n 1, 1) := by decide +kernel
theorem dX11_rounds_21 : decode cX11_rounds 21 = .ok (.if_icmp .ge 19, 3) := by decide +kernel
theorem dX11_rounds_24 : decode cX11_rounds 24 = .ok (.aload_n 0, 1) := by decide +kernel
theorem dX11_rounds_25 : decode cX11_rounds 25 = .ok (.invokevirtual 255, 3) := by decide +kernel
theorem dX11_rounds_28 : decode cX11_rounds 28 = .ok (.ifCond .ne 6, 3) := by decide +kernel
theorem dX11_rounds_31 : decode cX11_rounds 31 = .ok (.goto 9, 3) := by decide +kernel
theorem dX11_rounds_34 : decode cX11_rounds 34 = .ok (.iinc 2 1, 3) := by decide +kernel
theorem dX11_rounds_37 : decode cX11_rounds 37 = .ok (.goto (-18), 3) := by decide +kernel
theorem dX11_rounds_40 : decode cX11_rounds 40 = .ok (.aload_n 0, 1) := by decide +kernel
theorem dX11_rounds_41 : decode cX11_rounds 41 = .ok (.getfield 40, 3) := by decide +kernel
theorem dX11_rounds_44 : decode cX11_rounds 44 = .ok (.aload_n 0, 1) := by decide +kernel
theorem dX11_rounds_45 : decode cX11_rounds 45 = .ok (.getfield 37, 3) := by decide +kernel
theorem dX11_rounds_48 : decode cX11_rounds 48 = .ok (.invokevirtual 259, 3) := by decide +kernel
theorem dX11_rounds_51 : decode cX11_rounds 51 = .ok (.aload_n 0, 1) := by decide +kernel
theorem dX11_rounds_52 : decode cX11_rounds 52 = .ok (.getfield 40, 3) := by decide +kernel
theorem dX11_rounds_55 : decode cX11_rounds 55 = .ok (.aload_n 0, 1) := by decide +kernel
theorem dX11_rounds_56 : decode cX11_rounds 56 = .ok (.getfield 40, 3) := by decide +kernel
theorem dX11_rounds_59 : decode cX11_rounds 59 = .ok (.getfield 168, 3) := by decide +kernel
theorem dX11_rounds_62 : decode cX11_rounds 62 = .ok (.aload_n 0, 1) := by decide +kernel
theorem dX11_rounds_63 : decode cX11_rounds 63 = .ok (.getfield 37, 3) := by decide +kernel
theorem dX11_rounds_66 : decode cX11_rounds 66 = .ok (.getfield 89, 3) := by decide +kernel
theorem dX11_rounds_69 : decode cX11_rounds 69 = .ok (.invokevirtual 233, 3) := by decide +kernel
theorem dX11_rounds_72 : decode cX11_rounds 72 = .ok (.ireturn, 1) := by decide +kernel
theorem dX11_settles_0 : decode cX11_settles 0 = .ok (.aload_n 0, 1) := by decide +kernel
theorem dX11_settles_1 : decode cX11_settles 1 = .ok (.invokevirtual 237, 3) := by decide +kernel
theorem dX11_settles_4 : decode cX11_settles 4 = .ok (.iconst 0, 1) := by decide +kernel
theorem dX11_settles_5 : decode cX11_settles 5 = .ok (.istore_n 1, 1) := by decide +kernel
theorem dX11_settles_6 : decode cX11_settles 6 = .ok (.iload_n 1, 1) := by decide +kernel
theorem dX11_settles_7 : decode cX11_settles 7 = .ok (.bipush 20, 2) := by decide +kernel
theorem dX11_settles_9 : decode cX11_settles 9 = .ok (.if_icmp .gt 18, 3) := by decide +kernel
theorem dX11_settles_12 : decode cX11_settles 12 = .ok (.aload_n 0, 1) := by decide +kernel
theorem dX11_settles_13 : decode cX11_settles 13 = .ok (.invokevirtual 255, 3) := by decide +kernel
theorem dX11_settles_16 : decode cX11_settles 16 = .ok (.ifCond .ne 5, 3) := by decide +kernel
theorem dX11_settles_19 : decode cX11_settles 19 = .ok (.iload_n 1, 1) := by decide +kernel
theorem dX11_settles_20 : decode cX11_settles 20 = .ok (.ireturn, 1) := by decide +kernel
theorem dX11_settles_21 : decode cX11_settles 21 = .ok (.iinc 1 1, 3) := by decide +kernel
theorem dX11_settles_24 : decode cX11_settles 24 = .ok (.goto (-18), 3) := by decide +kernel
theorem dX11_settles_27 : decode cX11_settles 27 = .ok (.iconst (-1), 1) := by decide +kernel
theorem dX11_settles_28 : decode cX11_settles 28 = .ok (.ireturn, 1) := by decide +kernel
theorem dX11_key_0 : decode cX11_key 0 = .ok (.aload_n 0, 1) := by decide +kernel
theorem dX11_key_1 : decode cX11_key 1 = .ok (.invokevirtual 119, 3) := by decide +kernel
theorem dX11_key_4 : decode cX11_key 4 = .ok (.astore_n 2, 1) := by decide +kernel
theorem dX11_key_5 : decode cX11_key 5 = .ok (.iload_n 1, 1) := by decide +kernel
theorem dX11_key_6 : decode cX11_key 6 = .ok (.ifCond .lt 14, 3) := by decide +kernel
theorem dX11_key_9 : decode cX11_key 9 = .ok (.iload_n 1, 1) := by decide +kernel
theorem dX11_key_10 : decode cX11_key 10 = .ok (.aload_n 2, 1) := by decide +kernel
theorem dX11_key_11 : decode cX11_key 11 = .ok (.getfield 123, 3) := by decide +kernel
theorem dX11_key_14 : decode cX11_key 14 = .ok (.getfield 127, 3) := by decide +kernel
theorem dX11_key_17 : decode cX11_key 17 = .ok (.if_icmp .lt 6, 3) := by decide +kernel
theorem dX11_key_20 : decode cX11_key 20 = .ok (.bipush (-2), 2) := by decide +kernel
theorem dX11_key_22 : decode cX11_key 22 = .ok (.ireturn, 1) := by decide +kernel
theorem dX11_key_23 : decode cX11_key 23 = .ok (.aload_n 2, 1) := by decide +kernel
theorem dX11_key_24 : decode cX11_key 24 = .ok (.getfield 123, 3) := by decide +kernel
theorem dX11_key_27 : decode cX11_key 27 = .ok (.iload_n 1, 1) := by decide +kernel
theorem dX11_key_28 : decode cX11_key 28 = .ok (.aload_n 2, 1) := by decide +kernel
theorem dX11_key_29 : decode cX11_key 29 = .ok (.getfield 168, 3) := by decide +kernel
theorem dX11_key_32 : decode cX11_key 32 = .ok (.invokevirtual 262, 3) := by decide +kernel
theorem dX11_key_35 : decode cX11_key 35 = .ok (.ireturn, 1) := by decide +kernel
theorem dX11_parted_0 : decode cX11_parted 0 = .ok (.iload_n 1, 1) := by decide +kernel
theorem dX11_parted_1 : decode cX11_parted 1 = .ok (.iconst 1, 1) := by decide +kernel
theorem dX11_parted_2 : decode cX11_parted 2 = .ok (.if_icmp .lt 14, 3) := by decide +kernel
theorem dX11_parted_5 : decode cX11_parted 5 = .ok (.iload_n 1, 1) := by decide +kernel
theorem dX11_parted_6 : decode cX11_parted 6 = .ok (.bipush 8, 2) := by decide +kernel
theorem dX11_parted_8 : decode cX11_parted 8 = .ok (.if_icmp .gt 8, 3) := by decide +kernel
theorem dX11_parted_11 : decode cX11_parted 11 = .ok (.iload_n 2, 1) := by decide +kernel
theorem dX11_parted_12 : decode cX11_parted 12 = .ok (.iconst (-1), 1) := by decide +kernel
theorem dX11_parted_13 : decode cX11_parted 13 = .ok (.if_icmp .ge 6, 3) := by decide +kernel
theorem dX11_parted_16 : decode cX11_parted 16 = .ok (.bipush (-3), 2) := by decide +kernel
theorem dX11_parted_18 : decode cX11_parted 18 = .ok (.ireturn, 1) := by decide +kernel
theorem dX11_parted_19 : decode cX11_parted 19 = .ok (.aload_n 0, 1) := by decide +kernel
theorem dX11_parted_20 : decode cX11_parted 20 = .ok (.getfield 10, 3) := by decide +kernel
theorem dX11_parted_23 : decode cX11_parted 23 = .ok (.getfield 89, 3) := by decide +kernel
theorem dX11_parted_26 : decode cX11_parted 26 = .ok (.iload_n 1, 1) := by decide +kernel
theorem dX11_parted_27 : decode cX11_parted 27 = .ok (.if_icmp .lt 8, 3) := by decide +kernel
theorem dX11_parted_30 : decode cX11_parted 30 = .ok (.iload_n 2, 1) := by decide +kernel
theorem dX11_parted_31 : decode cX11_parted 31 = .ok (.iload_n 1, 1) := by decide +kernel
theorem dX11_parted_32 : decode cX11_parted 32 = .ok (.if_icmp .lt 5, 3) := by decide +kernel
theorem dX11_parted_35 : decode cX11_parted 35 = .ok (.iconst (-1), 1) := by decide +kernel
theorem dX11_parted_36 : decode cX11_parted 36 = .ok (.ireturn, 1) := by decide +kernel
theorem dX11_parted_37 : decode cX11_parted 37 = .ok (.aload_n 0, 1) := by decide +kernel
theorem dX11_parted_38 : decode cX11_parted 38 = .ok (.getfield 46, 3) := by decide +kernel
theorem dX11_parted_41 : decode cX11_parted 41 = .ok (.aload_n 0, 1) := by decide +kernel
theorem dX11_parted_42 : decode cX11_parted 42 = .ok (.invokevirtual 119, 3) := by decide +kernel
theorem dX11_parted_45 : decode cX11_parted 45 = .ok (.getfield 168, 3) := by decide +kernel
theorem dX11_parted_48 : decode cX11_parted 48 = .ok (.aload_n 0, 1) := by decide +kernel
theorem dX11_parted_49 : decode cX11_parted 49 = .ok (.getfield 10, 3) := by decide +kernel
theorem dX11_parted_52 : decode cX11_parted 52 = .ok (.getfield 89, 3) := by decide +kernel
theorem dX11_parted_55 : decode cX11_parted 55 = .ok (.invokevirtual 266, 3) := by decide +kernel
theorem dX11_parted_58 : decode cX11_parted 58 = .ok (.iload_n 2, 1) := by decide +kernel
theorem dX11_parted_59 : decode cX11_parted 59 = .ok (.iconst (-1), 1) := by decide +kernel
theorem dX11_parted_60 : decode cX11_parted 60 = .ok (.if_icmp .ne 15, 3) := by decide +kernel
theorem dX11_parted_63 : decode cX11_parted 63 = .ok (.aload_n 0, 1) := by decide +kernel
theorem dX11_parted_64 : decode cX11_parted 64 = .ok (.getfield 46, 3) := by decide +kernel
theorem dX11_parted_67 : decode cX11_parted 67 = .ok (.iload_n 1, 1) := by decide +kernel
theorem dX11_parted_68 : decode cX11_parted 68 = .ok (.iconst 0, 1) := by decide +kernel
theorem dX11_parted_69 : decode cX11_parted 69 = .ok (.invokevirtual 270, 3) := by decide +kernel
theorem dX11_parted_72 : decode cX11_parted 72 = .ok (.goto 12, 3) := by decide +kernel
theorem dX11_parted_75 : decode cX11_parted 75 = .ok (.aload_n 0, 1) := by decide +kernel
theorem dX11_parted_76 : decode cX11_parted 76 = .ok (.getfield 46, 3) := by decide +kernel
theorem dX11_parted_79 : decode cX11_parted 79 = .ok (.iload_n 1, 1) := by decide +kernel
theorem dX11_parted_80 : decode cX11_parted 80 = .ok (.iload_n 2, 1) := by decide +kernel
theorem dX11_parted_81 : decode cX11_parted 81 = .ok (.invokevirtual 273, 3) := by decide +kernel
theorem dX11_parted_84 : decode cX11_parted 84 = .ok (.ireturn, 1) := by decide +kernel
theorem dX11_shift_0 : decode cX11_shift 0 = .ok (.aload_n 0, 1) := by decide +kernel
theorem dX11_shift_1 : decode cX11_shift 1 = .ok (.getfield 10, 3) := by decide +kernel
theorem dX11_shift_4 : decode cX11_shift 4 = .ok (.iload_n 1, 1) := by decide +kernel
theorem dX11_shift_5 : decode cX11_shift 5 = .ok (.invokevirtual 113, 3) := by decide +kernel
theorem dX11_shift_8 : decode cX11_shift 8 = .ok (.ifCond .eq 12, 3) := by decide +kernel
theorem dX11_shift_11 : decode cX11_shift 11 = .ok (.iload_n 2, 1) := by decide +kernel
theorem dX11_shift_12 : decode cX11_shift 12 = .ok (.ifCond .lt 8, 3) := by decide +kernel
theorem dX11_shift_15 : decode cX11_shift 15 = .ok (.iload_n 2, 1) := by decide +kernel
theorem dX11_shift_16 : decode cX11_shift 16 = .ok (.iconst 2, 1) := by decide +kernel
theorem dX11_shift_17 : decode cX11_shift 17 = .ok (.if_icmp .le 6, 3) := by decide +kernel
theorem dX11_shift_20 : decode cX11_shift 20 = .ok (.bipush (-2), 2) := by decide +kernel
theorem dX11_shift_22 : decode cX11_shift 22 = .ok (.ireturn, 1) := by decide +kernel
theorem dX11_shift_23 : decode cX11_shift 23 = .ok (.iload_n 1, 1) := by decide +kernel
theorem dX11_shift_24 : decode cX11_shift 24 = .ok (.iconst 1, 1) := by decide +kernel
theorem dX11_shift_25 : decode cX11_shift 25 = .ok (.iadd, 1) := by decide +kernel
theorem dX11_shift_26 : decode cX11_shift 26 = .ok (.aload_n 0, 1) := by decide +kernel
theorem dX11_shift_27 : decode cX11_shift 27 = .ok (.getfield 10, 3) := by decide +kernel
theorem dX11_shift_30 : decode cX11_shift 30 = .ok (.getfield 89, 3) := by decide +kernel
theorem dX11_shift_33 : decode cX11_shift 33 = .ok (.if_icmp .lt 5, 3) := by decide +kernel
theorem dX11_shift_36 : decode cX11_shift 36 = .ok (.iconst (-1), 1) := by decide +kernel
theorem dX11_shift_37 : decode cX11_shift 37 = .ok (.ireturn, 1) := by decide +kernel
theorem dX11_shift_38 : decode cX11_shift 38 = .ok (.aload_n 0, 1) := by decide +kernel
theorem dX11_shift_39 : decode cX11_shift 39 = .ok (.getfield 60, 3) := by decide +kernel
theorem dX11_shift_42 : decode cX11_shift 42 = .ok (.aload_n 0, 1) := by decide +kernel
theorem dX11_shift_43 : decode cX11_shift 43 = .ok (.getfield 10, 3) := by decide +kernel
theorem dX11_shift_46 : decode cX11_shift 46 = .ok (.iload_n 1, 1) := by decide +kernel
theorem dX11_shift_47 : decode cX11_shift 47 = .ok (.invokevirtual 276, 3) := by decide +kernel
theorem dX11_shift_50 : decode cX11_shift 50 = .ok (.iload_n 2, 1) := by decide +kernel
theorem dX11_shift_51 : decode cX11_shift 51 = .ok (.lookupswitch 45 #[(0, 25), (1, 35)], 25) := by decide +kernel
theorem dX11_shift_76 : decode cX11_shift 76 = .ok (.aload_n 0, 1) := by decide +kernel
theorem dX11_shift_77 : decode cX11_shift 77 = .ok (.getfield 60, 3) := by decide +kernel
theorem dX11_shift_80 : decode cX11_shift 80 = .ok (.getfield 279, 3) := by decide +kernel
theorem dX11_shift_83 : decode cX11_shift 83 = .ok (.iconst 2, 1) := by decide +kernel
theorem dX11_shift_84 : decode cX11_shift 84 = .ok (.iadd, 1) := by decide +kernel
theorem dX11_shift_85 : decode cX11_shift 85 = .ok (.ireturn, 1) := by decide +kernel
theorem dX11_shift_86 : decode cX11_shift 86 = .ok (.aload_n 0, 1) := by decide +kernel
theorem dX11_shift_87 : decode cX11_shift 87 = .ok (.getfield 60, 3) := by decide +kernel
theorem dX11_shift_90 : decode cX11_shift 90 = .ok (.getfield 282, 3) := by decide +kernel
theorem dX11_shift_93 : decode cX11_shift 93 = .ok (.iconst 2, 1) := by decide +kernel
theorem dX11_shift_94 : decode cX11_shift 94 = .ok (.iadd, 1) := by decide +kernel
theorem dX11_shift_95 : decode cX11_shift 95 = .ok (.ireturn, 1) := by decide +kernel
theorem dX11_shift_96 : decode cX11_shift 96 = .ok (.aload_n 0, 1) := by decide +kernel
theorem dX11_shift_97 : decode cX11_shift 97 = .ok (.getfield 60, 3) := by decide +kernel
theorem dX11_shift_100 : decode cX11_shift 100 = .ok (.getfield 285, 3) := by decide +kernel
theorem dX11_shift_103 : decode cX11_shift 103 = .ok (.ireturn, 1) := by decide +kernel
theorem dX11_alike_0 : decode cX11_alike 0 = .ok (.iload_n 1, 1) := by decide +kernel
theorem dX11_alike_1 : decode cX11_alike 1 = .ok (.iconst (-1), 1) := by decide +kernel
theorem dX11_alike_2 : decode cX11_alike 2 = .ok (.if_icmp .ne 46, 3) := by decide +kernel
theorem dX11_alike_5 : decode cX11_alike 5 = .ok (.iconst 0, 1) := by decide +kernel
theorem dX11_alike_6 : decode cX11_alike 6 = .ok (.istore_n 2, 1) := by decide +kernel
theorem dX11_alike_7 : decode cX11_alike 7 = .ok (.iconst 0, 1) := by decide +kernel
theorem dX11_alike_8 : decode cX11_alike 8 = .ok (.istore_n 3, 1) := by decide +kernel
theorem dX11_alike_9 : decode cX11_alike 9 = .ok (.iload_n 3, 1) := by decide +kernel
theorem dX11_alike_10 : decode cX11_alike 10 = .ok (.aload_n 0, 1) := by decide +kernel
theorem dX11_alike_11 : decode cX11_alike 11 = .ok (.getfield 10, 3) := by decide +kernel
theorem dX11_alike_14 : decode cX11_alike 14 = .ok (.getfield 89, 3) := by decide +kernel
theorem dX11_alike_17 : decode cX11_alike 17 = .ok (.if_icmp .ge 29, 3) := by decide +kernel
theorem dX11_alike_20 : decode cX11_alike 20 = .ok (.iload_n 2, 1) := by decide +kernel
theorem dX11_alike_21 : decode cX11_alike 21 = .ok (.aload_n 0, 1) := by decide +kernel
theorem dX11_alike_22 : decode cX11_alike 22 = .ok (.getfield 10, 3) := by decide +kernel
theorem dX11_alike_25 : decode cX11_alike 25 = .ok (.iload_n 3, 1) := by decide +kernel
theorem dX11_alike_26 : decode cX11_alike 26 = .ok (.invokevirtual 287, 3) := by decide +kernel
theorem dX11_alike_29 : decode cX11_alike 29 = .ok (.iload_n 3, 1) := by decide +kernel
theorem dX11_alike_30 : decode cX11_alike 30 = .ok (.if_icmp .ne 7, 3) := by decide +kernel
theorem dX11_alike_33 : decode cX11_alike 33 = .ok (.iconst 1, 1) := by decide +kernel
theorem dX11_alike_34 : decode cX11_alike 34 = .ok (.goto 4, 3) := by decide +kernel
theorem dX11_alike_37 : decode cX11_alike 37 = .ok (.iconst 0, 1) := by decide +kernel
theorem dX11_alike_38 : decode cX11_alike 38 = .ok (.iadd, 1) := by decide +kernel
theorem dX11_alike_39 : decode cX11_alike 39 = .ok (.istore_n 2, 1) := by decide +kernel
theorem dX11_alike_40 : decode cX11_alike 40 = .ok (.iinc 3 1, 3) := by decide +kernel
theorem dX11_alike_43 : decode cX11_alike 43 = .ok (.goto (-34), 3) := by decide +kernel
theorem dX11_alike_46 : decode cX11_alike 46 = .ok (.iload_n 2, 1) := by decide +kernel
theorem dX11_alike_47 : decode cX11_alike 47 = .ok (.ireturn, 1) := by decide +kernel
theorem dX11_alike_48 : decode cX11_alike 48 = .ok (.aload_n 0, 1) := by decide +kernel
theorem dX11_alike_49 : decode cX11_alike 49 = .ok (.getfield 10, 3) := by decide +kernel
theorem dX11_alike_52 : decode cX11_alike 52 = .ok (.iload_n 1, 1) := by decide +kernel
theorem dX11_alike_53 : decode cX11_alike 53 = .ok (.invokevirtual 113, 3) := by decide +kernel
theorem dX11_alike_56 : decode cX11_alike 56 = .ok (.ifCond .eq 14, 3) := by decide +kernel
theorem dX11_alike_59 : decode cX11_alike 59 = .ok (.aload_n 0, 1) := by decide +kernel
theorem dX11_alike_60 : decode cX11_alike 60 = .ok (.getfield 10, 3) := by decide +kernel
theorem dX11_alike_63 : decode cX11_alike 63 = .ok (.iload_n 1, 1) := by decide +kernel
theorem dX11_alike_64 : decode cX11_alike 64 = .ok (.invokevirtual 287, 3) := by decide +kernel
theorem dX11_alike_67 : decode cX11_alike 67 = .ok (.goto 5, 3) := by decide +kernel
theorem dX11_alike_70 : decode cX11_alike 70 = .ok (.bipush (-2), 2) := by decide +kernel
theorem dX11_alike_72 : decode cX11_alike 72 = .ok (.ireturn, 1) := by decide +kernel
theorem dX11_nearest_0 : decode cX11_nearest 0 = .ok (.aload_n 0, 1) := by decide +kernel
theorem dX11_nearest_1 : decode cX11_nearest 1 = .ok (.getfield 10, 3) := by decide +kernel
theorem dX11_nearest_4 : decode cX11_nearest 4 = .ok (.iload_n 1, 1) := by decide +kernel
theorem dX11_nearest_5 : decode cX11_nearest 5 = .ok (.invokevirtual 113, 3) := by decide +kernel
theorem dX11_nearest_8 : decode cX11_nearest 8 = .ok (.ifCond .ne 6, 3) := by decide +kernel
theorem dX11_nearest_11 : decode cX11_nearest 11 = .ok (.bipush (-2), 2) := by decide +kernel
theorem dX11_nearest_13 : decode cX11_nearest 13 = .ok (.ireturn, 1) := by decide +kernel
theorem dX11_nearest_14 : decode cX11_nearest 14 = .ok (.aload_n 0, 1) := by decide +kernel
theorem dX11_nearest_15 : decode cX11_nearest 15 = .ok (.invokevirtual 119, 3) := by decide +kernel
theorem dX11_nearest_18 : decode cX11_nearest 18 = .ok (.getfield 168, 3) := by decide +kernel
theorem dX11_nearest_21 : decode cX11_nearest 21 = .ok (.astore_n 2, 1) := by decide +kernel
theorem dX11_nearest_22 : decode cX11_nearest 22 = .ok (.iconst (-1), 1) := by decide +kernel
theorem dX11_nearest_23 : decode cX11_nearest 23 = .ok (.istore_n 3, 1) := by decide +kernel
theorem dX11_nearest_24 : decode cX11_nearest 24 = .ok (.ldc 240, 2) := by decide +kernel
theorem dX11_nearest_26 : decode cX11_nearest 26 = .ok (.istore 4, 2) := by decide +kernel
theorem dX11_nearest_28 : decode cX11_nearest 28 = .ok (.iconst 0, 1) := by decide +kernel
theorem dX11_nearest_29 : decode cX11_nearest 29 = .ok (.istore 5, 2) := by decide +kernel
theorem dX11_nearest_31 : decode cX11_nearest 31 = .ok (.iload 5, 2) := by decide +kernel
theorem dX11_nearest_33 : decode cX11_nearest 33 = .ok (.aload_n 0, 1) := by decide +kernel
theorem dX11_nearest_34 : decode cX11_nearest 34 = .ok (.getfield 10, 3) := by decide +kernel
theorem dX11_nearest_37 : decode cX11_nearest 37 = .ok (.getfield 89, 3) := by decide +kernel
theorem dX11_nearest_40 : decode cX11_nearest 40 = .ok (.if_icmp .ge 38, 3) := by decide +kernel
theorem dX11_nearest_43 : decode cX11_nearest 43 = .ok (.aload_n 2, 1) := by decide +kernel
theorem dX11_nearest_44 : decode cX11_nearest 44 = .ok (.iload 5, 2) := by decide +kernel
theorem dX11_nearest_46 : decode cX11_nearest 46 = .ok (.iload_n 1, 1) := by decide +kernel
theorem dX11_nearest_47 : decode cX11_nearest 47 = .ok (.invokevirtual 214, 3) := by decide +kernel
theorem dX11_nearest_50 : decode cX11_nearest 50 = .ok (.istore 6, 2) := by decide +kernel
theorem dX11_nearest_52 : decode cX11_nearest 52 = .ok (.iload 5, 2) := by decide +kernel
theorem dX11_nearest_54 : decode cX11_nearest 54 = .ok (.iload_n 1, 1) := by decide +kernel
theorem dX11_nearest_55 : decode cX11_nearest 55 = .ok (.if_icmp .eq 17, 3) := by decide +kernel
theorem dX11_nearest_58 : decode cX11_nearest 58 = .ok (.iload 6, 2) := by decide +kernel
theorem dX11_nearest_60 : decode cX11_nearest 60 = .ok (.iload 4, 2) := by decide +kernel
theorem dX11_nearest_62 : decode cX11_nearest 62 = .ok (.if_icmp .ge 10, 3) := by decide +kernel
theorem dX11_nearest_65 : decode cX11_nearest 65 = .ok (.iload 5, 2) := by decide +kernel
theorem dX11_nearest_67 : decode cX11_nearest 67 = .ok (.istore_n 3, 1) := by decide +kernel
theorem dX11_nearest_68 : decode cX11_nearest 68 = .ok (.iload 6, 2) := by decide +kernel
theorem dX11_nearest_70 : decode cX11_nearest 70 = .ok (.istore 4, 2) := by decide +kernel
theorem dX11_nearest_72 : decode cX11_nearest 72 = .ok (.iinc 5 1, 3) := by decide +kernel
theorem dX11_nearest_75 : decode cX11_nearest 75 = .ok (.goto (-44), 3) := by decide +kernel
theorem dX11_nearest_78 : decode cX11_nearest 78 = .ok (.iload_n 3, 1) := by decide +kernel
theorem dX11_nearest_79 : decode cX11_nearest 79 = .ok (.ireturn, 1) := by decide +kernel
theorem dX11_kinds_0 : decode cX11_kinds 0 = .ok (.aload_n 0, 1) := by decide +kernel
theorem dX11_kinds_1 : decode cX11_kinds 1 = .ok (.iload_n 1, 1) := by decide +kernel
theorem dX11_kinds_2 : decode cX11_kinds 2 = .ok (.invokevirtual 210, 3) := by decide +kernel
theorem dX11_kinds_5 : decode cX11_kinds 5 = .ok (.astore_n 2, 1) := by decide +kernel
theorem dX11_kinds_6 : decode cX11_kinds 6 = .ok (.iconst 0, 1) := by decide +kernel
theorem dX11_kinds_7 : decode cX11_kinds 7 = .ok (.istore_n 3, 1) := by decide +kernel
theorem dX11_kinds_8 : decode cX11_kinds 8 = .ok (.iconst 0, 1) := by decide +kernel
theorem dX11_kinds_9 : decode cX11_kinds 9 = .ok (.istore 4, 2) := by decide +kernel
theorem dX11_kinds_11 : decode cX11_kinds 11 = .ok (.iload 4, 2) := by decide +kernel
theorem dX11_kinds_13 : decode cX11_kinds 13 = .ok (.aload_n 0, 1) := by decide +kernel
theorem dX11_kinds_14 : decode cX11_kinds 14 = .ok (.getfield 10, 3) := by decide +kernel
theorem dX11_kinds_17 : decode cX11_kinds 17 = .ok (.getfield 89, 3) := by decide +kernel
theorem dX11_kinds_20 : decode cX11_kinds 20 = .ok (.if_icmp .ge 26, 3) := by decide +kernel
theorem dX11_kinds_23 : decode cX11_kinds 23 = .ok (.iload_n 3, 1) := by decide +kernel
theorem dX11_kinds_24 : decode cX11_kinds 24 = .ok (.aload_n 2, 1) := by decide +kernel
theorem dX11_kinds_25 : decode cX11_kinds 25 = .ok (.iload 4, 2) := by decide +kernel
theorem dX11_kinds_27 : decode cX11_kinds 27 = .ok (.invokevirtual 290, 3) := by decide +kernel
theorem dX11_kinds_30 : decode cX11_kinds 30 = .ok (.ifCond .eq 7, 3) := by decide +kernel
theorem dX11_kinds_33 : decode cX11_kinds 33 = .ok (.iconst 1, 1) := by decide +kernel
theorem dX11_kinds_34 : decode cX11_kinds 34 = .ok (.goto 4, 3) := by decide +kernel
theorem dX11_kinds_37 : decode cX11_kinds 37 = .ok (.iconst 0, 1) := by decide +kernel
theorem dX11_kinds_38 : decode cX11_kinds 38 = .ok (.iadd, 1) := by decide +kernel
theorem dX11_kinds_39 : decode cX11_kinds 39 = .ok (.istore_n 3, 1) := by decide +kernel
theorem dX11_kinds_40 : decode cX11_kinds 40 = .ok (.iinc 4 1, 3) := by decide +kernel
theorem dX11_kinds_43 : decode cX11_kinds 43 = .ok (.goto (-32), 3) := by decide +kernel
theorem dX11_kinds_46 : decode cX11_kinds 46 = .ok (.iload_n 3, 1) := by decide +kernel
theorem dX11_kinds_47 : decode cX11_kinds 47 = .ok (.ireturn, 1) := by decide +kernel
theorem dX11_fitted_0 : decode cX11_fitted 0 = .ok (.aload_n 0, 1) := by decide +kernel
theorem dX11_fitted_1 : decode cX11_fitted 1 = .ok (.getfield 10, 3) := by decide +kernel
theorem dX11_fitted_4 : decode cX11_fitted 4 = .ok (.iload_n 1, 1) := by decide +kernel
theorem dX11_fitted_5 : decode cX11_fitted 5 = .ok (.invokevirtual 113, 3) := by decide +kernel
theorem dX11_fitted_8 : decode cX11_fitted 8 = .ok (.ifCond .eq 14, 3) := by decide +kernel
theorem dX11_fitted_11 : decode cX11_fitted 11 = .ok (.aload_n 0, 1) := by decide +kernel
theorem dX11_fitted_12 : decode cX11_fitted 12 = .ok (.getfield 10, 3) := by decide +kernel
theorem dX11_fitted_15 : decode cX11_fitted 15 = .ok (.iload_n 2, 1) := by decide +kernel
theorem dX11_fitted_16 : decode cX11_fitted 16 = .ok (.invokevirtual 113, 3) := by decide +kernel
theorem dX11_fitted_19 : decode cX11_fitted 19 = .ok (.ifCond .ne 6, 3) := by decide +kernel
theorem dX11_fitted_22 : decode cX11_fitted 22 = .ok (.bipush (-2), 2) := by decide +kernel
theorem dX11_fitted_24 : decode cX11_fitted 24 = .ok (.ireturn, 1) := by decide +kernel
theorem dX11_fitted_25 : decode cX11_fitted 25 = .ok (.iload_n 3, 1) := by decide +kernel
theorem dX11_fitted_26 : decode cX11_fitted 26 = .ok (.iconst (-1), 1) := by decide +kernel
theorem dX11_fitted_27 : decode cX11_fitted 27 = .ok (.if_icmp .eq 13, 3) := by decide +kernel
theorem dX11_fitted_30 : decode cX11_fitted 30 = .ok (.iload_n 3, 1) := by decide +kernel
theorem dX11_fitted_31 : decode cX11_fitted 31 = .ok (.invokestatic 140, 3) := by decide +kernel
theorem dX11_fitted_34 : decode cX11_fitted 34 = .ok (.ifCond .ne 6, 3) := by decide +kernel
theorem dX11_fitted_37 : decode cX11_fitted 37 = .ok (.bipush (-3), 2) := by decide +kernel
theorem dX11_fitted_39 : decode cX11_fitted 39 = .ok (.ireturn, 1) := by decide +kernel
theorem dX11_fitted_40 : decode cX11_fitted 40 = .ok (.aload_n 0, 1) := by decide +kernel
theorem dX11_fitted_41 : decode cX11_fitted 41 = .ok (.getfield 53, 3) := by decide +kernel
theorem dX11_fitted_44 : decode cX11_fitted 44 = .ok (.aload_n 0, 1) := by decide +kernel
theorem dX11_fitted_45 : decode cX11_fitted 45 = .ok (.getfield 10, 3) := by decide +kernel
theorem dX11_fitted_48 : decode cX11_fitted 48 = .ok (.iload_n 1, 1) := by decide +kernel
theorem dX11_fitted_49 : decode cX11_fitted 49 = .ok (.iload_n 2, 1) := by decide +kernel
theorem dX11_fitted_50 : decode cX11_fitted 50 = .ok (.invokevirtual 293, 3) := by decide +kernel
theorem dX11_fitted_53 : decode cX11_fitted 53 = .ok (.iload_n 3, 1) := by decide +kernel
theorem dX11_fitted_54 : decode cX11_fitted 54 = .ok (.iconst (-1), 1) := by decide +kernel
theorem dX11_fitted_55 : decode cX11_fitted 55 = .ok (.if_icmp .ne 15, 3) := by decide +kernel
theorem dX11_fitted_58 : decode cX11_fitted 58 = .ok (.aload_n 0, 1) := by decide +kernel
theorem dX11_fitted_59 : decode cX11_fitted 59 = .ok (.getfield 53, 3) := by decide +kernel
theorem dX11_fitted_62 : decode cX11_fitted 62 = .ok (.getfield 296, 3) := by decide +kernel
theorem dX11_fitted_65 : decode cX11_fitted 65 = .ok (.iconst 0, 1) := by decide +kernel
theorem dX11_fitted_66 : decode cX11_fitted 66 = .ok (.iaload, 1) := by decide +kernel
theorem dX11_fitted_67 : decode cX11_fitted 67 = .ok (.goto 11, 3) := by decide +kernel
theorem dX11_fitted_70 : decode cX11_fitted 70 = .ok (.aload_n 0, 1) := by decide +kernel
theorem dX11_fitted_71 : decode cX11_fitted 71 = .ok (.getfield 53, 3) := by decide +kernel
theorem dX11_fitted_74 : decode cX11_fitted 74 = .ok (.iload_n 3, 1) := by decide +kernel
theorem dX11_fitted_75 : decode cX11_fitted 75 = .ok (.invokevirtual 298, 3) := by decide +kernel
theorem dX11_fitted_78 : decode cX11_fitted 78 = .ok (.ireturn, 1) := by decide +kernel
theorem dX11_lost_0 : decode cX11_lost 0 = .ok (.aload_n 0, 1) := by decide +kernel
theorem dX11_lost_1 : decode cX11_lost 1 = .ok (.getfield 10, 3) := by decide +kernel
theorem dX11_lost_4 : decode cX11_lost 4 = .ok (.iload_n 1, 1) := by decide +kernel
theorem dX11_lost_5 : decode cX11_lost 5 = .ok (.invokevirtual 113, 3) := by decide +kernel
theorem dX11_lost_8 : decode cX11_lost 8 = .ok (.ifCond .ne 6, 3) := by decide +kernel
theorem dX11_lost_11 : decode cX11_lost 11 = .ok (.bipush (-2), 2) := by decide +kernel
theorem dX11_lost_13 : decode cX11_lost 13 = .ok (.ireturn, 1) := by decide +kernel
theorem dX11_lost_14 : decode cX11_lost 14 = .ok (.aload_n 0, 1) := by decide +kernel
theorem dX11_lost_15 : decode cX11_lost 15 = .ok (.invokevirtual 146, 3) := by decide +kernel
theorem dX11_lost_18 : decode cX11_lost 18 = .ok (.astore_n 2, 1) := by decide +kernel
theorem dX11_lost_19 : decode cX11_lost 19 = .ok (.iconst 0, 1) := by decide +kernel
theorem dX11_lost_20 : decode cX11_lost 20 = .ok (.istore_n 3, 1) := by decide +kernel
theorem dX11_lost_21 : decode cX11_lost 21 = .ok (.iconst 0, 1) := by decide +kernel
theorem dX11_lost_22 : decode cX11_lost 22 = .ok (.istore 4, 2) := by decide +kernel
theorem dX11_lost_24 : decode cX11_lost 24 = .ok (.iload 4, 2) := by decide +kernel
theorem dX11_lost_26 : decode cX11_lost 26 = .ok (.bipush 16, 2) := by decide +kernel
theorem dX11_lost_28 : decode cX11_lost 28 = .ok (.if_icmp .ge 27, 3) := by decide +kernel
theorem dX11_lost_31 : decode cX11_lost 31 = .ok (.iload_n 3, 1) := by decide +kernel
theorem dX11_lost_32 : decode cX11_lost 32 = .ok (.aload_n 2, 1) := by decide +kernel
theorem dX11_lost_33 : decode cX11_lost 33 = .ok (.iload_n 1, 1) := by decide +kernel
theorem dX11_lost_34 : decode cX11_lost 34 = .ok (.iload 4, 2) := by decide +kernel
theorem dX11_lost_36 : decode cX11_lost 36 = .ok (.invokevirtual 301, 3) := by decide +kernel
theorem dX11_lost_39 : decode cX11_lost 39 = .ok (.ifCond .eq 7, 3) := by decide +kernel
theorem dX11_lost_42 : decode cX11_lost 42 = .ok (.iconst 1, 1) := by decide +kernel
theorem dX11_lost_43 : decode cX11_lost 43 = .ok (.goto 4, 3) := by decide +kernel
theorem dX11_lost_46 : decode cX11_lost 46 = .ok (.iconst 0, 1) := by decide +kernel
theorem dX11_lost_47 : decode cX11_lost 47 = .ok (.iadd, 1) := by decide +kernel
theorem dX11_lost_48 : decode cX11_lost 48 = .ok (.istore_n 3, 1) := by decide +kernel
theorem dX11_lost_49 : decode cX11_lost 49 = .ok (.iinc 4 1, 3) := by decide +kernel
theorem dX11_lost_52 : decode cX11_lost 52 = .ok (.goto (-28), 3) := by decide +kernel
theorem dX11_lost_55 : decode cX11_lost 55 = .ok (.iload_n 3, 1) := by decide +kernel
theorem dX11_lost_56 : decode cX11_lost 56 = .ok (.ireturn, 1) := by decide +kernel
theorem dX11_setting_0 : decode cX11_setting 0 = .ok (.iload_n 1, 1) := by decide +kernel
theorem dX11_setting_1 : decode cX11_setting 1 = .ok (.invokestatic 95, 3) := by decide +kernel
theorem dX11_setting_4 : decode cX11_setting 4 = .ok (.ifCond .eq 15, 3) := by decide +kernel
theorem dX11_setting_7 : decode cX11_setting 7 = .ok (.aload_n 0, 1) := by decide +kernel
theorem dX11_setting_8 : decode cX11_setting 8 = .ok (.getfield 10, 3) := by decide +kernel
theorem dX11_setting_11 : decode cX11_setting 11 = .ok (.getfield 103, 3) := by decide +kernel
theorem dX11_setting_14 : decode cX11_setting 14 = .ok (.iload_n 1, 1) := by decide +kernel
theorem dX11_setting_15 : decode cX11_setting 15 = .ok (.iaload, 1) := by decide +kernel
theorem dX11_setting_16 : decode cX11_setting 16 = .ok (.goto 5, 3) := by decide +kernel
theorem dX11_setting_19 : decode cX11_setting 19 = .ok (.bipush (-2), 2) := by decide +kernel
theorem dX11_setting_21 : decode cX11_setting 21 = .ok (.ireturn, 1) := by decide +kernel
theorem dX11_count_0 : decode cX11_count 0 = .ok (.iload_n 1, 1) := by decide +kernel
theorem dX11_count_1 : decode cX11_count 1 = .ok (.tableswitch 113 0 6 #[43, 51, 59, 67, 82, 97, 105], 43) := by decide +kernel
theorem dX11_count_44 : decode cX11_count 44 = .ok (.aload_n 0, 1) := by decide +kernel
theorem dX11_count_45 : decode cX11_count 45 = .ok (.getfield 10, 3) := by decide +kernel
theorem dX11_count_48 : decode cX11_count 48 = .ok (.getfield 304, 3) := by decide +kernel
theorem dX11_count_51 : decode cX11_count 51 = .ok (.ireturn, 1) := by decide +kernel
theorem dX11_count_52 : decode cX11_count 52 = .ok (.aload_n 0, 1) := by decide +kernel
theorem dX11_count_53 : decode cX11_count 53 = .ok (.getfield 10, 3) := by decide +kernel
theorem dX11_count_56 : decode cX11_count 56 = .ok (.getfield 307, 3) := by decide +kernel
theorem dX11_count_59 : decode cX11_count 59 = .ok (.ireturn, 1) := by decide +kernel
theorem dX11_count_60 : decode cX11_count 60 = .ok (.aload_n 0, 1) := by decide +kernel
theorem dX11_count_61 : decode cX11_count 61 = .ok (.getfield 10, 3) := by decide +kernel
theorem dX11_count_64 : decode cX11_count 64 = .ok (.getfield 89, 3) := by decide +kernel
theorem dX11_count_67 : decode cX11_count 67 = .ok (.ireturn, 1) := by decide +kernel
theorem dX11_count_68 : decode cX11_count 68 = .ok (.aload_n 0, 1) := by decide +kernel
theorem dX11_count_69 : decode cX11_count 69 = .ok (.getfield 10, 3) := by decide +kernel
theorem dX11_count_72 : decode cX11_count 72 = .ok (.aload_n 0, 1) := by decide +kernel
theorem dX11_count_73 : decode cX11_count 73 = .ok (.getfield 10, 3) := by decide +kernel
theorem dX11_count_76 : decode cX11_count 76 = .ok (.getfield 130, 3) := by decide +kernel
